/-! ===== the invariant at the beginning ===== -/
section IN
variable {m : vm_M} {L : Nat} {xs : Nat → Int32}
def d0W (a : Int) : Int := if a = 0 then 10 else 0
def d0 : vD := (d0W, (fun _ => 1), 10, (fun _ => 0), (fun _ => 0), (fun _ => 0), 0)
def e0 (m : vm_M) : Int → Int := fun k => m 100 k
def z0 (m : vm_M) : vZs := (0, (fun _ => 0), m 0 14, 0, (fun _ => teN d0 (e0 m)), (fun _ => 0), fun _ => teN d0 (e0 m))
theorem d0_k {a : Int} : dk d0 a ↔ a = 0 := by
  show (0 ≤ a ∧ a < 26 ∧ 0 < (if a = 0 then (10 : Int) else 0)) ↔ a = 0
  constructor
  · intro h
    refine Decidable.byContradiction (fun q => ?_)
    rw [if_neg q] at h
    omega
  · intro h
    rw [if_pos h]
    omega
theorem vtl_0 : vs (vtl d0) 26 = 1 := by
  have h : ∀ n : Nat, 0 < n → vs (vtl d0) n = 1 := by
    intro n
    induction n with
    | zero => intro h; omega
    | succ n ih =>
      intro _
      show vs (vtl d0) n + vtl d0 (n : Int) = 1
      unfold vtl
      by_cases q : n = 0
      · subst q
        rw [vif_t (show (0 : Int) < dW d0 ((0 : Nat) : Int) by decide)]
        rfl
      · rw [vif_f (show ¬ 0 < dW d0 (n : Int) from fun x => by
          have x2 : 0 < (if (n : Int) = 0 then (10 : Int) else 0) := x
          rw [if_neg (by omega)] at x2
          omega)]
        have := ih (by omega)
        unfold vtl at this
        rw [this]; rfl
  exact h 26 (by decide)
theorem bits_0 : (List.range 26).all (fun a => decide (vm_and (vm_shr 1 (a : Int)) 1 = 1) == decide (a = 0)) = true := by decide +kernel
theorem ini_m (hS : vm_inS m = true) (hE : vm_inE m = true) (hA : vm_inA m = true) (hK : vm_inK m = true) (hT : vST m) : INV m := by
  unfold vm_inS at hS
  unfold vm_inE at hE
  unfold vm_inA at hA
  unfold vm_inK at hK
  simp only [Bool.and_eq_true, decide_eq_true_eq] at hS hE hA
  obtain ⟨⟨⟨⟨⟨⟨⟨⟨⟨⟨⟨⟨⟨⟨s1, s2⟩, s3⟩, s4⟩, s5⟩, s6⟩, s7⟩, s8⟩, s9⟩, s10⟩, s11⟩, s12⟩, s13⟩, s14⟩, s15⟩ := hS
  obtain ⟨⟨⟨⟨⟨⟨⟨⟨g0, g1⟩, g2⟩, g3⟩, g4⟩, g5⟩, g6⟩, g7⟩, g8⟩ := hE
  obtain ⟨⟨⟨⟨⟨⟨a1, a2⟩, a3⟩, a4⟩, a5⟩, a6⟩, a7⟩ := hA
  have b6 : ∀ a : Int, 0 ≤ a → a < 26 → m 4 a = d0W a := fun a h1 h2 => by
    have := List.all_eq_true.mp a6 a.toNat (List.mem_range.mpr (by omega))
    have := of_decide_eq_true this
    rw [Int.toNat_of_nonneg h1] at this
    rw [this]
    unfold d0W
    by_cases q : a = 0
    · rw [if_pos (by omega), if_pos q]
    · rw [if_neg (by omega), if_neg q]
  have b7 : ∀ i : Int, 0 ≤ i → i < 12 → m 5 i = 1 ∧ m 99 i = 1 := fun i h1 h2 => by
    have := List.all_eq_true.mp a7 i.toNat (List.mem_range.mpr (by omega))
    simp only [Bool.and_eq_true, decide_eq_true_eq] at this
    rw [Int.toNat_of_nonneg h1] at this
    exact this
  have bK : ∀ k : Int, 0 ≤ k → k < 676 → m 11 k = 0 ∧ m 100 (9 + k) = 0 := fun k h1 h2 => by
    have := List.all_eq_true.mp hK k.toNat (List.mem_range.mpr (by omega))
    simp only [Bool.and_eq_true, decide_eq_true_eq] at this
    rw [Int.toNat_of_nonneg h1] at this
    exact this
  have hbit : ∀ a : Int, 0 ≤ a → a < 26 → (vm_and (vm_shr (m 96 4) a) 1 = 1 ↔ 0 < dW d0 a) := fun a h1 h2 => by
    have := List.all_eq_true.mp bits_0 a.toNat (List.mem_range.mpr (by omega))
    rw [Int.toNat_of_nonneg h1] at this
    have := beq_iff_eq.mp this
    rw [a4]
    have e : 0 < dW d0 a ↔ a.toNat = 0 := by
      show 0 < (if a = 0 then (10 : Int) else 0) ↔ a.toNat = 0
      by_cases q : a = 0
      · rw [if_pos q]; omega
      · rw [if_neg q]; omega
    rw [e]
    exact decide_eq_decide.mp this
  have hO : OC d0 (e0 m) := by
    refine ⟨⟨by decide, by decide, fun a _ _ => ?_, fun a _ i _ _ => (show (-1 : Int) ≤ 1 ∧ (1 : Int) ≤ 9 by decide)⟩, ⟨fun _ _ _ => (show (-9 : Int) ≤ 0 ∧ (0 : Int) ≤ 9 by decide), by decide, by decide, fun w h1 h2 => ?_, fun w h1 h2 => ?_⟩, ?_⟩
    · show 0 ≤ (if a = 0 then (10 : Int) else 0) ∧ (if a = 0 then (10 : Int) else 0) ≤ 60
      split <;> omega
    · have : w < 0 := h2
      omega
    · have : w < 0 := h2
      omega
    · rw [a1] at g8
      exact g8
  refine ⟨d0, e0 m, z0 m, ⟨hO, ⟨⟨a1, b6, fun a h i h1 h2 => ?_⟩, ⟨s1, fun k h1 h2 => (bK k h1 h2).1, fun w h1 h2 => ?_, fun w h1 h2 => ?_⟩, ⟨g0, g1, g2, g3, g4, g5, g6, g7⟩, by rw [a3]; exact vtl_0.symm, Or.inl s2, s3, s4⟩, ⟨⟨a2, hbit, fun a h => ?_, fun a h i h1 h2 => ?_⟩, ⟨s5, fun k h1 h2 => (bK k h1 h2).2, fun w h1 h2 => ?_, fun w h1 h2 => ?_⟩, ⟨rfl, rfl, rfl, rfl, rfl, rfl, rfl, rfl⟩⟩⟩, ⟨by show (0 : Int) ≤ 0 ∧ (0 : Int) ≤ 2000; decide, fun i h1 h2 => ?_, Nat.zero_le 8, fun j hj => ?_, fun s hs => ⟨Or.inl rfl, fun q => ?_⟩⟩, ⟨⟨s6, fun i h1 h2 => ?_⟩, rfl, ⟨s7, by omega, by omega, fun j hj => ?_⟩, fun s hs => ⟨?_, fun q => ?_⟩, hT⟩, ⟨⟨s11, fun i h1 h2 => ?_⟩, s12, ⟨s13, fun j hj => ?_⟩, fun s hs => ⟨?_, fun q => ?_⟩⟩⟩
  · rw [d0_k.mp h]
    exact (b7 _ (by omega) (by omega)).1
  · have : w < 0 := h2
    omega
  · have : w < 0 := h2
    omega
  · rw [d0_k.mp h]
    exact a5
  · rw [d0_k.mp h]
    exact (b7 _ (by omega) (by omega)).2
  · have : w < 0 := h2
    omega
  · have : w < 0 := h2
    omega
  · have : i < 0 := h2
    omega
  · exact absurd hj (Nat.not_lt_zero _)
  · exact absurd (show (0 : Int) = 1 from q) (by decide)
  · have : i < 0 := h2
    omega
  · exact absurd hj (Nat.not_lt_zero _)
  · have : s = 0 ∨ s = 1 := by omega
    rcases this with e | e <;> subst e
    · exact s9
    · exact s10
  · exact absurd (show (0 : Int) = 1 from q) (by decide)
  · have : i < 0 := h2
    omega
  · exact absurd hj (Nat.not_lt_zero _)
  · have : s = 0 ∨ s = 1 := by omega
    rcases this with e | e <;> subst e
    · exact s14
    · exact s15
  · exact absurd (show (0 : Int) = 1 from q) (by decide)
/-- the whole run, given load -/
theorem law_run (hLd : vLoad) (hL : L ≤ 3072) : vm_G 301 16 vm_lsS [] (vm_mS vm_mF L xs) (fun r _ => r = some (vm_i 1)) := by
  have eq : ∀ (k : Nat) (i : Int), k < 900 → vm_mS vm_mF L xs k i = vm_mF k i := fun k i h => by
    unfold vm_mS
    rw [if_neg (by omega), if_neg (by omega), if_neg (by omega)]
  have hS : vm_inS (vm_mS vm_mF L xs) = true := by
    have h := vm_inS_ok
    unfold vm_inS at h ⊢
    simp only [eq _ _ (show (9 : Nat) < 900 by decide), eq _ _ (show (0 : Nat) < 900 by decide), eq _ _ (show (69 : Nat) < 900 by decide), eq _ _ (show (74 : Nat) < 900 by decide), eq _ _ (show (100 : Nat) < 900 by decide), eq _ _ (show (1 : Nat) < 900 by decide), eq _ _ (show (21 : Nat) < 900 by decide), eq _ _ (show (64 : Nat) < 900 by decide), eq _ _ (show (96 : Nat) < 900 by decide), eq _ _ (show (103 : Nat) < 900 by decide)]
    exact h
  have hE : vm_inE (vm_mS vm_mF L xs) = true := by
    have h := vm_inE_ok
    unfold vm_inE at h ⊢
    simp only [eq _ _ (show (9 : Nat) < 900 by decide), eq _ _ (show (10 : Nat) < 900 by decide), eq _ _ (show (3 : Nat) < 900 by decide), eq _ _ (show (100 : Nat) < 900 by decide)]
    exact h
  have hA : vm_inA (vm_mS vm_mF L xs) = true := by
    have h := vm_inA_ok
    unfold vm_inA at h ⊢
    simp only [eq _ _ (show (3 : Nat) < 900 by decide), eq _ _ (show (96 : Nat) < 900 by decide), eq _ _ (show (98 : Nat) < 900 by decide), eq _ _ (show (4 : Nat) < 900 by decide), eq _ _ (show (5 : Nat) < 900 by decide), eq _ _ (show (99 : Nat) < 900 by decide)]
    exact h
  have hK : vm_inK (vm_mS vm_mF L xs) = true := by
    have h := vm_inK_ok
    unfold vm_inK at h ⊢
    simp only [eq _ _ (show (11 : Nat) < 900 by decide), eq _ _ (show (100 : Nat) < 900 by decide)]
    exact h
  have es : ∀ (k : Nat) (i : Int), 900 ≤ k ∧ k < 902 → vm_mS vm_mF L xs k i = vm_mZ k i := fun k i h => by
    unfold vm_mS
    rw [if_neg (by omega), if_neg (by omega), if_pos (by omega)]
  have hT : vST (vm_mS vm_mF L xs) := by
    unfold vST
    simp only [es _ _ (show 900 ≤ 900 ∧ 900 < 902 by decide), es _ _ (show 900 ≤ 901 ∧ 901 < 902 by decide)]
    decide +kernel
  have hI := ini_m hS hE hA hK hT
  have e3 : vm_mS vm_mF L xs 903 0 = (L : Int) := by
    unfold vm_mS
    rw [if_neg (by decide), if_pos rfl]
  have e2 : ∀ j, vm_32 (vm_mS vm_mF L xs 902 j) := fun j => by
    have e : vm_mS vm_mF L xs 902 j = (xs j.toNat).toInt := if_pos rfl
    rw [e]
    have h1 := Int32.le_toInt (xs j.toNat)
    have h2 := Int32.toInt_lt (xs j.toNat)
    omega
  generalize vm_mS vm_mF L xs = m at *
  have := law_loop hLd (Q := fun r _ => r = 1) (fun _ => rfl) 600 0 none none m (by decide) (by decide) (by omega) (by omega) (by omega) e2 hI
  refine vm_G.mono (ruL_law_16 this) ?_
  rintro _ m1 ⟨z1, rfl, rfl⟩
  rfl
end IN
