/-! ===== a new x; a setup that is read ===== -/
def lm_n1 : Bool := decide (vm_m1 9 6 = 0) && decide (vm_m1 0 15 = 0) && decide (vm_m1 69 0 = 0) && decide (vm_m1 74 0 = 0) && decide (vm_m1 1 1 = 0) && decide (vm_m1 0 14 = -2) && decide (vm_m1 21 2 = 0) && decide (vm_m1 21 1 = 0) && decide (vm_m1 64 0 = 0) && decide (vm_m1 64 1 = 0)
def lm_n2 : Bool := decide (vm_m1 10 0 = 100) && decide (vm_m1 10 1 = 100) && decide (vm_m1 10 2 = 2) && decide (vm_m1 10 3 = 3) && decide (vm_m1 10 4 = 8) && decide (vm_m1 10 5 = 1) && decide (vm_m1 9 4 = 0) && decide (vm_m1 9 5 = 0) && decide (vm_m1 3 2 = 10) && decide (vm_m1 3 3 = 1)
def lm_n3 : Bool := (List.range 26).all (fun a => decide (vm_m1 4 (a : Int) = if a = 0 then 10 else 0)) && (List.range 12).all (fun i => decide (vm_m1 5 (i : Int) = 1))
def lm_n4 : Bool := (List.range 676).all (fun k => decide (vm_m1 11 (k : Int) = 0))
def lm_n5 : Bool := decide ((vm_m1 900 0 = 10 ∧ vm_m1 900 1 = 1 ∧ vm_m1 900 2 = 0 ∧ vm_m1 900 3 = 0 ∧ vm_m1 900 4 = 0 ∧ vm_m1 900 5 = 1) ∧ (vm_m1 901 0 = 9999 ∧ vm_m1 901 1 = 9999 ∧ vm_m1 901 2 = 99 ∧ vm_m1 901 3 = 30 ∧ vm_m1 901 4 = 99 ∧ vm_m1 901 5 = 9))
theorem lm_n1_ok : lm_n1 = true := by decide +kernel
theorem lm_n2_ok : lm_n2 = true := by decide +kernel
theorem lm_n3_ok : lm_n3 = true := by decide +kernel
theorem lm_n4_ok : lm_n4 = true := by decide +kernel
theorem lm_n5_ok : lm_n5 = true := by decide +kernel
def d0W (a : Int) : Int := if a = 0 then 10 else 0
def d0 : vD := (d0W, (fun _ => 1), 10, (fun _ => 0), (fun _ => 0), (fun _ => 0), 0)
def e0 : Int → Int := fun k => if k = 0 then 100 else if k = 1 then 100 else if k = 2 then 2 else if k = 3 then 3 else if k = 4 then 8 else if k = 5 then 1 else 0
def z0 : vZs := (0, (fun _ => 0), -2, 0, (fun _ => teN d0 e0), (fun _ => 0), fun _ => teN d0 e0)
theorem d0_k {a : Int} : dk d0 a ↔ a = 0 := by
  show (0 ≤ a ∧ a < 26 ∧ 0 < (if a = 0 then (10 : Int) else 0)) ↔ a = 0
  constructor
  · intro h
    refine Decidable.byContradiction (fun q => ?_)
    rw [if_neg q] at h
    omega
  · intro h
    rw [if_pos h]
    omega
theorem vtl_0 : vs (vtl d0) 26 = 1 := by
  have h : ∀ n : Nat, 0 < n → vs (vtl d0) n = 1 := by
    intro n
    induction n with
    | zero => intro h; omega
    | succ n ih =>
      intro _
      show vs (vtl d0) n + vtl d0 (n : Int) = 1
      unfold vtl
      by_cases q : n = 0
      · subst q
        rw [vif_t (show (0 : Int) < dW d0 ((0 : Nat) : Int) by decide)]
        rfl
      · rw [vif_f (show ¬ 0 < dW d0 (n : Int) from fun x => by
          have x2 : 0 < (if (n : Int) = 0 then (10 : Int) else 0) := x
          rw [if_neg (by omega)] at x2
          omega)]
        have := ih (by omega)
        unfold vtl at this
        rw [this]; rfl
  exact h 26 (by decide)
theorem lO_new {o : Nat} {S : lwS} (h : S.1 o = some (lbI vm_m1)) : lO d0 e0 z0 o S := by
  have i1 := lm_n1_ok
  have i2 := lm_n2_ok
  have i3 := lm_n3_ok
  have i4 := lm_n4_ok
  have i5 := lm_n5_ok
  unfold lm_n1 at i1
  unfold lm_n2 at i2
  unfold lm_n3 at i3
  unfold lm_n4 at i4
  unfold lm_n5 at i5
  generalize vm_m1 = m at *
  simp only [Bool.and_eq_true, decide_eq_true_eq] at i1 i2 i3 i5
  obtain ⟨⟨⟨⟨⟨⟨⟨⟨⟨s1, s2⟩, s3⟩, s4⟩, s5⟩, s6⟩, s7⟩, s8⟩, s9⟩, s10⟩ := i1
  obtain ⟨⟨⟨⟨⟨⟨⟨⟨⟨g0, g1⟩, g2⟩, g3⟩, g4⟩, g5⟩, g6⟩, g7⟩, g8⟩, g9⟩ := i2
  have b6 : ∀ a : Int, 0 ≤ a → a < 26 → m 4 a = d0W a := fun a h1 h2 => by
    have := List.all_eq_true.mp i3.1 a.toNat (List.mem_range.mpr (by omega))
    have := of_decide_eq_true this
    rw [Int.toNat_of_nonneg h1] at this
    rw [this]
    unfold d0W
    by_cases q : a = 0
    · rw [if_pos (by omega), if_pos q]
    · rw [if_neg (by omega), if_neg q]
  have b7 : ∀ i : Int, 0 ≤ i → i < 12 → m 5 i = 1 := fun i h1 h2 => by
    have := List.all_eq_true.mp i3.2 i.toNat (List.mem_range.mpr (by omega))
    have := of_decide_eq_true this
    rw [Int.toNat_of_nonneg h1] at this
    exact this
  have bK : ∀ k : Int, 0 ≤ k → k < 676 → m 11 k = 0 := fun k h1 h2 => by
    have := List.all_eq_true.mp i4 k.toNat (List.mem_range.mpr (by omega))
    have := of_decide_eq_true this
    rw [Int.toNat_of_nonneg h1] at this
    exact this
  have hO : OC d0 e0 := by
    refine ⟨⟨by decide, by decide, fun a _ _ => ?_, fun a _ i _ _ => (show (-1 : Int) ≤ 1 ∧ (1 : Int) ≤ 9 by decide)⟩, ⟨fun _ _ _ => (show (-9 : Int) ≤ 0 ∧ (0 : Int) ≤ 9 by decide), by decide, by decide, fun w h1 h2 => ?_, fun w h1 h2 => ?_⟩, ?_⟩
    · show 0 ≤ (if a = 0 then (10 : Int) else 0) ∧ (if a = 0 then (10 : Int) else 0) ≤ 60
      split <;> omega
    · have : w < 0 := h2
      omega
    · have : w < 0 := h2
      omega
    · show (10 ≤ (100 : Int) ∧ (100 : Int) ≤ 9999) ∧ (1 ≤ (100 : Int) ∧ (100 : Int) ≤ 9999) ∧ (0 ≤ (2 : Int) ∧ (2 : Int) ≤ 99) ∧ (0 ≤ (3 : Int) ∧ (3 : Int) ≤ 10) ∧ (0 ≤ (8 : Int) ∧ (8 : Int) ≤ 99) ∧ (1 ≤ (1 : Int) ∧ (1 : Int) ≤ 9) ∧ ((0 : Int) = 0 ∨ (0 : Int) = 1) ∧ ((0 : Int) = 0 ∨ (0 : Int) = 1)
      decide
  refine ⟨hO, ⟨by show (0 : Int) ≤ 0 ∧ (0 : Int) ≤ 2000; decide, fun i h1 h2 => ?_, Nat.zero_le 8, fun j hj => absurd hj (Nat.not_lt_zero _), fun s hs => ⟨Or.inl rfl, fun q => absurd (show (0 : Int) = 1 from q) (by decide)⟩⟩, m, h, ⟨⟨g8, b6, fun a h i h1 h2 => ?_⟩, ⟨s1, bK, fun w h1 h2 => ?_, fun w h1 h2 => ?_⟩, ⟨g0, g1, g2, g3, g4, g5, g6, g7⟩, by rw [g9]; exact vtl_0.symm, Or.inl s2, s3, s4⟩, ⟨⟨s5, fun i h1 h2 => ?_⟩, s6, ⟨s7, by omega, by omega, fun j hj => absurd hj (Nat.not_lt_zero _)⟩, fun s hs => ⟨?_, fun q => absurd (show (0 : Int) = 1 from q) (by decide)⟩, i5⟩⟩
  · have : i < 0 := h2
    omega
  · rw [d0_k.mp h]
    exact b7 _ (by omega) (by omega)
  · have : w < 0 := h2
    omega
  · have : w < 0 := h2
    omega
  · have : i < 0 := h2
    omega
  · have : s = 0 ∨ s = 1 := by omega
    rcases this with e | e <;> subst e
    · exact s9
    · exact s10
section RD
variable {e : Int → Int} {C : Int} {W Sd : Int → Int} {n : Nat} {ps : List (Int × Int × Bool × Int)} {s' : vPS}
theorem lPf_nz : ∀ (ps : List (Int × Int × Bool × Int)) (K : Int → Int) (j : Int), lPf ps K j ≠ K j → ∃ q ∈ ps, j = 26 * q.1 + q.2.1
  | [], K, j, h => absurd rfl h
  | q :: ps, K, j, h => by
    have h : lPf ps (fun j => if j = 26 * q.1 + q.2.1 then lPk q else K j) j ≠ K j := h
    by_cases e : j = 26 * q.1 + q.2.1
    · exact ⟨q, List.mem_cons_self, e⟩
    · obtain ⟨p, h1, h2⟩ := lPf_nz ps _ j (by
        intro c
        rw [c] at h
        exact h (if_neg e))
      exact ⟨p, List.mem_cons_of_mem _ h1, h2⟩
/-- how many letters are told -/
def ltn (n : Nat) (a : Int) : Int := if a < 3 * (n : Int) ∧ a % 3 = 0 then 1 else 0
theorem ltn_s : ∀ n : Nat, 2 ≤ n → n ≤ 5 → vs (ltn n) 26 = n := by
  intro n h1 h2
  have : n = 2 ∨ n = 3 ∨ n = 4 ∨ n = 5 := by omega
  rcases this with rfl | rfl | rfl | rfl <;> decide +kernel
/-- what was read is good -/
theorem lread_good (hR : lRead e C W Sd n ps s') (hok : lSetOk e C W Sd n ps) (hn : 2 ≤ n ∧ n ≤ 5) (hC : C ≤ 12) : lGa n (pD s') ∧ lGk (pD s') := by
  obtain ⟨r1, r2, r3, r4, r5⟩ := hR
  obtain ⟨h1, h2, h3, h4, h5⟩ := hok
  have dkk : ∀ i : Int, dk (pD s') i ↔ (0 ≤ i ∧ i < 3 * (n : Int) ∧ i % 3 = 0) := fun i => by
    show (0 ≤ i ∧ i < 26 ∧ 0 < pW s' i) ↔ _
    rw [r3 i]
    by_cases q : 0 ≤ i ∧ i < 3 * (n : Int) ∧ i % 3 = 0
    · rw [if_pos q]
      have := h4 (i / 3).toNat (by omega)
      rw [show 3 * (((i / 3).toNat : Nat) : Int) = i by omega] at this
      exact ⟨fun _ => q, fun _ => ⟨by omega, by omega, by omega⟩⟩
    · rw [if_neg q]
      exact ⟨fun c => by omega, fun c => absurd c q⟩
  refine ⟨⟨hn, ⟨by show 1 ≤ pC s'; rw [r1]; exact h1.1, by show pC s' ≤ 12; rw [r1]; exact hC⟩, ?_, dkk⟩, fun k k0 k1 k2 => ?_⟩
  · rw [← ltn_s n hn.1 hn.2]
    refine vs_cg 26 (fun i i0 i1 => ?_)
    have d := dkk i
    unfold vtl ltn
    by_cases q : i < 3 * (n : Int) ∧ i % 3 = 0
    · rw [if_pos q, vif_t (d.mpr ⟨i0, q.1, q.2⟩).2.2]
    · rw [if_neg q, vif_f (fun c => q (by have := d.mp ⟨i0, by omega, c⟩; exact this.2))]
  · have k2 : pK s' k ≠ 0 := k2
    rw [r5] at k2
    obtain ⟨p, hp, e⟩ := lPf_nz ps (fun _ => 0) k k2
    obtain ⟨⟨i, j, a, b, c, d⟩, -⟩ := h5 p hp
    have e1 : k / 26 = 3 * (i : Int) := by omega
    have e2 : k % 26 = 3 * (j : Int) := by omega
    rw [e1, e2]
    exact ⟨(dkk _).mpr ⟨by omega, by omega, by omega⟩, (dkk _).mpr ⟨by omega, by omega, by omega⟩⟩
end RD
section RT
variable {D : vD} {E : Int → Int} {L : Nat} {s' : vPS}
theorem lPf_cps (hS : dOS D) : ∀ (n : Nat) (k : Int) (K : Int → Int) (j : Int), 0 ≤ k → k + n ≤ 676 → lPf (lcps D n k) K j = if k ≤ j ∧ j < k + n ∧ dK D j ≠ 0 then dK D j else K j
  | 0, k, K, j, h0, h1 => by
    rw [if_neg (by omega)]
    rfl
  | n + 1, k, K, j, h0, h1 => by
    unfold lcps
    by_cases q : dK D k = 0
    · rw [if_pos q, lPf_cps hS n (k + 1) K j (by omega) (by omega)]
      by_cases c : k + 1 ≤ j ∧ j < k + 1 + (n : Int) ∧ dK D j ≠ 0
      · rw [if_pos c, if_pos ⟨by omega, by omega, c.2.2⟩]
      · rw [if_neg c, if_neg (fun d => c ⟨?_, by omega, d.2.2⟩)]
        by_cases e : j = k
        · rw [e] at d; exact absurd q d.2.2
        · omega
    · rw [if_neg q]
      show lPf (lcps D n (k + 1)) (fun j => if j = 26 * (k / 26) + k % 26 then lPk (k / 26, k % 26, decide (dK D k < 0), if 0 ≤ dK D k then dK D k else 0 - dK D k) else K j) j = _
      rw [lPf_cps hS n (k + 1) _ j (by omega) (by omega)]
      have hl : lPk (k / 26, k % 26, decide (dK D k < 0), if 0 ≤ dK D k then dK D k else 0 - dK D k) = dK D k := by
        unfold lPk
        dsimp only
        by_cases p : 0 ≤ dK D k
        · rw [if_pos p, decide_eq_false (show ¬ dK D k < 0 by omega), if_neg (by decide)]
        · rw [if_neg p, decide_eq_true (show dK D k < 0 by omega), if_pos rfl]
          omega
      rw [hl]
      by_cases e : j = k
      · rw [if_neg (show ¬ (k + 1 ≤ j ∧ j < k + 1 + (n : Int) ∧ dK D j ≠ 0) by omega), if_pos (show j = 26 * (k / 26) + k % 26 by omega), if_pos (show k ≤ j ∧ j < k + ((n + 1 : Nat) : Int) ∧ dK D j ≠ 0 from ⟨by omega, by omega, by rw [e]; exact q⟩), e]
      · by_cases c : k + 1 ≤ j ∧ j < k + 1 + (n : Int) ∧ dK D j ≠ 0
        · rw [if_pos c, if_pos (show k ≤ j ∧ j < k + ((n + 1 : Nat) : Int) ∧ dK D j ≠ 0 from ⟨by omega, by omega, c.2.2⟩)]
        · rw [if_neg c, if_neg (show ¬ j = 26 * (k / 26) + k % 26 by omega), if_neg (show ¬ (k ≤ j ∧ j < k + ((n + 1 : Nat) : Int) ∧ dK D j ≠ 0) from fun d => c ⟨by omega, by omega, d.2.2⟩)]
theorem lcps_cg {D' : vD} : ∀ (n : Nat) (k : Int), (∀ j, k ≤ j → j < k + n → dK D j = dK D' j) → lcps D n k = lcps D' n k
  | 0, k, _ => rfl
  | n + 1, k, h => by
    unfold lcps
    rw [h k (Int.le_refl _) (by omega), lcps_cg n (k + 1) (fun j h1 h2 => h j (by omega) (by omega))]
theorem lLs_cg2 {W W' S S' : Int → Int} : ∀ (n : Nat) (a : Int) (r : List Int), (∀ i : Nat, i < n → W (a + 3 * i) = W' (a + 3 * i) ∧ ∀ t, 0 ≤ t → t < 12 → S (12 * (a + 3 * i) + t) = S' (12 * (a + 3 * i) + t)) → lLs W S n a r = lLs W' S' n a r
  | 0, a, r, _ => rfl
  | n + 1, a, r, h => by
    have h0 := h 0 (by omega)
    rw [show a + 3 * ((0 : Nat) : Int) = a by omega] at h0
    unfold lLs
    rw [lLs_cg2 n (a + 3) r (fun i hi => by
      have := h (i + 1) (by omega)
      rwa [show a + 3 * ((i + 1 : Nat) : Int) = a + 3 + 3 * (i : Int) by omega] at this), h0.1]
    unfold lLet
    rw [lSd_cg (f := fun j => S (12 * a + j)) (g := fun j => S' (12 * a + j)) 6 0 _ (fun j x y => h0.2 j (by omega) (by omega)), lSd_cg (f := fun j => S (12 * a + (6 + j))) (g := fun j => S' (12 * a + (6 + j))) 6 0 _ (fun j x y => h0.2 (6 + j) (by omega) (by omega))]
theorem lBoard_cg {e e' : Int → Int} {C : Int} {r : List Int} (h : ∀ k, 0 ≤ k → k < 6 → e k = e' k) : lBoard e C r = lBoard e' C r := by
  unfold lBoard
  rw [h 0 (by decide) (by decide), h 1 (by decide) (by decide), h 2 (by decide) (by decide), h 3 (by decide) (by decide), h 4 (by decide) (by decide), h 5 (by decide) (by decide)]
/-- a setup's text read again gives the same -/
theorem lread_same (hO : OC D E) (hG : lGa L D) (hK : lGk D) (hR : lRead E (dC D) (dW D) (dS D) L (lcps D 676 0) s') (hO' : OC (pD s') (pN6 s')) : vset (pD s') (pN6 s') = vset D E ∧ vs (vnz (pD s')) 676 = vs (vnz D) 676 := by
  obtain ⟨hn, ⟨C1, C2⟩, hv, dkk⟩ := hG
  have hG : lGa L D := ⟨hn, ⟨C1, C2⟩, hv, dkk⟩
  have g := lread_good hR (lgood_ok hO hG hK) hn C2
  obtain ⟨r1, r2, r3, r4, r5⟩ := hR
  have ek : ∀ k, 0 ≤ k → k < 676 → dK (pD s') k = dK D k := fun k k0 k1 => by
    show pK s' k = _
    rw [r5, lPf_cps hO.2.1 676 0 _ k (by decide) (by decide)]
    by_cases q : dK D k = 0
    · rw [if_neg (fun c => c.2.2 q)]; exact q.symm
    · rw [if_pos ⟨k0, by omega, q⟩]
  refine ⟨?_, vs_cg 676 (fun k k0 k1 => by unfold vnz; rw [ek k k0 (by omega)])⟩
  rw [vset_is hO' g.1, vset_is hO hG]
  unfold lSetT
  have ec : dC (pD s') = dC D := r1
  rw [ec, lcps_cg 676 0 (fun j h1 h2 => ek j h1 (by omega)), lBoard_cg (e := pN6 s') (e' := E) (fun k k0 k6 => by
    show (if k < 6 then pE s' k else 0) = E k
    rw [if_pos k6, r2 k k0 k6])]
  congr 1
  refine lLs_cg2 L 0 _ (fun i hi => ⟨?_, fun t t0 t1 => ?_⟩)
  · show pW s' (0 + 3 * (i : Int)) = _
    rw [r3, if_pos ⟨by omega, by omega, by omega⟩]
  · show pS s' (12 * (0 + 3 * (i : Int)) + t) = _
    exact r4 _ (by omega) (by omega) (by omega)
end RT
