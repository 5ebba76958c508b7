/-- what is never written -/
def vP (m m' : vm_M) : Prop := ∀ (k : Nat) (i : Int), 900 ≤ k → m' k i = m k i
/-! ===== both sides together; x's layOut ===== -/
noncomputable def vif {α : Type} (P : Prop) (a b : α) : α := @ite α P (Classical.propDecidable P) a b
theorem vif_t {α : Type} {P : Prop} {a b : α} (h : P) : vif P a b = a := by unfold vif; rw [if_pos h]
theorem vif_f {α : Type} {P : Prop} {a b : α} (h : ¬ P) : vif P a b = b := by unfold vif; rw [if_neg h]
/-- how many letters are told -/
noncomputable def vtl (D : vD) (a : Int) : Int := vif (0 < dW D a) 1 0
/-- scratch cells of x -/
def vSX (k : Nat) (i : Int) : Bool := (Nat.ble 65 k && Nat.ble k 85) || (Nat.beq k 0 && decide (i = 15))
theorem vSX_t {k : Nat} {i : Int} (h : (65 ≤ k ∧ k ≤ 85) ∨ (k = 0 ∧ i = 15)) : vSX k i = true := by
  unfold vSX
  rcases h with h | h
  · rw [Nat.ble_eq_true_of_le h.1, Nat.ble_eq_true_of_le h.2]; rfl
  · rw [h.1, h.2]; rfl
theorem vSX_n {k : Nat} {i : Int} (h : ¬ (65 ≤ k ∧ k ≤ 85)) (h2 : ¬ (k = 0 ∧ i = 15)) : vSX k i = false := by
  refine Bool.eq_false_iff.mpr (fun q => ?_)
  unfold vSX at q
  simp only [Bool.or_eq_true, Bool.and_eq_true, decide_eq_true_eq] at q
  rcases q with a | a
  · exact h ⟨Nat.le_of_ble_eq_true a.1, Nat.le_of_ble_eq_true a.2⟩
  · exact h2 ⟨vm_beq a.1, a.2⟩
theorem vSm_lo {k : Nat} {i : Int} (h : k < 96) : vSm k i = false := by
  refine Bool.eq_false_iff.mpr (fun q => ?_)
  unfold vSm at q
  simp only [Bool.or_eq_true, Bool.and_eq_true] at q
  rcases q with a | a
  · have := Nat.le_of_ble_eq_true a.1; omega
  · have := vm_beq a.1; omega
theorem vSm_n {k : Nat} {i : Int} (h : ¬ (104 ≤ k ∧ k ≤ 110)) (h2 : k ≠ 96) : vSm k i = false := by
  refine Bool.eq_false_iff.mpr (fun q => ?_)
  unfold vSm at q
  simp only [Bool.or_eq_true, Bool.and_eq_true] at q
  rcases q with a | a
  · exact h ⟨Nat.le_of_ble_eq_true a.1, Nat.le_of_ble_eq_true a.2⟩
  · exact h2 (vm_beq a.1)
theorem vSl_m {m m' : vm_M} (h : vfr vSl m m') : vfr vSm m m' := h.sub (fun k i hk => by
  unfold vSl at hk
  unfold vSm
  simp only [Bool.or_eq_true, Bool.and_eq_true, decide_eq_true_eq] at hk
  rcases hk with a | a
  · have a1 := Nat.le_of_ble_eq_true a.1
    have a2 := Nat.le_of_ble_eq_true a.2
    rw [Nat.ble_eq_true_of_le (by omega : 104 ≤ k), Nat.ble_eq_true_of_le (by omega : k ≤ 110)]; rfl
  · rw [vm_beq a.1, a.2]; rfl)
def vIx (D : vD) (E : Int → Int) (m : vm_M) : Prop := (m 0 15 = 0 ∨ (m 0 15 = 1 ∧ vLd D E m)) ∧ m 69 0 = 0 ∧ m 74 0 = 0
def XC (D : vD) (E : Int → Int) (m : vm_M) : Prop := dAx D m 3 ∧ dSx D m 9 ∧ dEx E m 9 ∧ m 3 3 = vs (vtl D) 26 ∧ vIx D E m
def OC (D : vD) (E : Int → Int) : Prop := dOA D ∧ dOS D ∧ dOE D E
section CX
variable {D : vD} {E : Int → Int} {m m' : vm_M} {S : Nat → Int → Bool}
theorem vLd.fr (h : vfr S m m') (hs : ∀ k i, (66 ≤ k ∧ k ≤ 71) ∨ (78 ≤ k ∧ k ≤ 84) → S k i = false) (hL : vLd D E m) : vLd D E m' := by
  obtain ⟨h1, ⟨p1, p2, p3, p4, p5, p6⟩, ⟨l1, l2⟩, h4⟩ := hL
  refine ⟨fun w a b g c d => by rw [h _ _ (hs _ _ (by omega))]; exact h1 w a b g c d, ⟨by rw [h _ _ (hs _ _ (by omega)), p1], by rw [h _ _ (hs _ _ (by omega)), p2], by rw [h _ _ (hs _ _ (by omega)), p3], by rw [h _ _ (hs _ _ (by omega)), p4], fun w a b => by rw [h _ _ (hs _ _ (by omega))]; exact p5 w a b, fun w a b => by rw [h _ _ (hs _ _ (by omega))]; exact p6 w a b⟩, ⟨by rw [h _ _ (hs _ _ (by omega)), l1], fun r a b => by rw [h _ _ (hs _ _ (by omega))]; exact l2 r a b⟩, fun r hr => ?_⟩
  obtain ⟨⟨a1, a2, a3, a4, a5⟩, a6⟩ := h4 r hr
  refine ⟨⟨by rw [h _ _ (hs _ _ (by omega)), a1], by rw [h _ _ (hs _ _ (by omega)), a2], by rw [h _ _ (hs _ _ (by omega)), a3], by rw [h _ _ (hs _ _ (by omega)), a4], by rw [h _ _ (hs _ _ (by omega)), a5]⟩, fun w x1 x2 => ⟨fun k y1 y2 => ?_, fun k y1 y2 => ?_⟩⟩
  · rw [h _ _ (hs _ _ (by omega))]; exact (a6 w x1 x2).1 k y1 y2
  · rw [h _ _ (hs _ _ (by omega))]; exact (a6 w x1 x2).2 k y1 y2
/-- what is kept outside x's scratch -/
theorem XC.fr0 (h : vfr S m m') (hs : ∀ k i, k < 65 → ¬ (k = 0 ∧ i = 15) → S k i = false) (hX : XC D E m) (hI : vIx D E m') : XC D E m' := by
  obtain ⟨h1, h2, h3, h4, -⟩ := hX
  have n : ∀ (k : Nat) (i : Int), 1 ≤ k → k < 65 → S k i = false := fun k i a b => hs k i b (by omega)
  exact ⟨h1.fr h (n _ _ (by omega) (by omega)) (fun _ => n _ _ (by omega) (by omega)) (fun _ => n _ _ (by omega) (by omega)), h2.fr h (n _ _ (by omega) (by omega)) (fun _ => n _ _ (by omega) (by omega)) (fun _ => n _ _ (by omega) (by omega)) (fun _ => n _ _ (by omega) (by omega)), h3.fr h (fun _ => n _ _ (by omega) (by omega)) (n _ _ (by omega) (by omega)) (n _ _ (by omega) (by omega)), by rw [h _ _ (n _ _ (by omega) (by omega)), h4], hI⟩
theorem XC.fr (h : vfr S m m') (hs : ∀ k i, k < 96 → ¬ (72 ≤ k ∧ k ≤ 73) → ¬ (75 ≤ k ∧ k ≤ 77) → ¬ (k = 85) → S k i = false) (hX : XC D E m) : XC D E m' := by
  refine hX.fr0 h (fun k i a b => hs k i (by omega) (by omega) (by omega) (by omega)) ?_
  obtain ⟨-, -, -, -, h1, h2, h3⟩ := hX
  refine ⟨?_, by rw [h _ _ (hs _ _ (by omega) (by omega) (by omega) (by omega)), h2], by rw [h _ _ (hs _ _ (by omega) (by omega) (by omega) (by omega)), h3]⟩
  rw [h 0 15 (hs _ _ (by omega) (by omega) (by omega) (by omega))]
  rcases h1 with a | a
  · exact Or.inl a
  · exact Or.inr ⟨a.1, a.2.fr h (fun k i b => hs _ _ (by omega) (by omega) (by omega) (by omega))⟩
theorem XC.fm (h : vfr vSm m m') (hX : XC D E m) : XC D E m' := hX.fr h (fun k i a _ _ _ => vSm_lo a)
theorem sx_layOut {Q : vm_M → Prop} (hO : OC D E) (hX : XC D E m) (h : ∀ m', vfr vSX m m' → XC D E m' → vLd D E m' → m' 0 15 = 1 → Q m') : vm_C 137 [vm_r 0] m (vm_qv Q) := by
  obtain ⟨hD, hOS, hE⟩ := hO
  refine ru10_layOut_0 ⟨fun c => ?_, fun c => ?_⟩
  · rcases hX.2.2.2.2.1 with a | a
    · exact absurd a c
    · exact h m vfr.rf hX a.2 a.1
  · obtain ⟨hA, hS, hEx, ht, hI, hz1, hz2⟩ := hX
    have hB := eB_ok hD hOS hE
    refine sx_renew hD hOS hA hS (fun m1 f1 v1 => ?_)
    have n1 : ∀ (k : Nat) (i : Int), k ≠ 66 → vS6 k i = false := fun k i a => vS6_n a
    have g1 : vfr vSX m m1 := f1.sub (fun k i hk => vSX_t (by have := vm_beq hk; omega))
    have E1 : dEx E m1 9 := hEx.fr f1 (fun _ => n1 _ _ (by omega)) (n1 _ _ (by omega)) (n1 _ _ (by omega))
    have S1 : dSx D m1 9 := hS.fr f1 (n1 _ _ (by omega)) (fun _ => n1 _ _ (by omega)) (fun _ => n1 _ _ (by omega)) (fun _ => n1 _ _ (by omega))
    have A1 : dAx D m1 3 := hA.fr f1 (n1 _ _ (by omega)) (fun _ => n1 _ _ (by omega)) (fun _ => n1 _ _ (by omega))
    have e3 : m1 10 3 = E 3 := E1.2.2.2.1
    have e5 : m1 10 5 = bZ (eB D E) := E1.2.2.2.2.2.1
    have hG := hE.2.2.2.1
    have hC := hD.2.1
    rw [e3, e5]
    refine sx_prep rfl ⟨by omega, by omega⟩ hB ⟨hG.1, by omega⟩ S1.1 E1.1 E1.2.2.2.2.1 (fun w a b => v1 w a b (E 3) hG.1 hG.2) (by rw [f1 _ _ (n1 _ _ (by omega))]; exact hz1) (fun m2 f2 p2 => ?_)
    have n2 : ∀ (k : Nat) (i : Int), k < 67 ∨ 71 < k → vSt 67 k i = false := fun k i a => vSt_n a
    have E2 : dEx E m2 9 := E1.fr f2 (fun _ => n2 _ _ (by omega)) (n2 _ _ (by omega)) (n2 _ _ (by omega))
    have S2 : dSx D m2 9 := S1.fr f2 (n2 _ _ (by omega)) (fun _ => n2 _ _ (by omega)) (fun _ => n2 _ _ (by omega)) (fun _ => n2 _ _ (by omega))
    have A2 : dAx D m2 3 := A1.fr f2 (n2 _ _ (by omega)) (fun _ => n2 _ _ (by omega)) (fun _ => n2 _ _ (by omega))
    have W2 : vWd D m2 := fun w a b g c d => by rw [f2 _ _ (n2 _ _ (by omega))]; exact v1 w a b g c d
    have e6 : m2 9 4 = E 6 := E2.2.2.2.2.2.2.1
    rw [e6]
    refine sx_break rfl hB p2 hE.2.2.2.2.2.2.1 (fun m3 f3 l3 => ?_)
    have f3' := vSb_St f3
    have p3 := p2.fr f3
    have E3 : dEx E m3 9 := E2.fr f3' (fun _ => n2 _ _ (by omega)) (n2 _ _ (by omega)) (n2 _ _ (by omega))
    have S3 : dSx D m3 9 := S2.fr f3' (n2 _ _ (by omega)) (fun _ => n2 _ _ (by omega)) (fun _ => n2 _ _ (by omega)) (fun _ => n2 _ _ (by omega))
    have A3 : dAx D m3 3 := A2.fr f3' (n2 _ _ (by omega)) (fun _ => n2 _ _ (by omega)) (fun _ => n2 _ _ (by omega))
    have W3 : vWd D m3 := fun w a b g c d => by rw [f3' _ _ (n2 _ _ (by omega))]; exact W2 w a b g c d
    refine sx_renewR hD hOS hE A3 S3 E3 W3 l3 (fun m4 f4 r4 => ?_)
    have n4 : ∀ (k : Nat) (i : Int), k < 78 → vSy k i = false := fun k i a => vSy_n (Or.inl a)
    have g2 : vfr vSX m1 m2 := f2.sub (fun k i hk => vSX_t (by
      unfold vSt at hk
      simp only [Bool.and_eq_true] at hk
      have a := Nat.le_of_ble_eq_true hk.1
      have b := Nat.le_of_ble_eq_true hk.2
      omega))
    have g3 : vfr vSX m2 m3 := f3'.sub (fun k i hk => vSX_t (by
      unfold vSt at hk
      simp only [Bool.and_eq_true] at hk
      have a := Nat.le_of_ble_eq_true hk.1
      have b := Nat.le_of_ble_eq_true hk.2
      omega))
    have g4 : vfr vSX m3 m4 := f4.sub (fun k i hk => vSX_t (by
      unfold vSy at hk
      simp only [Bool.and_eq_true] at hk
      have a := Nat.le_of_ble_eq_true hk.1
      have b := Nat.le_of_ble_eq_true hk.2
      omega))
    have gg : vfr vSX m (vm_st m4 0 15 1) := (((g1.tr g2).tr g3).tr g4).st (vSX_t (Or.inr ⟨rfl, rfl⟩))
    have L4 : vLd D E m4 := by
      refine ⟨fun w a b g c d => by rw [f4 _ _ (n4 _ _ (by omega))]; exact W3 w a b g c d, ?_, ?_, r4⟩
      · obtain ⟨p1, p2, p3, p4, p5, p6⟩ := p3
        exact ⟨by rw [f4 _ _ (n4 _ _ (by omega)), p1], by rw [f4 _ _ (n4 _ _ (by omega)), p2], by rw [f4 _ _ (n4 _ _ (by omega)), p3], by rw [f4 _ _ (n4 _ _ (by omega)), p4], fun w a b => by rw [f4 _ _ (n4 _ _ (by omega))]; exact p5 w a b, fun w a b => by rw [f4 _ _ (n4 _ _ (by omega))]; exact p6 w a b⟩
      · exact ⟨by rw [f4 _ _ (n4 _ _ (by omega)), l3.1], fun r a b => by rw [f4 _ _ (n4 _ _ (by omega))]; exact l3.2 r a b⟩
    have L5 : vLd D E (vm_st m4 0 15 1) := L4.fr (S := fun k _ => Nat.beq k 0) (vfr.rf.st rfl) (fun k i a => Bool.eq_false_iff.mpr (fun q => by have := vm_beq q; omega))
    have z1 : (vm_st m4 0 15 1) 69 0 = 0 := by
      rw [vst_k (by decide), f4 _ _ (n4 _ _ (by omega))]
      exact p3.2.2.2.2.2 0 (Int.le_refl _) hB.1
    have z2 : (vm_st m4 0 15 1) 74 0 = 0 := by
      rw [vst_k (by decide), f4 _ _ (n4 _ _ (by omega)), f3' _ _ (n2 _ _ (by omega)), f2 _ _ (n2 _ _ (by omega)), f1 _ _ (n1 _ _ (by omega))]
      exact hz2
    have hXm : XC D E m := ⟨hA, hS, hEx, ht, hI, hz1, hz2⟩
    refine h _ gg (hXm.fr0 gg (fun k i a b => vSX_n (by omega) b) ⟨Or.inr ⟨vst_s _ _ _ _, L5⟩, z1, z2⟩) L5 (vst_s _ _ _ _)
def vSQ (k : Nat) (i : Int) : Bool := vSX k i || vSm k i
theorem vSX_Q (h : vfr vSX m m') : vfr vSQ m m' := h.sub (fun k i hk => by unfold vSQ; rw [hk]; rfl)
theorem vSm_Q (h : vfr vSm m m') : vfr vSQ m m' := h.sub (fun k i hk => by unfold vSQ; rw [hk]; simp)
end CX
