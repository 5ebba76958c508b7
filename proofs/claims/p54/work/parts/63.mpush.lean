/-! ===== what was before the latest operations ===== -/
def pc (c : Nat) : Nat := if c < 8 then c + 1 else 8
def pH (c : Nat) (H : Nat → vTE) (t : vTE) : Nat → vTE := fun j => if c < 8 then (if j = c then t else H j) else (if j = 7 then t else H (j + 1))
def zP (z : vZs) (t : vTE) : vZs := (zn z, zb z, ze z, pc (zc z), pH (zc z) (zh z) t, zk z, zs z)
theorem zP_ok {D : vD} {z : vZs} {t : vTE} (hO : ZO D z) (ht : TO D t) : ZO D (zP z t) := by
  obtain ⟨h1, h2, h3, h4, h5⟩ := hO
  have e : zc (zP z t) = pc (zc z) := rfl
  have e2 : zh (zP z t) = pH (zc z) (zh z) t := rfl
  refine ⟨h1, h2, ?_, fun j hj => ?_, h5⟩
  · rw [e]; unfold pc; split <;> omega
  · rw [e] at hj
    rw [e2]
    unfold pc at hj
    unfold pH
    by_cases q : zc z < 8
    · rw [if_pos q] at hj ⊢
      by_cases q2 : j = zc z
      · rw [if_pos q2]; exact ht
      · rw [if_neg q2]; exact h4 j (by omega)
    · rw [if_neg q] at hj ⊢
      by_cases q2 : j = 7
      · rw [if_pos q2]; exact ht
      · rw [if_neg q2]; exact h4 (j + 1) (by omega)
def vSh (k : Nat) (i : Int) : Bool := (Nat.ble 21 k && Nat.ble k 62) || (Nat.beq k 0 && decide (i = 15))
theorem vSh_n {k : Nat} {i : Int} (h : ¬ (21 ≤ k ∧ k ≤ 62)) (h2 : ¬ (k = 0 ∧ i = 15)) : vSh k i = false := by
  refine Bool.eq_false_iff.mpr (fun q => ?_)
  unfold vSh at q
  simp only [Bool.or_eq_true, Bool.and_eq_true, decide_eq_true_eq] at q
  rcases q with a | a
  · exact h ⟨Nat.le_of_ble_eq_true a.1, Nat.le_of_ble_eq_true a.2⟩
  · exact h2 ⟨vm_beq a.1, a.2⟩
theorem vSh_t {k : Nat} {i : Int} (h : 21 ≤ k ∧ k ≤ 62) : vSh k i = true := by
  unfold vSh
  rw [Nat.ble_eq_true_of_le h.1, Nat.ble_eq_true_of_le h.2]; rfl
theorem vSh_xx {m m' : vm_M} (h : vfr vSh m m') : vfr vSxx m m' := h.sub (fun k i hk => vSxx_t (by
  rcases Nat.lt_or_ge k 96 with a | a
  · exact a
  · rw [vSh_n (by omega) (by omega)] at hk; cases hk))
/-- x without its current setting -/
def XB (D : vD) (z : vZs) (m : vm_M) : Prop := dAx D m 3 ∧ m 3 3 = vs (vtl D) 26 ∧ m 69 0 = 0 ∧ m 74 0 = 0 ∧ m 0 15 = 0 ∧ XR D z m
section PU
variable {D : vD} {E : Int → Int} {z : vZs} {t : vTE} {m m' : vm_M}
theorem XB.new (h : XB D z m) (hT : TX D t m 9) : XC (teD D t) t.2 m ∧ XR (teD D t) z m := ⟨XC.new h.1 h.2.1 hT h.2.2.2.2.1 h.2.2.1 h.2.2.2.1, h.2.2.2.2.2⟩
theorem XB.fr {S : Nat → Int → Bool} (h : vfr S m m') (hs : ∀ k i, k < 9 ∨ 13 < k → S k i = false) (hc : zc z ≤ 8) (hX : XB D z m) : XB D z m' := by
  obtain ⟨h1, h2, h3, h4, h5, h6⟩ := hX
  refine ⟨h1.fr h (hs _ _ (by omega)) (fun _ => hs _ _ (by omega)) (fun _ => hs _ _ (by omega)), by rw [h _ _ (hs _ _ (by omega)), h2], by rw [h _ _ (hs _ _ (by omega)), h3], by rw [h _ _ (hs _ _ (by omega)), h4], by rw [h _ _ (hs _ _ (by omega)), h5], h6.fr h (fun k i a => hs _ _ (by omega)) (hs _ _ (by omega)) hc⟩
theorem sx_begin {Q : vm_M → Prop} (hO : OC D E) (hZ : ZO D z) (hX : XC D E m) (rx : XR D z m) (h : ∀ m', vfr vSh m m' → XB D (zP z (teN D E)) m' → TX D (teN D E) m' 9 → Q m') : vm_C 114 [vm_r 0] m (vm_qv Q) := by
  obtain ⟨r1, r2, ⟨x1, x2, x3, x4⟩, r4, r5⟩ := rx
  have hc := hZ.2.2.1
  have hT := hX.TX
  have h9 : vm_is (23 + 5 * (m 21 1).toNat) 4 = true := vm_is_st (b := 23) (j := m 21 1) 8 ⟨x2, x3⟩ (by decide +kernel)
  refine ru10_beginOperation_0 (ru2_remember_0 rfl ⟨⟨x2, x3⟩, ⟨x2, x3⟩, sx_copy h9 rfl (Or.inl (by omega)) hO.TO hT (fun m1 f1 T1 => ?_)⟩)
  have n1 : ∀ (k : Nat) (i : Int), k < 23 + 5 * (m 21 1).toNat ∨ 23 + 5 * (m 21 1).toNat + 4 < k → vSt (23 + 5 * (m 21 1).toNat) k i = false := fun k i a => vSt_n a
  have e1 : m1 21 1 = m 21 1 := f1 _ _ (n1 _ _ (by omega))
  have e2 : m1 21 2 = zc z := by rw [f1 _ _ (n1 _ _ (by omega))]; exact x1
  rw [vst_i (by decide), e1, e2]
  have epc : (if (zc z : Int) + 1 < 8 then (zc z : Int) + 1 else 8) = (pc (zc z) : Int) := by
    unfold pc
    repeat' split
    all_goals omega
  rw [epc]
  refine ⟨⟨by omega, ⟨by omega, by decide⟩, by omega⟩, ?_⟩
  have fh : vfr vSh m (vm_st (vm_st (vm_st m1 21 1 ((m 21 1 + 1) % 8)) 21 2 (pc (zc z) : Int)) 0 15 0) := by
    have f1' : vfr vSh m m1 := f1.sub (fun k i hk => by
      unfold vSt at hk
      simp only [Bool.and_eq_true] at hk
      have a := Nat.le_of_ble_eq_true hk.1
      have b := Nat.le_of_ble_eq_true hk.2
      exact vSh_t (by omega))
    exact ((f1'.st (vSh_t (by decide))).st (vSh_t (by decide))).st rfl
  have nh : ∀ (k : Nat) (i : Int), 1 ≤ k → k < 21 ∨ 62 < k → vSh k i = false := fun k i a b => vSh_n (by omega) (by omega)
  obtain ⟨c1, c2, c3, c4, c5, c6, c7⟩ := hX
  refine h _ fh ⟨c1.fr fh (nh _ _ (by omega) (by omega)) (fun _ => nh _ _ (by omega) (by omega)) (fun _ => nh _ _ (by omega) (by omega)), by rw [fh _ _ (nh _ _ (by omega) (by omega)), c4], by rw [fh _ _ (nh _ _ (by omega) (by omega)), c6], by rw [fh _ _ (nh _ _ (by omega) (by omega)), c7], vst_s _ _ _ _, r1.fr fh (fun k i a => nh _ _ (by omega) (by omega)), ?_, ?_, r4.fr fh (fun k i a => nh _ _ (by omega) (by omega)), r5.fr fh (fun k i a => nh _ _ (by omega) (by omega))⟩ (hT.fr fh (fun k i a b => nh _ _ (by omega) (by omega)))
  · rw [fh 0 14 (vSh_n (by omega) (by omega))]; exact r2
  · have g2 : (vm_st (vm_st (vm_st m1 21 1 ((m 21 1 + 1) % 8)) 21 2 (pc (zc z) : Int)) 0 15 0) 21 2 = (pc (zc z) : Int) := by rw [vst_k (by decide), vst_s]
    have g1 : (vm_st (vm_st (vm_st m1 21 1 ((m 21 1 + 1) % 8)) 21 2 (pc (zc z) : Int)) 0 15 0) 21 1 = (m 21 1 + 1) % 8 := by rw [vst_k (by decide), vst_i (by decide), vst_s]
    show HX D (pc (zc z)) (pH (zc z) (zh z) (teN D E)) _
    unfold HX
    rw [g1, g2]
    refine ⟨rfl, by omega, by omega, fun j hj => ?_⟩
    have hst : ∀ (u : vTE) (k : Nat), 23 ≤ k → TX D u m1 k → TX D u (vm_st (vm_st (vm_st m1 21 1 ((m 21 1 + 1) % 8)) 21 2 (pc (zc z) : Int)) 0 15 0) k := fun u k hk hu => by
      have f2 : vfr (fun a _ => Nat.ble a 21) m1 (vm_st (vm_st (vm_st m1 21 1 ((m 21 1 + 1) % 8)) 21 2 (pc (zc z) : Int)) 0 15 0) := ((vfr.rf.st rfl).st rfl).st rfl
      exact hu.fr f2 (fun a i x y => Bool.eq_false_iff.mpr (fun q => by have := Nat.le_of_ble_eq_true q; omega))
    have hold : ∀ i : Nat, i < zc z → (m 21 1 + 8 - (zc z : Int) + i) % 8 ≠ m 21 1 → TX D (zh z i) m1 (23 + 5 * ((m 21 1 + 8 - (zc z : Int) + i) % 8).toNat) := fun i hi hne => by
      have := x4 i hi
      exact this.fr f1 (fun k a b c => n1 _ _ (by omega))
    generalize vm_st (vm_st (vm_st m1 21 1 ((m 21 1 + 1) % 8)) 21 2 (pc (zc z) : Int)) 0 15 0 = M at hst ⊢
    unfold pc at hj ⊢
    unfold pH
    by_cases q : zc z < 8
    · rw [if_pos q] at hj
      rw [if_pos q, if_pos q]
      by_cases q2 : j = zc z
      · rw [if_pos q2]
        rw [show ((m 21 1 + 1) % 8 + 8 - ((zc z + 1 : Nat) : Int) + (j : Int)) % 8 = m 21 1 by omega]
        exact hst _ _ (by omega) T1
      · rw [if_neg q2]
        have ei : ((m 21 1 + 1) % 8 + 8 - ((zc z + 1 : Nat) : Int) + (j : Int)) % 8 = (m 21 1 + 8 - (zc z : Int) + j) % 8 := by omega
        rw [ei]
        exact hst _ _ (by omega) (hold j (by omega) (by omega))
    · rw [if_neg q] at hj
      rw [if_neg q, if_neg q]
      by_cases q2 : j = 7
      · rw [if_pos q2]
        rw [show ((m 21 1 + 1) % 8 + 8 - ((8 : Nat) : Int) + (j : Int)) % 8 = m 21 1 by omega]
        exact hst _ _ (by omega) T1
      · rw [if_neg q2]
        have ei : ((m 21 1 + 1) % 8 + 8 - ((8 : Nat) : Int) + (j : Int)) % 8 = (m 21 1 + 8 - (zc z : Int) + ((j + 1 : Nat) : Int)) % 8 := by omega
        rw [ei]
        exact hst _ _ (by omega) (hold (j + 1) (by omega) (by omega))
def vS1 (k : Nat) (i : Int) : Bool := Nat.beq k 101 || (Nat.beq k 96 && decide (i = 11))
theorem vS1_n {k : Nat} {i : Int} (h : k ≠ 101) (h2 : ¬ (k = 96 ∧ i = 11)) : vS1 k i = false := by
  refine Bool.eq_false_iff.mpr (fun q => ?_)
  unfold vS1 at q
  simp only [Bool.or_eq_true, Bool.and_eq_true, decide_eq_true_eq] at q
  rcases q with a | a
  · exact h (vm_beq a)
  · exact h2 ⟨vm_beq a.1, a.2⟩
theorem vS1_mm (h : vfr vS1 m m') : vfr vSmm m m' := h.sub (fun k i hk => vSmm_t (by
  by_cases a : k = 101
  · omega
  · by_cases b : k = 96 ∧ i = 11
    · omega
    · rw [vS1_n a b] at hk; cases hk))
/-- the model without its current setting -/
def MB (D : vD) (z : vZs) (m : vm_M) : Prop := dAm D m ∧ MR D z m
end PU
