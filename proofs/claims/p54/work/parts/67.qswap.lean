/-! ===== undo and swap ===== -/
section SW
variable {D : vD} {E : Int → Int} {z : vZs} {t : vTE} {m m' : vm_M} {S : Nat → Int → Bool}
theorem vSX_xx (h : vfr vSX m m') : vfr vSxx m m' := h.sub (fun k i hk => vSxx_t (by
  rcases Nat.lt_or_ge k 96 with a | a
  · exact a
  · rw [vSX_n (by omega) (by omega)] at hk; cases hk))
theorem vSm_mm (h : vfr vSm m m') : vfr vSmm m m' := h.sub (fun k i hk => vSmm_t (by
  by_cases a : 96 ≤ k ∧ k < 900
  · exact a
  · rw [vSm_n (by omega) (by omega)] at hk; cases hk))
def zU (z : vZs) : vZs := (zn z, zb z, ze z, zc z - 1, zh z, zk z, zs z)
theorem zU_ok (hZ : ZO D z) : ZO D (zU z) := ⟨hZ.1, hZ.2.1, by show zc z - 1 ≤ 8; have := hZ.2.2.1; omega, fun j hj => hZ.2.2.2.1 j (by have : j < zc z - 1 := hj; omega), hZ.2.2.2.2⟩
theorem s_undo (c : OC D E) (hZ : ZO D z) : ∀ (Q : Int → vm_M → Prop) (m : vm_M), XC D E m → XR D z m → (zc z = 0 → Q (-1) m) → (0 < zc z → ∀ m', vfr vSxx m m' → XC (teD D (zh z (zc z - 1))) (zh z (zc z - 1)).2 m' → XR (teD D (zh z (zc z - 1))) (zU z) m' → Q ((zc z : Int) - 1) m') → vm_C 113 [vm_r 0] m (vm_qi Q) := by
  have hO := c
  have hc8 := hZ.2.2.1
  intro Q m hX rX ha hc
  obtain ⟨r1, r2, ⟨x1, x2, x3, x4⟩, r4, r5⟩ := rX
  refine ru10_undo_0 ?_
  rw [x1]
  refine ⟨fun q => ?_, fun q => ha (by omega)⟩
  have hp : 0 < zc z := by omega
  have e1 : vm_st m 21 1 ((m 21 1 + 8 - 1) % 8) 21 2 = (zc z : Int) := by rw [vst_i (by decide)]; exact x1
  have e2 : vm_st (vm_st m 21 1 ((m 21 1 + 8 - 1) % 8)) 21 2 ((zc z : Int) - 1) 21 1 = (m 21 1 + 8 - 1) % 8 := by rw [vst_i (by decide), vst_s]
  have p0 : 0 ≤ (m 21 1 + 8 - 1) % 8 ∧ (m 21 1 + 8 - 1) % 8 < 8 := by omega
  have his : vm_is (23 + 5 * ((m 21 1 + 8 - 1) % 8).toNat) 4 = true := vm_is_st (b := 23) (j := (m 21 1 + 8 - 1) % 8) 8 p0 (by decide +kernel)
  refine ru2_bringBack_0 rfl ?_
  rw [e1, e2]
  have ft : vfr (fun a _ => Nat.beq a 21) m (vm_st (vm_st m 21 1 ((m 21 1 + 8 - 1) % 8)) 21 2 ((zc z : Int) - 1)) := (vfr.rf.st rfl).st rfl
  have n0 : ∀ (k : Nat) (i : Int), k ≠ 21 → (fun (a : Nat) (_ : Int) => Nat.beq a 21) k i = false := fun k i a => Bool.eq_false_iff.mpr (fun q => a (vm_beq q))
  have T := x4 (zc z - 1) (by omega)
  rw [show (m 21 1 + 8 - (zc z : Int) + ((zc z - 1 : Nat) : Int)) % 8 = (m 21 1 + 8 - 1) % 8 by omega] at T
  replace T := T.fr ft (fun k i a b => n0 k i (by omega))
  have hT := hZ.2.2.2.1 (zc z - 1) (by omega)
  have g1 : ∀ j : Nat, j < zc z - 1 → TX D (zh z j) (vm_st (vm_st m 21 1 ((m 21 1 + 8 - 1) % 8)) 21 2 ((zc z : Int) - 1)) (23 + 5 * (((m 21 1 + 8 - 1) % 8 + 8 - ((zc z : Int) - 1) + j) % 8).toNat) := fun j hj => by
    have := (x4 j (by omega)).fr ft (fun k i a b => n0 k i (by omega))
    rw [show ((m 21 1 + 8 - 1) % 8 + 8 - ((zc z : Int) - 1) + j) % 8 = (m 21 1 + 8 - (zc z : Int) + j) % 8 by omega]
    exact this
  have e3 : vm_st (vm_st m 21 1 ((m 21 1 + 8 - 1) % 8)) 21 2 ((zc z : Int) - 1) 21 2 = (zc z : Int) - 1 := vst_s _ _ _ _
  generalize (m 21 1 + 8 - 1) % 8 = p at *
  generalize vm_st (vm_st m 21 1 p) 21 2 ((zc z : Int) - 1) = M at *
  refine ⟨⟨by omega, by omega, ⟨by omega, by decide⟩, by omega, p0⟩, p0, sx_copy rfl his (Or.inr (by omega)) hT T (fun m1 f1 T1 => ?_)⟩
  have f2 : vfr (fun k i => vSt 9 k i || (Nat.beq k 0 && decide (i = 15))) M (vm_st m1 0 15 0) := (f1.sub (fun k i hk => by rw [hk]; rfl)).st rfl
  have n2 : ∀ (k : Nat) (i : Int), (k < 9 ∨ 13 < k) → ¬ (k = 0 ∧ i = 15) → (fun (k : Nat) (i : Int) => vSt 9 k i || (Nat.beq k 0 && decide (i = 15))) k i = false := fun k i a b => by
    dsimp only
    rw [vSt_n a]
    refine Bool.eq_false_iff.mpr (fun q => b ?_)
    simp only [Bool.false_or, Bool.and_eq_true, decide_eq_true_eq] at q
    exact ⟨vm_beq q.1, q.2⟩
  have e4 : vm_st m1 0 15 0 21 2 = (zc z : Int) - 1 := by rw [f2 _ _ (n2 _ _ (by omega) (by omega))]; exact e3
  have e5 : vm_st m1 0 15 0 21 1 = p := by rw [f2 _ _ (n2 _ _ (by omega) (by omega))]; exact e2
  rw [e4]
  have f : vfr vSxx m (vm_st m1 0 15 0) := (ft.sub (fun k i hk => vSxx_t (by have := vm_beq hk; omega))).tr (f2.sub (fun k i hk => vSxx_t (by
    rcases Nat.lt_or_ge k 96 with a | a
    · exact a
    · exact absurd (hk.symm.trans (n2 k i (by omega) (by omega))) (by decide))))
  have ff : ∀ (k : Nat) (i : Int), 1 ≤ k → (k < 9 ∨ 13 < k) → k ≠ 21 → vm_st m1 0 15 0 k i = m k i := fun k i a b d => by
    rw [f2 k i (n2 k i b (by omega)), ft k i (n0 k i d)]
  have fS : vfr (fun k i => !(decide (1 ≤ k) && decide (k < 9 ∨ 13 < k) && decide (k ≠ 21))) m (vm_st m1 0 15 0) := fun k i hk => by
    simp only [Bool.not_eq_false', Bool.and_eq_true, decide_eq_true_eq] at hk
    exact ff k i hk.1.1 hk.1.2 hk.2
  have nS : ∀ (k : Nat) (i : Int), 1 ≤ k → (k < 9 ∨ 13 < k) → k ≠ 21 → (fun (k : Nat) (i : Int) => !(decide (1 ≤ k) && decide (k < 9 ∨ 13 < k) && decide (k ≠ 21))) k i = false := fun k i a b d => by
    dsimp only
    rw [decide_eq_true a, decide_eq_true b, decide_eq_true d]; rfl
  obtain ⟨c1, c2, c3, c4, c5, c6, c7⟩ := hX
  refine hc hp _ f (XC.new (c1.fr fS (nS 3 2 (by omega) (by omega) (by omega)) (fun i => nS 4 i (by omega) (by omega) (by omega)) (fun i => nS 5 i (by omega) (by omega) (by omega))) (by rw [ff _ _ (by omega) (by omega) (by omega), c4]) (T1.fr (S := fun k _ => Nat.beq k 0) (vfr.rf.st rfl) (fun k i a b => Bool.eq_false_iff.mpr (fun q => by have := vm_beq q; omega))) (vst_s _ _ _ _) (by rw [ff _ _ (by omega) (by omega) (by omega), c6]) (by rw [ff _ _ (by omega) (by omega) (by omega), c7])) ⟨r1.fr fS (fun k i a => nS k i (by omega) (by omega) (by omega)), ?_, ⟨?_, by rw [e5]; exact p0.1, by rw [e5]; exact p0.2, fun j hj => ?_⟩, r4.fr fS (fun k i a => nS k i (by omega) (by omega) (by omega)), r5.fr fS (fun k i a => nS k i (by omega) (by omega) (by omega))⟩
  · rw [f2 0 14 (n2 _ _ (by omega) (by omega)), ft 0 14 (n0 0 14 (by omega))]; exact r2
  · rw [e4]
    show (zc z : Int) - 1 = ((zc z - 1 : Nat) : Int)
    omega
  · have hj2 : j < zc z - 1 := hj
    rw [e5, show (p + 8 - ((zc (zU z) : Nat) : Int) + (j : Int)) = p + 8 - ((zc z : Int) - 1) + j by
      have : zc (zU z) = zc z - 1 := rfl
      rw [this]; omega]
    exact (g1 j hj2).fr f2 (fun k i a b => n2 k i (by omega) (by omega))
end SW
