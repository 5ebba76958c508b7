/-! ===== say ===== -/
section SC
variable {D : vD} {E : Int → Int} {z : vZs} {t : vTE} {m m' : vm_M}
theorem sR_ok {b : Int → Int} : ∀ (n : Nat) (i : Int) (s : vSY), wo D s → wo D (sR D b n i s).2
  | 0, _, _, h => sfin_ok h
  | n + 1, i, s, h => by
    rw [sR_S]
    split
    · exact sR_ok n _ _ (sfin_ok h)
    · split
      · rename_i q; exact sR_ok n _ _ (sadd_ok q.1 q.2.1 q.2.2 h)
      · exact h
def s0 : vSY := (0, 0, fun _ => 0, fun _ => 0)
theorem s0_ok : wo D s0 := by
  refine ⟨by decide, by decide, fun x => absurd rfl x, fun w a b => ?_, fun w k hd => ?_⟩
  · have : w < 0 := b
    omega
  · obtain ⟨a, b, c⟩ := hd
    have : (w < 0 ∧ k < 0) ∨ (w = 0 ∧ k < 0) := c
    omega
def zY (z : vZs) (r : Int) : vZs := (0, zb z, r, z.2.2.2)
theorem zY_ok {r : Int} (hZ : ZO D z) : ZO D (zY z r) := ⟨by show (0 : Int) ≤ 0 ∧ (0 : Int) ≤ 2000; decide, fun i a b => by have : i < 0 := b; omega, hZ.2.2⟩
theorem s_say (c : OC D E) (hZ : ZO D z) : ∀ (Q : Int → vm_M → Prop) (m : vm_M), XC D E m → XR D z m → ((sR D (zb z) (zn z).toNat 0 s0).1 ≠ -2 → ∀ m', vfr vSxx m m' → XC D E m' → XR D (zY z (sR D (zb z) (zn z).toNat 0 s0).1) m' → Q (-1) m') → ((sR D (zb z) (zn z).toNat 0 s0).1 = -2 → ∀ m', vfr vSxx m m' → XC (teD D (tw (teN D E) (sR D (zb z) (zn z).toNat 0 s0).2)) (tw (teN D E) (sR D (zb z) (zn z).toNat 0 s0).2).2 m' → XR (teD D (tw (teN D E) (sR D (zb z) (zn z).toNat 0 s0).2)) (zP (zY z (-2)) (teN D E)) m' → Q (sN (sR D (zb z) (zn z).toNat 0 s0).2) m') → vm_C 105 [vm_r 0] m (vm_qi Q) := by
  have hO := c
  have hW : wo D (sR D (zb z) (zn z).toNat 0 s0).2 := sR_ok _ _ _ s0_ok
  intro Q m hX rX hb hc
  refine ru10_say_0 (sx_copy rfl rfl (Or.inl (by decide)) hO.TO hX.TX (fun m1 f1 T1 => ?_))
  have n1 : ∀ (k : Nat) (i : Int), (k < 14 ∨ 18 < k) → vSt 14 k i = false := fun k i a => vSt_n a
  have A1 : dAx D m1 3 := hX.1.fr f1 (n1 _ _ (by decide)) (fun _ => n1 _ _ (by decide)) (fun _ => n1 _ _ (by decide))
  have X1 : XT z m1 := rX.1.fr f1 (fun k i a => n1 k i (by omega))
  refine sx_readWords hZ A1 X1 (fun s m2 f2 g4 g5 g15 g16 e hw => ?_)
  have e14 : vm_st (vm_st m2 0 14 s.1) 1 1 0 0 14 = s.1 := by rw [vst_k (by decide), vst_s]
  have f3 : vfr (fun k i => vSd k i || Nat.beq k 1 || (Nat.beq k 0 && decide (i = 14))) m (vm_st (vm_st m2 0 14 s.1) 1 1 0) := (((f1.sub (fun k i hk => by
    unfold vSt at hk
    show (vSd k i || Nat.beq k 1 || (Nat.beq k 0 && decide (i = 14))) = true
    rw [show vSd k i = true from hk]; rfl)).tr (f2.sub (fun k i hk => by
    show (vSd k i || Nat.beq k 1 || (Nat.beq k 0 && decide (i = 14))) = true
    rw [hk]; rfl))).st rfl).st rfl
  have n3 : ∀ (k : Nat) (i : Int), (k < 14 ∨ 18 < k) → k ≠ 1 → ¬ (k = 0 ∧ i = 14) → (fun k i => vSd k i || Nat.beq k 1 || (Nat.beq k 0 && decide (i = 14))) k i = false := fun k i a b d => by
    refine Bool.eq_false_iff.mpr (fun q => ?_)
    simp only [Bool.or_eq_true, Bool.and_eq_true, decide_eq_true_eq] at q
    rcases q with (q | q) | q
    · rw [vSd_n a] at q; cases q
    · exact b (vm_beq q)
    · exact d ⟨vm_beq q.1, q.2⟩
  have x3 : XC D E (vm_st (vm_st m2 0 14 s.1) 1 1 0) := hX.fo f3 (fun k i a => n3 k i (by omega) (by omega) (by omega)) (n3 0 15 (by decide) (by decide) (by decide))
  have r3 : XR D (zY z s.1) (vm_st (vm_st m2 0 14 s.1) 1 1 0) := ⟨⟨vst_s _ _ _ _, fun i a b => by have : i < 0 := b; omega⟩, e14, rX.2.2.1.fr f3 (fun k i a b => n3 k i (by omega) (by omega) (by omega)) hZ.2.2.1, rX.2.2.2.1.fr f3 (fun k i a => n3 k i (by omega) (by omega) (by omega)), rX.2.2.2.2.fr f3 (fun k i a => n3 k i (by omega) (by omega) (by omega))⟩
  have f3x : vfr vSxx m (vm_st (vm_st m2 0 14 s.1) 1 1 0) := f3.sub (fun k i hk => vSxx_t (by
    rcases Nat.lt_or_ge k 96 with a | a
    · exact a
    · exact absurd (hk.symm.trans (n3 k i (by omega) (by omega) (by omega))) (by decide)))
  have hT14 : s.1 = -2 → TX D (tw (teN D E) s.2) (vm_st (vm_st m2 0 14 s.1) 1 1 0) 14 := fun q => by
    obtain ⟨wo2, w1, w2, w3, w4⟩ := hw q
    have hv : sV s.2 = 0 := by rw [e] at q ⊢; exact sR_v _ _ _ (Int.le_refl _) q
    have f4 : vfr (fun k _ => Nat.ble k 1) m2 (vm_st (vm_st m2 0 14 s.1) 1 1 0) := (vfr.rf.st rfl).st rfl
    obtain ⟨⟨t1, t2, t3, t4⟩, ⟨e0, e1, e2, e3, e4, e5, e6, e7⟩⟩ := T1
    have hm : TX D (tw (teN D E) s.2) m2 14 := by
      refine ⟨⟨?_, fun k a b => ?_, fun w a b => w2 w a b, fun w a b k d x => w4 w k ⟨a, d, Or.inl ⟨b, x⟩⟩⟩, ?_, ?_, ?_, ?_, ?_, ?_, ?_, ?_⟩
      · rw [w1, show sfl s.2 = 0 from if_pos hv, Int.add_zero]; rfl
      · rw [show m2 (14 + 2) k = m1 (14 + 2) k from congrFun g16 k]; exact t2 k a b
      · rw [show m2 (14 + 1) 0 = m1 (14 + 1) 0 from congrFun g15 0]; exact e0
      · rw [show m2 (14 + 1) 1 = m1 (14 + 1) 1 from congrFun g15 1]; exact e1
      · rw [show m2 (14 + 1) 2 = m1 (14 + 1) 2 from congrFun g15 2]; exact e2
      · rw [show m2 (14 + 1) 3 = m1 (14 + 1) 3 from congrFun g15 3]; exact e3
      · rw [show m2 (14 + 1) 4 = m1 (14 + 1) 4 from congrFun g15 4]; exact e4
      · rw [show m2 (14 + 1) 5 = m1 (14 + 1) 5 from congrFun g15 5]; exact e5
      · rw [g4]; exact e6
      · rw [g5]; exact e7
    exact hm.fr f4 (fun k i a b => Bool.eq_false_iff.mpr (fun x => by have := Nat.le_of_ble_eq_true x; omega))
  rw [e14]
  generalize vm_st (vm_st m2 0 14 s.1) 1 1 0 = M at *
  have es : s = sR D (zb z) (zn z).toNat 0 s0 := e
  rw [← es] at hb hc hW
  refine ⟨fun q => ?_, fun q => hb q M f3x x3 r3⟩
  have hv : sV s.2 = 0 := by rw [e] at q ⊢; exact sR_v _ _ _ (Int.le_refl _) q
  have hT := hT14 q
  rw [q] at r3
  refine sx_begin hO (zY_ok hZ) x3 r3 (fun m4 f4 b4 T4 => sx_copy rfl rfl (Or.inr (by decide)) (tw_ok hO.TO hW hv) (hT.fr f4 (fun k i a b => vSh_n (by omega) (by omega))) (fun m5 f5 T5 => ?_))
  have hP := zP_ok (zY_ok (r := -2) hZ) hO.TO
  have b5 := b4.fr f5 (fun k i a => vSt_n (by omega)) hP.2.2.1
  have r := b5.new T5
  have e6 : m5 9 6 = sN s.2 := T5.1.1
  rw [e6]
  exact hc q m5 (f3x.tr ((vSh_xx f4).tr (f5.sub (fun k i hk => vSxx_t (by
    rcases Nat.lt_or_ge k 96 with a | a
    · exact a
    · rw [vSt_n (by omega)] at hk; cases hk))))) r.1 r.2
end SC
