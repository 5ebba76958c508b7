/-! ===== say ===== -/
section SC
variable {D : vD} {E : Int → Int} {z : vZs} {t : vTE} {m m' : vm_M}
theorem sR_ok {b : Int → Int} : ∀ (n : Nat) (i : Int) (s : vSY), wo D s → wo D (sR D b n i s).2
  | 0, _, _, h => sfin_ok h
  | n + 1, i, s, h => by
    rw [sR_S]
    split
    · exact sR_ok n _ _ (sfin_ok h)
    · split
      · rename_i q; exact sR_ok n _ _ (sadd_ok q.1 q.2.1 q.2.2 h)
      · exact h
def s0 : vSY := (0, 0, fun _ => 0, fun _ => 0)
theorem s0_ok : wo D s0 := by
  refine ⟨by decide, by decide, fun x => absurd rfl x, fun w a b => ?_, fun w k hd => ?_⟩
  · have : w < 0 := b
    omega
  · obtain ⟨a, b, c⟩ := hd
    have : (w < 0 ∧ k < 0) ∨ (w = 0 ∧ k < 0) := c
    omega
def zY (z : vZs) (r : Int) : vZs := (0, zb z, r, z.2.2.2)
theorem zY_ok {r : Int} (hZ : ZO D z) : ZO D (zY z r) := ⟨by show (0 : Int) ≤ 0 ∧ (0 : Int) ≤ 2000; decide, fun i a b => by have : i < 0 := b; omega, hZ.2.2⟩
/-- the model writes the words -/
theorem sm_writes {Q : Int → vm_M → Prop} {s : vSY} (hs : wo D s) (hv : sV s = 0) (hw : wm s m) (hO : TO D t) (hT : TM D t m 100 0) {z1 : Int} (h : ∀ m', vfr (vSo 100) m m' → TM D (tw t s) m' 100 0 → Q (sN s) m') : ku11_say_47 z1 0 none (vm_st m 100 8 (m 96 40)) Q := by
  have o1 := hs.1
  have rest : ∀ (n : Nat) (j : Int) (w3 : Option vm_V) (m2 : vm_M), 0 ≤ j → j + n = 30 → vfr (vSo 100) m m2 → m2 100 8 = sN s → (∀ p, 0 ≤ p → p < 685 → p ≠ 8 → m2 100 p = m 100 p) → (∀ w, 0 ≤ w → w < j → w < sN s → m2 100 (685 + w) = sL s w) → (∀ w, 0 ≤ w → w < j → w < sN s → ∀ k, 0 ≤ k → k < sL s w → m2 100 (715 + (12 * w + k)) = sP s (12 * w + k)) → ku11_say_47 z1 j w3 m2 Q := by
    intro n
    induction n with
    | zero =>
      intro j w3 m2 hj hn f2 g8 glo gL gP
      refine ru11_say_47 ⟨fun _ => ?_, fun q => by omega⟩
      rw [f2 96 40 rfl, hw.1]
      refine h m2 f2 ⟨⟨g8, fun k a b => ?_, fun w a b => ?_, fun w a b k c d => ?_⟩, fun k a b => ?_⟩
      · rw [Int.zero_add, glo _ (by omega) (by omega) (by omega)]
        have := hT.1.2.1 k a b
        rw [Int.zero_add] at this
        exact this
      · have b2 : w < sN s := b
        rw [Int.zero_add]; exact gL w a (by omega) b2
      · have b2 : w < sN s := b
        have d2 : k < sL s w := d
        rw [Int.zero_add]; exact gP w a (by omega) b2 k c d2
      · rw [Int.zero_add, glo _ (by omega) (by omega) (by omega)]
        have := hT.2 k a b
        rw [Int.zero_add] at this
        exact this
    | succ n ih =>
      intro j w3 m2 hj hn f2 g8 glo gL gP
      -- the letters of word j
      have inner : ∀ (n2 : Nat) (k : Int) (m3 : vm_M), 0 ≤ k → k + n2 = 12 → vfr (vSo 100) m m3 → m3 100 8 = sN s → (∀ p, 0 ≤ p → p < 685 → p ≠ 8 → m3 100 p = m 100 p) → (∀ w, 0 ≤ w → w < j + 1 → w < sN s → m3 100 (685 + w) = sL s w) → (∀ w, 0 ≤ w → w < sN s → ∀ l, 0 ≤ l → l < sL s w → (w < j ∨ (w = j ∧ l < k)) → m3 100 (715 + (12 * w + l)) = sP s (12 * w + l)) → ku11_say_83 z1 j k m3 Q := by
        intro n2
        induction n2 with
        | zero =>
          intro k m3 hk hkn f3 k8 klo kL kP
          refine ru11_say_83 ⟨fun _ => ⟨by omega, ih (j + 1) _ m3 (by omega) (by omega) f3 k8 klo kL (fun w a b c l d e => kP w a c l d e ?_)⟩, fun q => by omega⟩
          have := (hs.2.2.2.1 w a c).2
          omega
        | succ n2 ih2 =>
          intro k m3 hk hkn f3 k8 klo kL kP
          have nx : ∀ v, (j < sN s → k < sL s j → v = sP s (12 * j + k)) → ku11_say_83 z1 j (k + 1) (vm_st m3 100 (715 + 12 * j + k) v) Q := fun v hv => by
            refine ih2 (k + 1) _ (by omega) (by omega) (f3.st vSo_t) (by rw [vst_i (by omega)]; exact k8) (fun p a b c => by rw [vst_i (by omega)]; exact klo p a b c) (fun w a b c => by rw [vst_i (by omega)]; exact kL w a b c) (fun w a c l d e o => ?_)
            by_cases q : w = j ∧ l = k
            · obtain ⟨rfl, rfl⟩ := q
              rw [show 715 + (12 * w + l) = 715 + 12 * w + l by omega, vst_s]
              exact hv c e
            · have := (hs.2.2.2.1 w a c).2
              rw [vst_i (by omega)]
              exact kP w a c l d e (by omega)
          refine ru11_say_83 ⟨fun q => by omega, fun _ => ⟨by omega, ?_⟩⟩
          rw [f3 96 40 rfl, hw.1]
          refine ⟨fun q => ⟨by omega, nx 0 (fun x => by omega)⟩, fun q => ⟨by omega, ?_⟩⟩
          have hl := hs.2.2.2.1 j hj (by omega)
          rw [f3 115 j rfl, hw.2.1 j hj (by omega)]
          refine ⟨fun q2 => ⟨by omega, nx 0 (fun _ x => by omega)⟩, fun q2 => ?_⟩
          rw [f3 116 (12 * j + k) rfl, hw.2.2 j k ⟨hj, hk, Or.inl ⟨by omega, by omega⟩⟩]
          exact ⟨by omega, nx _ (fun _ _ => rfl)⟩
      have nx : ∀ v, (j < sN s → v = sL s j) → ku11_say_83 z1 j 0 (vm_st m2 100 (685 + j) v) Q := fun v hv => by
        refine inner 12 0 _ (Int.le_refl _) (by decide) (f2.st vSo_t) (by rw [vst_i (by omega)]; exact g8) (fun p a b c => by rw [vst_i (by omega)]; exact glo p a b c) (fun w a b c => ?_) (fun w a c l d e o => ?_)
        · by_cases q : w = j
          · rw [q, vst_s]; exact hv (by omega)
          · rw [vst_i (by omega)]; exact gL w a (by omega) c
        · rw [vst_i (by omega)]; exact gP w a (by omega) c l d e
      refine ru11_say_47 ⟨fun q => by omega, fun _ => ⟨by omega, ?_⟩⟩
      rw [f2 96 40 rfl, hw.1]
      refine ⟨fun q => ⟨by omega, nx 0 (fun x => by omega)⟩, fun q => ⟨⟨by omega, by omega⟩, ?_⟩⟩
      rw [f2 115 j rfl, hw.2.1 j hj (by omega)]
      exact nx _ (fun _ => rfl)
  rw [hw.1]
  exact rest 30 0 none _ (Int.le_refl _) (by decide) (vfr.rf.st vSo_t) (vst_s _ _ _ _) (fun p a b c => vst_i c) (fun w a b => by omega) (fun w a b => by omega)
theorem q_say (c : CC D E m) (hZ : ZO D z) (rx : XR D z m) (rm : MR D z m) {G : Int → Int → vm_M → Prop} (h : ∀ w m', vP m m' → INV m' → G w w m') : vm_C 105 [vm_r 0] m (vm_qi (fun z1 m1 => vP m m1 ∧ vm_C 220 [vm_r 96] m1 (vm_qi (fun z2 m2 => G z1 z2 m2)))) := by
  have hO := c.1
  have hW : wo D (sR D (zb z) (zn z).toNat 0 s0).2 := sR_ok _ _ _ s0_ok
  have sx : ∀ (Q : Int → vm_M → Prop) (m : vm_M), XC D E m → XR D z m → ((sR D (zb z) (zn z).toNat 0 s0).1 ≠ -2 → ∀ m', vfr vSxx m m' → XC D E m' → XR D (zY z (sR D (zb z) (zn z).toNat 0 s0).1) m' → Q (-1) m') → ((sR D (zb z) (zn z).toNat 0 s0).1 = -2 → ∀ m', vfr vSxx m m' → XC (teD D (tw (teN D E) (sR D (zb z) (zn z).toNat 0 s0).2)) (tw (teN D E) (sR D (zb z) (zn z).toNat 0 s0).2).2 m' → XR (teD D (tw (teN D E) (sR D (zb z) (zn z).toNat 0 s0).2)) (zP (zY z (-2)) (teN D E)) m' → Q (sN (sR D (zb z) (zn z).toNat 0 s0).2) m') → vm_C 105 [vm_r 0] m (vm_qi Q) := by
    intro Q m hX rX hb hc
    refine ru10_say_0 (sx_copy rfl rfl (Or.inl (by decide)) hO.TO hX.TX (fun m1 f1 T1 => ?_))
    have n1 : ∀ (k : Nat) (i : Int), (k < 14 ∨ 18 < k) → vSt 14 k i = false := fun k i a => vSt_n a
    have A1 : dAx D m1 3 := hX.1.fr f1 (n1 _ _ (by decide)) (fun _ => n1 _ _ (by decide)) (fun _ => n1 _ _ (by decide))
    have X1 : XT z m1 := rX.1.fr f1 (fun k i a => n1 k i (by omega))
    refine sx_readWords hZ A1 X1 (fun s m2 f2 g4 g5 g15 g16 e hw => ?_)
    have e14 : vm_st (vm_st m2 0 14 s.1) 1 1 0 0 14 = s.1 := by rw [vst_k (by decide), vst_s]
    have f3 : vfr (fun k i => vSd k i || Nat.beq k 1 || (Nat.beq k 0 && decide (i = 14))) m (vm_st (vm_st m2 0 14 s.1) 1 1 0) := (((f1.sub (fun k i hk => by
      unfold vSt at hk
      show (vSd k i || Nat.beq k 1 || (Nat.beq k 0 && decide (i = 14))) = true
      rw [show vSd k i = true from hk]; rfl)).tr (f2.sub (fun k i hk => by
      show (vSd k i || Nat.beq k 1 || (Nat.beq k 0 && decide (i = 14))) = true
      rw [hk]; rfl))).st rfl).st rfl
    have n3 : ∀ (k : Nat) (i : Int), (k < 14 ∨ 18 < k) → k ≠ 1 → ¬ (k = 0 ∧ i = 14) → (fun k i => vSd k i || Nat.beq k 1 || (Nat.beq k 0 && decide (i = 14))) k i = false := fun k i a b d => by
      refine Bool.eq_false_iff.mpr (fun q => ?_)
      simp only [Bool.or_eq_true, Bool.and_eq_true, decide_eq_true_eq] at q
      rcases q with (q | q) | q
      · rw [vSd_n a] at q; cases q
      · exact b (vm_beq q)
      · exact d ⟨vm_beq q.1, q.2⟩
    have x3 : XC D E (vm_st (vm_st m2 0 14 s.1) 1 1 0) := hX.fo f3 (fun k i a => n3 k i (by omega) (by omega) (by omega)) (n3 0 15 (by decide) (by decide) (by decide))
    have r3 : XR D (zY z s.1) (vm_st (vm_st m2 0 14 s.1) 1 1 0) := ⟨⟨vst_s _ _ _ _, fun i a b => by have : i < 0 := b; omega⟩, e14, rX.2.2.1.fr f3 (fun k i a b => n3 k i (by omega) (by omega) (by omega)) hZ.2.2.1, rX.2.2.2.1.fr f3 (fun k i a => n3 k i (by omega) (by omega) (by omega)), rX.2.2.2.2.fr f3 (fun k i a => n3 k i (by omega) (by omega) (by omega))⟩
    have f3x : vfr vSxx m (vm_st (vm_st m2 0 14 s.1) 1 1 0) := f3.sub (fun k i hk => vSxx_t (by
      rcases Nat.lt_or_ge k 96 with a | a
      · exact a
      · exact absurd (hk.symm.trans (n3 k i (by omega) (by omega) (by omega))) (by decide)))
    have hT14 : s.1 = -2 → TX D (tw (teN D E) s.2) (vm_st (vm_st m2 0 14 s.1) 1 1 0) 14 := fun q => by
      obtain ⟨wo2, w1, w2, w3, w4⟩ := hw q
      have hv : sV s.2 = 0 := by rw [e] at q ⊢; exact sR_v _ _ _ (Int.le_refl _) q
      have f4 : vfr (fun k _ => Nat.ble k 1) m2 (vm_st (vm_st m2 0 14 s.1) 1 1 0) := (vfr.rf.st rfl).st rfl
      obtain ⟨⟨t1, t2, t3, t4⟩, ⟨e0, e1, e2, e3, e4, e5, e6, e7⟩⟩ := T1
      have hm : TX D (tw (teN D E) s.2) m2 14 := by
        refine ⟨⟨?_, fun k a b => ?_, fun w a b => w2 w a b, fun w a b k d x => w4 w k ⟨a, d, Or.inl ⟨b, x⟩⟩⟩, ?_, ?_, ?_, ?_, ?_, ?_, ?_, ?_⟩
        · rw [w1, show sfl s.2 = 0 from if_pos hv, Int.add_zero]; rfl
        · rw [show m2 (14 + 2) k = m1 (14 + 2) k from congrFun g16 k]; exact t2 k a b
        · rw [show m2 (14 + 1) 0 = m1 (14 + 1) 0 from congrFun g15 0]; exact e0
        · rw [show m2 (14 + 1) 1 = m1 (14 + 1) 1 from congrFun g15 1]; exact e1
        · rw [show m2 (14 + 1) 2 = m1 (14 + 1) 2 from congrFun g15 2]; exact e2
        · rw [show m2 (14 + 1) 3 = m1 (14 + 1) 3 from congrFun g15 3]; exact e3
        · rw [show m2 (14 + 1) 4 = m1 (14 + 1) 4 from congrFun g15 4]; exact e4
        · rw [show m2 (14 + 1) 5 = m1 (14 + 1) 5 from congrFun g15 5]; exact e5
        · rw [g4]; exact e6
        · rw [g5]; exact e7
      exact hm.fr f4 (fun k i a b => Bool.eq_false_iff.mpr (fun x => by have := Nat.le_of_ble_eq_true x; omega))
    rw [e14]
    generalize vm_st (vm_st m2 0 14 s.1) 1 1 0 = M at *
    have es : s = sR D (zb z) (zn z).toNat 0 s0 := e
    rw [← es] at hb hc hW
    refine ⟨fun q => ?_, fun q => hb q M f3x x3 r3⟩
    have hv : sV s.2 = 0 := by rw [e] at q ⊢; exact sR_v _ _ _ (Int.le_refl _) q
    have hT := hT14 q
    rw [q] at r3
    refine sx_begin hO (zY_ok hZ) x3 r3 (fun m4 f4 b4 T4 => sx_copy rfl rfl (Or.inr (by decide)) (tw_ok hO.TO hW hv) (hT.fr f4 (fun k i a b => vSh_n (by omega) (by omega))) (fun m5 f5 T5 => ?_))
    have hP := zP_ok (zY_ok (r := -2) hZ) hO.TO
    have b5 := b4.fr f5 (fun k i a => vSt_n (by omega)) hP.2.2.1
    have r := b5.new T5
    have e6 : m5 9 6 = sN s.2 := T5.1.1
    rw [e6]
    exact hc q m5 (f3x.tr ((vSh_xx f4).tr (f5.sub (fun k i hk => vSxx_t (by
      rcases Nat.lt_or_ge k 96 with a | a
      · exact a
      · rw [vSt_n (by omega)] at hk; cases hk))))) r.1 r.2
  have sm : ∀ (Q : Int → vm_M → Prop) (m : vm_M), MC D E m → MR D z m → ((sR D (zb z) (zn z).toNat 0 s0).1 ≠ -2 → ∀ m', vfr vSmm m m' → MC D E m' → MR D (zY z (sR D (zb z) (zn z).toNat 0 s0).1) m' → Q (-1) m') → ((sR D (zb z) (zn z).toNat 0 s0).1 = -2 → ∀ m', vfr vSmm m m' → MC (teD D (tw (teN D E) (sR D (zb z) (zn z).toNat 0 s0).2)) (tw (teN D E) (sR D (zb z) (zn z).toNat 0 s0).2).2 m' → MR (teD D (tw (teN D E) (sR D (zb z) (zn z).toNat 0 s0).2)) (zP (zY z (-2)) (teN D E)) m' → Q (sN (sR D (zb z) (zn z).toNat 0 s0).2) m') → vm_C 220 [vm_r 96] m (vm_qi Q) := by
    intro Q m hM rM hb hc
    have n3 : ∀ (k : Nat) (i : Int), k ≠ 115 → k ≠ 116 → (k = 96 → i ≠ 1 ∧ i ≠ 2 ∧ i ≠ 26 ∧ i ≠ 40) → (fun k i => vSe k i || (Nat.beq k 96 && (decide (i = 1) || decide (i = 2)))) k i = false := fun k i a b d => by
      refine Bool.eq_false_iff.mpr (fun q => ?_)
      simp only [Bool.or_eq_true, Bool.and_eq_true, decide_eq_true_eq] at q
      rcases q with q | q
      · rw [vSe_n a b (fun x => by have := d x; omega)] at q; cases q
      · have := d (vm_beq q.1); omega
    have fin : ∀ (r : Int) (m3 : vm_M), vfr (fun k i => vSe k i || (Nat.beq k 96 && (decide (i = 1) || decide (i = 2)))) m m3 → m3 96 1 = 0 → m3 96 2 = r → vfr vSmm m m3 ∧ MC D E m3 ∧ MR D (zY z r) m3 := fun r m3 f e1 e2 => by
      refine ⟨f.sub (fun k i hk => vSmm_t (by
        by_cases a : 96 ≤ k ∧ k < 900
        · exact a
        · exact absurd (hk.symm.trans (n3 k i (by omega) (by omega) (by omega))) (by decide))), hM.fr f (fun k i a => n3 k i (by omega) (by omega) (by omega)) rfl rfl, ⟨e1, fun i a b => by have : i < 0 := b; omega⟩, e2, rM.2.2.1.fr f (fun i => rfl) rfl hZ.2.2.2.1, rM.2.2.2.fr f (fun _ => rfl) (fun _ => rfl) (fun s hlt k => (hZ.2.2.2.2 s hlt).2 k)⟩
    have f0 : vfr (fun k i => Nat.beq k 96 && decide (i = 2)) m (vm_st m 96 2 (-2)) := vfr.rf.st rfl
    have fe : ∀ m1, vfr vSe (vm_st m 96 2 (-2)) m1 → vfr (fun k i => vSe k i || (Nat.beq k 96 && (decide (i = 1) || decide (i = 2)))) m m1 := fun m1 f1 => (vfr.rf.st rfl : vfr (fun k i => vSe k i || (Nat.beq k 96 && (decide (i = 1) || decide (i = 2)))) m (vm_st m 96 2 (-2))).tr (f1.sub (fun k i hk => by
      show (vSe k i || (Nat.beq k 96 && (decide (i = 1) || decide (i = 2)))) = true
      rw [hk]; rfl))
    refine ru11_say_0 (sm_readsWords hZ (hM.1.fr f0 rfl rfl (fun _ => rfl) (fun _ => rfl)) (rM.1.fr f0 (fun _ => rfl) rfl) (fun s m1 f1 e q hw hm => ⟨fun _ => ?_, fun x => absurd (show ¬ (1 : Int) = 0 by decide) x⟩) (fun s m1 f1 e q g26 => ⟨fun x => absurd rfl x, fun _ => ?_⟩))
    · have es : s = sR D (zb z) (zn z).toNat 0 s0 := e
      rw [← es] at hb hc hW
      have hv : sV s.2 = 0 := by rw [e] at q ⊢; exact sR_v _ _ _ (Int.le_refl _) q
      obtain ⟨f2, c2, r2⟩ := fin (-2) (vm_st m1 96 1 0) ((fe m1 f1).st rfl) (vst_s _ _ _ _) (by rw [vst_i (by decide), f1 96 2 rfl, vst_s])
      refine sm_keeps hO (zY_ok hZ) c2 r2 (fun m3 f3 b3 T3 => ?_)
      have hP := zP_ok (zY_ok (r := -2) hZ) hO.TO
      have hm3 : wm s.2 m3 := wm_fr f3 rfl (fun _ => rfl) (fun _ => rfl) (wm_fr (S := fun k i => Nat.beq k 96 && decide (i = 1)) (vfr.rf.st rfl) rfl (fun _ => rfl) (fun _ => rfl) hm)
      refine sm_writes hW hv hm3 hO.TO T3 (fun m4 f4 T4 => ?_)
      have r := (b3.fo f4 hP).new T4
      exact hc q m4 (f2.tr ((vS1_mm f3).tr (f4.sub (fun k i hk => vSmm_t (by have := vm_beq hk; omega))))) r.1 r.2
    · have es : s = sR D (zb z) (zn z).toNat 0 s0 := e
      rw [← es] at hb
      have g : vm_st m1 96 1 0 96 26 = s.1 := by rw [vst_i (by decide)]; exact g26
      rw [g]
      obtain ⟨f2, c2, r2⟩ := fin s.1 (vm_st (vm_st m1 96 1 0) 96 2 s.1) (((fe m1 f1).st rfl).st rfl) (by rw [vst_i (by decide), vst_s]) (vst_s _ _ _ _)
      exact hb q _ f2 c2 r2
  by_cases q : (sR D (zb z) (zn z).toNat 0 s0).1 = -2
  · exact opair c hZ rx rm (sN (sR D (zb z) (zn z).toNat 0 s0).2) (fun Q m hX rX h => sx Q m hX rX (fun n => absurd q n) (fun _ m' f x r => h m' f x r)) (fun Q m hX rX h => sm Q m hX rX (fun n => absurd q n) (fun _ m' f x r => h m' f x r)) ((tw_ok hO.TO hW (sR_v _ _ _ (Int.le_refl _) q)).OC hO.1) (zP_ok (zY_ok hZ) hO.TO) h
  · exact opair c hZ rx rm (-1) (fun Q m hX rX h => sx Q m hX rX (fun _ m' f x r => h m' f x r) (fun n => absurd n q)) (fun Q m hX rX h => sm Q m hX rX (fun _ m' f x r => h m' f x r) (fun n => absurd n q)) hO (zY_ok hZ) h
end SC
