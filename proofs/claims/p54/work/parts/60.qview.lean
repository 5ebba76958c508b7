/-! ===== the view ===== -/
def vwt (D : vD) (w : Int) : Nat → Int → List Int
  | 0, _ => []
  | n + 1, k => (97 + dP D (12 * w + k)) :: vwt D w n (k + 1)
def vwd (D : vD) (w : Int) : List Int := vwt D w (dL D w).toNat 0 ++ [32]
def vrt (D : vD) : Nat → Int → List Int
  | 0, _ => []
  | n + 1, w => vwd D w ++ vrt D n (w + 1)
def vrw (D : vD) (E : Int → Int) (r : Nat) : List Int := vnum (y0 D E (eF D E r) (eF D E (r + 1))) ++ ([58] ++ (vrt D (eF D E (r + 1) - eF D E r).toNat (eF D E r) ++ (vnum (yG D E (eF D E r) (eF D E (r + 1))) ++ [10])))
def vvt (D : vD) (E : Int → Int) : Nat → Nat → List Int
  | 0, _ => []
  | n + 1, r => vrw D E r ++ vvt D E n (r + 1)
section QV
variable {D : vD} {E : Int → Int} {m m' : vm_M}
theorem vwt_len {w : Int} : ∀ (n : Nat) (k : Int), (vwt D w n k).length = n
  | 0, k => rfl
  | n + 1, k => by unfold vwt; rw [List.length_cons, vwt_len n (k + 1)]
theorem vwd_len (hO : dOS D) {w : Int} (hw : 0 ≤ w ∧ w < dN D) : (vwd D w).length ≤ 13 := by
  have := hO.2.2.2.1 w hw.1 hw.2
  unfold vwd
  rw [List.length_append, vwt_len]
  simp only [List.length_cons, List.length_nil]
  omega
theorem vrt_len (hO : dOS D) : ∀ (n : Nat) (w : Int), 0 ≤ w → w + n ≤ dN D → (vrt D n w).length ≤ 13 * n
  | 0, w, _, _ => Nat.le_refl _
  | n + 1, w, h1, h2 => by
    unfold vrt
    rw [List.length_append]
    have a := vwd_len hO (w := w) ⟨h1, by omega⟩
    have b := vrt_len hO n (w + 1) (by omega) (by omega)
    omega
theorem vrw_len (hO : OC D E) {r : Nat} (hr : r < eQ D E) : (vrw D E r).length ≤ 410 := by
  have hq := (eQ_ok hO.1 hO.2.1 hO.2.2).2.2.2.1 r hr
  have hN := hO.2.1.2.2.1
  have a := vnum_len (y0 D E (eF D E r) (eF D E (r + 1)))
  have b := vnum_len (yG D E (eF D E r) (eF D E (r + 1)))
  have c := vrt_len hO.2.1 (eF D E (r + 1) - eF D E r).toNat (eF D E r) hq.1 (by omega)
  unfold vrw
  simp only [List.length_append, List.length_cons, List.length_nil]
  omega
theorem vvt_len (hO : OC D E) : ∀ (n r : Nat), r + n ≤ eQ D E → (vvt D E n r).length ≤ 410 * n
  | 0, r, _ => Nat.le_refl _
  | n + 1, r, h => by
    unfold vvt
    rw [List.length_append]
    have a := vrw_len hO (r := r) (by omega)
    have b := vvt_len hO n (r + 1) (by omega)
    omega
theorem XC.f85 (h : vfr vS85 m m') (hX : XC D E m) : XC D E m' := hX.fr h (fun k i _ _ _ a => Bool.eq_false_iff.mpr (fun q => a (vm_beq q)))
theorem vLd.f85 (h : vfr vS85 m m') (hL : vLd D E m) : vLd D E m' := hL.fr h (fun k i a => Bool.eq_false_iff.mpr (fun q => by have := vm_beq q; omega))
theorem vS85_X (h : vfr vS85 m m') : vfr vSX m m' := h.sub (fun k i hk => vSX_t (by have := vm_beq hk; omega))
theorem vSs_m (h : vfr vSs m m') : vfr vSm m m' := h.sub (fun k i hk => by
  unfold vSs at hk
  simp only [Bool.and_eq_true, decide_eq_true_eq] at hk
  unfold vSm
  rw [vm_beq hk.1, decide_eq_true hk.2.1, decide_eq_true hk.2.2]; simp)
theorem vSs_n {k : Nat} {i : Int} (h : ¬ (k = 96 ∧ 41 ≤ i ∧ i ≤ 43)) : vSs k i = false := by
  refine Bool.eq_false_iff.mpr (fun q => ?_)
  unfold vSs at q
  simp only [Bool.and_eq_true, decide_eq_true_eq] at q
  exact h ⟨vm_beq q.1, q.2⟩
theorem sx_writeView {Q : vm_M → Prop} (hO : OC D E) (hX : XC D E m) (hL : vLd D E m) {s : Int × Int × Int} (hs : vSi s m) (hf : vfit s (vvt D E (eQ D E) 0)) (h : ∀ m', vfr vS85 m m' → vSi (ems s (vvt D E (eQ D E) 0)) m' → Q m') : vm_C 157 [vm_r 0] m (vm_qv Q) := by
  obtain ⟨hD, hOS, hE⟩ := hO
  have hN := hOS.2.2.1
  have hq := eQ_ok hD hOS hE
  have go : ∀ (n r : Nat) (m1 : vm_M) (s1 : Int × Int × Int) (w2 w3 w4 : Option vm_V), r + n = eQ D E → vfr vS85 m m1 → vSi s1 m1 → vfit s1 (vvt D E n r) → ems s1 (vvt D E n r) = ems s (vvt D E (eQ D E) 0) → ku10_writeView_2 r w2 w3 w4 m1 Q := by
    intro n
    induction n with
    | zero =>
      intro r m1 s1 w2 w3 w4 hr f1 i1 ft he
      have L1 := hL.f85 f1
      have e8 : m1 67 8 = (eQ D E : Int) := L1.2.2.1.1
      rw [← he] at h
      exact ru10_writeView_2 ⟨fun _ => h m1 f1 i1, fun z => by rw [e8] at z; omega⟩
    | succ n ih =>
      intro r m1 s1 w2 w3 w4 hr f1 i1 ft he
      have L1 := hL.f85 f1
      have X1 := hX.f85 f1
      have e8 : m1 67 8 = (eQ D E : Int) := L1.2.2.1.1
      obtain ⟨b1, b2, b3⟩ := hq.2.2.2.1 r (by omega)
      have hG := yG_bd (f := eF D E r) (t := eF D E (r + 1)) hD hE
      have hG0 := hE.2.2.2.1
      have hC := hD.2.1
      have h0 := y0_bd hD hOS hE b1 (show eF D E r < eF D E (r + 1) by omega) b3
      have R1 := (L1.2.2.2 r (by omega)).1
      have e80 : m1 80 (r : Int) = y0 D E (eF D E r) (eF D E (r + 1)) := R1.2.2.1
      have ft1 : vfit s1 (vrw D E r ++ vvt D E n (r + 1)) := ft
      have he1 : ems s1 (vrw D E r ++ vvt D E n (r + 1)) = ems s (vvt D E (eQ D E) 0) := he
      have ftr := vfit_l ft1
      have ftn := vfit_r ft1
      rw [← ems_app] at he1
      unfold vrw at ftr ftn he1
      refine ru10_writeView_2 ⟨fun z => by rw [e8] at z; omega, fun _ => ⟨by omega, ?_⟩⟩
      rw [e80]
      refine sx_num ⟨h0.1, by omega⟩ i1 (vfit_l ftr) (fun m2 f2 i2 => ?_)
      have ftr2 := vfit_r ftr
      refine sx_add i2 (vfit_l ftr2) (fun m3 f3 i3 => ⟨by omega, ?_⟩)
      have ftr3 := vfit_r ftr2
      have f13 := f1.tr (f2.tr f3)
      have L3 := hL.f85 f13
      have e1 : m3 70 (r : Int) = eF D E r := L3.2.2.1.2 r (by unfold eQ at hr; omega) (by unfold eQ at hr; omega)
      have e2 : m3 70 ((r + 1 : Nat) : Int) = eF D E (r + 1) := L3.2.2.1.2 (r + 1) (by unfold eQ at hr; omega) (by unfold eQ at hr; omega)
      rw [show ((r + 1 : Nat) : Int) = (r : Int) + 1 by omega] at e2
      rw [e1, e2]
      rw [← ems_app, ← ems_app] at he1
      have gw : ∀ (k : Nat) (w : Int) (m4 : vm_M) (s4 : Int × Int × Int) (w4 : Option vm_V), eF D E r ≤ w → w + k = eF D E (r + 1) → vfr vS85 m m4 → vSi s4 m4 → vfit s4 (vrt D k w ++ (vnum (yG D E (eF D E r) (eF D E (r + 1))) ++ [10])) → vfit (ems s4 (vrt D k w ++ (vnum (yG D E (eF D E r) (eF D E (r + 1))) ++ [10]))) (vvt D E n (r + 1)) → ems (ems s4 (vrt D k w ++ (vnum (yG D E (eF D E r) (eF D E (r + 1))) ++ [10]))) (vvt D E n (r + 1)) = ems s (vvt D E (eQ D E) 0) → ku10_writeView_60 r (eF D E (r + 1)) w w4 m4 Q := by
        intro k
        induction k with
        | zero =>
          intro w m4 s4 w4 hw1 hw2 f4 i4 ft4 fn4 he4
          have L4 := hL.f85 f4
          have e78 : m4 78 (r : Int) = yG D E (eF D E r) (eF D E (r + 1)) := (L4.2.2.2 r (by omega)).1.1
          have ft4 : vfit s4 (vnum (yG D E (eF D E r) (eF D E (r + 1))) ++ [10]) := ft4
          have fn4 : vfit (ems s4 (vnum (yG D E (eF D E r) (eF D E (r + 1))) ++ [10])) (vvt D E n (r + 1)) := fn4
          have he4 : ems (ems s4 (vnum (yG D E (eF D E r) (eF D E (r + 1))) ++ [10])) (vvt D E n (r + 1)) = ems s (vvt D E (eQ D E) 0) := he4
          refine ru10_writeView_60 ⟨fun _ => ⟨by omega, ?_⟩, fun z => by omega⟩
          rw [e78]
          refine sx_num ⟨by omega, by omega⟩ i4 (vfit_l ft4) (fun m5 f5 i5 => sx_add i5 (vfit_r ft4) (fun m6 f6 i6 => ⟨by omega, ?_⟩))
          rw [ems_app] at i6
          exact ih (r + 1) m6 _ _ _ _ (by omega) (f4.tr (f5.tr f6)) i6 fn4 he4
        | succ k ihk =>
          intro w m4 s4 w4 hw1 hw2 f4 i4 ft4 fn4 he4
          have hwN : 0 ≤ w ∧ w < dN D := ⟨by omega, by omega⟩
          have hl := hOS.2.2.2.1 w hwN.1 hwN.2
          have erw : vrt D (k + 1) w ++ (vnum (yG D E (eF D E r) (eF D E (r + 1))) ++ [10]) = vwd D w ++ (vrt D k (w + 1) ++ (vnum (yG D E (eF D E r) (eF D E (r + 1))) ++ [10])) := by
            show (vwd D w ++ vrt D k (w + 1)) ++ _ = _
            rw [List.append_assoc]
          rw [erw] at ft4 fn4 he4
          rw [← ems_app] at fn4 he4
          have ftw := vfit_l ft4
          have ftx := vfit_r ft4
          have gl : ∀ (q : Nat) (j : Int) (m5 : vm_M) (s5 : Int × Int × Int), 0 ≤ j → j + q = dL D w → vfr vS85 m m5 → vSi s5 m5 → vfit s5 (vwt D w q j ++ [32]) → ems s5 (vwt D w q j ++ [32]) = ems s4 (vwd D w) → ku10_writeView_68 r (eF D E (r + 1)) w j m5 Q := by
            intro q
            induction q with
            | zero =>
              intro j m5 s5 hj hq5 f5 i5 ft5 he5
              have X5 := hX.f85 f5
              have el : m5 12 w = dL D w := X5.2.1.2.2.1 w hwN.1 hwN.2
              refine ru10_writeView_68 ⟨by omega, fun _ => ?_, fun z => by rw [el] at z; omega⟩
              refine sx_add i5 ft5 (fun m6 f6 i6 => ⟨by omega, ihk (w + 1) m6 (ems s4 (vwd D w)) _ (by omega) (by omega) (f5.tr f6) ?_ ftx fn4 he4⟩)
              rw [← he5]; exact i6
            | succ q ihq =>
              intro j m5 s5 hj hq5 f5 i5 ft5 he5
              have X5 := hX.f85 f5
              have el : m5 12 w = dL D w := X5.2.1.2.2.1 w hwN.1 hwN.2
              have hk := hOS.2.2.2.2 w hwN.1 hwN.2 j hj (by omega)
              have hk1 : 0 ≤ dP D (12 * w + j) ∧ dP D (12 * w + j) < 26 := ⟨hk.1, hk.2.1⟩
              have ep : m5 13 (12 * w + j) = dP D (12 * w + j) := X5.2.1.2.2.2 w hwN.1 hwN.2 j hj (by omega)
              have e5 : vwt D w (q + 1) j ++ [32] = [97 + dP D (12 * w + j)] ++ (vwt D w q (j + 1) ++ [32]) := rfl
              rw [e5] at ft5 he5
              rw [← ems_app] at he5
              refine ru10_writeView_68 ⟨by omega, fun z => by rw [el] at z; omega, fun _ => ?_⟩
              rw [show w * 12 + j = 12 * w + j by omega, ep]
              exact ⟨by omega, sx_add i5 (vfit_l ft5) (fun m6 f6 i6 => ⟨by omega, ihq (j + 1) m6 _ (by omega) (by omega) (f5.tr f6) i6 (vfit_r ft5) he5⟩)⟩
          refine ru10_writeView_60 ⟨fun z => by omega, fun _ => ?_⟩
          exact gl (dL D w).toNat 0 m4 s4 (Int.le_refl _) (by omega) f4 i4 ftw rfl
      rw [← ems_app, ← ems_app] at ftn
      exact gw (eF D E (r + 1) - eF D E r).toNat (eF D E r) m3 _ w4 (Int.le_refl _) (by omega) f13 i3 ftr3 ftn he1
  exact ru10_writeView_0 (go _ 0 m s none none none (Nat.zero_add _) vfr.rf hs hf rfl)
theorem sx_open' {Q : vm_M → Prop} {i : Int} (h : ∀ m', vfr vS85 m m' → vSi (0, i, -2) m' → Q m') : vm_C 78 [vm_r 85, vm_i i] m (vm_qv Q) := by
  have t : ∀ j, vS85 85 j = true := fun j => rfl
  refine ru6_open_0 (h _ (((vfr.rf.st (t _)).st (t _)).st (t _)) ⟨by rw [vst_i (by decide), vst_i (by decide), vst_s], by rw [vst_i (by decide), vst_s], vst_s _ _ _ _⟩)
theorem s_viewLength (c : OC D E) (hX : XC D E m) {Q : Int → vm_M → Prop} (h : ∀ m', vfr vSX m m' → XC D E m' → Q (ems (0, -1, -2) (vvt D E (eQ D E) 0)).1 m') : vm_C 152 [vm_r 0] m (vm_qi Q) := by
  have hlen := vvt_len c (eQ D E) 0 (by omega)
  have hq := eQ_ok c.1 c.2.1 c.2.2
  have hfit : ∀ i, vfit (0, i, -2) (vvt D E (eQ D E) 0) := fun i => ⟨Int.le_refl _, by show 0 + ((vvt D E (eQ D E) 0).length : Int) ≤ _; omega⟩
  refine ru10_viewLength_0 (sx_layOut c hX (fun m1 f1 x1 l1 _ => sx_open' (fun m2 f2 i2 => sx_writeView c (x1.f85 f2) (l1.f85 f2) i2 (hfit _) (fun m3 f3 i3 => ?_))))
  rw [i3.1]
  exact h m3 (f1.tr (vS85_X (f2.tr f3))) (x1.f85 (f2.tr f3))
theorem s_viewByte (c : OC D E) (hX : XC D E m) {i : Int} {Q : Int → vm_M → Prop} (h : ∀ m', vfr vSX m m' → XC D E m' → Q (if 0 ≤ i then (ems (0, i, -2) (vvt D E (eQ D E) 0)).2.2 else -1) m') : vm_C 153 [vm_r 0, vm_i i] m (vm_qi Q) := by
  have hlen := vvt_len c (eQ D E) 0 (by omega)
  have hq := eQ_ok c.1 c.2.1 c.2.2
  have hfit : ∀ i, vfit (0, i, -2) (vvt D E (eQ D E) 0) := fun i => ⟨Int.le_refl _, by show 0 + ((vvt D E (eQ D E) 0).length : Int) ≤ _; omega⟩
  refine ru10_viewByte_0 ⟨fun q => sx_layOut c hX (fun m1 f1 x1 l1 _ => sx_open' (fun m2 f2 i2 => sx_writeView c (x1.f85 f2) (l1.f85 f2) i2 (hfit _) (fun m3 f3 i3 => ?_))), fun q => ?_⟩
  · have h := h m3 (f1.tr (vS85_X (f2.tr f3))) (x1.f85 (f2.tr f3))
    rw [if_pos q] at h
    rw [i3.2.2]; exact h
  · have h := h m vfr.rf hX
    rw [if_neg q] at h; exact h
end QV
