/-! ===== rows in the model ===== -/
/-- how many letters the words from f up to w have -/
def vcl (D : vD) (f w : Int) : Int := vpi (dL D) w - vpi (dL D) f
theorem vcl_f {D : vD} {f : Int} : vcl D f f = 0 := by unfold vcl; omega
theorem vcl_s {D : vD} {f w : Int} (hw : 0 ≤ w) : vcl D f (w + 1) = vcl D f w + dL D w := by unfold vcl; rw [vpi_s hw]; omega
theorem vcl_bd {D : vD} (hO : dOS D) {f : Int} (hf : 0 ≤ f) : ∀ n : Nat, f + n ≤ dN D → n ≤ vcl D f (f + n) ∧ vcl D f (f + n) ≤ 12 * n := by
  intro n
  induction n with
  | zero => intro _; rw [show f + ((0 : Nat) : Int) = f by omega, vcl_f]; omega
  | succ n ih =>
    intro hn
    have i := ih (by omega)
    have l := hO.2.2.2.1 (f + n) (by omega) (by omega)
    rw [show f + ((n + 1 : Nat) : Int) = f + n + 1 by omega, vcl_s (by omega)]
    omega
theorem vcl_bd2 {D : vD} (hO : dOS D) {f w : Int} (hf : 0 ≤ f) (hw : f ≤ w) (hN : w ≤ dN D) : 0 ≤ vcl D f w ∧ vcl D f w ≤ 12 * (w - f) ∧ vcl D f w ≤ 360 := by
  have h := vcl_bd hO hf (w - f).toNat (by omega)
  have h3 := hO.2.2.1
  rw [show f + ((w - f).toNat : Int) = w by omega] at h
  omega
theorem vcl_mono {D : vD} (hO : dOS D) {f w x : Int} (hf : 0 ≤ f) (hw : f ≤ w) (hx : w ≤ x) (hN : x ≤ dN D) : vcl D f w ≤ vcl D f x := by
  have h := vcl_bd2 hO (f := w) (w := x) (by omega) hx hN
  unfold vcl at *
  omega
/-- a letter's cells -/
def vMl (D : vD) (g p n w : Int) (E : Int → Int) (k : Int) (m : vm_M) : Prop := m 108 (n + k) = dP D (12 * w + k) ∧ m 109 (n + k) = p + yq D E g w k ∧ m 110 (n + k) = (if k + 1 < dL D w then yd D g w k else 1000)
def vMr (D : vD) (E : Int → Int) (f t : Int) (m : vm_M) : Prop := m 96 17 = yG D E f t ∧ m 96 18 = yW D E f t ∧ m 96 19 = yS D E f t ∧ m 96 20 = yX D E f t ∧ m 96 21 = y0 D E f t ∧ m 96 22 = vcl D f t ∧ ∀ w, f ≤ w → w < t → ∀ k, 0 ≤ k → k < dL D w → vMl D (yG D E f t) (yp D E f t w) (vcl D f w) w E k m
def vSlw (n : Int) (k : Nat) (i : Int) : Bool := (Nat.ble 108 k && Nat.ble k 110 && decide (n ≤ i)) || (Nat.beq k 96 && decide (i = 22))
theorem vSlw_t {n i : Int} {k : Nat} (h : (108 ≤ k ∧ k ≤ 110 ∧ n ≤ i) ∨ (k = 96 ∧ i = 22)) : vSlw n k i = true := by
  unfold vSlw
  rcases h with h | h
  · rw [Nat.ble_eq_true_of_le h.1, Nat.ble_eq_true_of_le h.2.1, decide_eq_true h.2.2]; rfl
  · rw [h.1, h.2]; simp
theorem vSlw_n {n i : Int} {k : Nat} (h : ¬ (108 ≤ k ∧ k ≤ 110 ∧ n ≤ i)) (h2 : ¬ (k = 96 ∧ i = 22)) : vSlw n k i = false := by
  refine Bool.eq_false_iff.mpr (fun q => ?_)
  unfold vSlw at q
  simp only [Bool.or_eq_true, Bool.and_eq_true, decide_eq_true_eq] at q
  rcases q with a | a
  · exact h ⟨Nat.le_of_ble_eq_true a.1.1, Nat.le_of_ble_eq_true a.1.2, a.2⟩
  · exact h2 ⟨vm_beq a.1, a.2⟩
theorem vSlw_le {n n' : Int} {m m' : vm_M} (hn : n' ≤ n) (h : vfr (vSlw n) m m') : vfr (vSlw n') m m' := h.sub (fun k i hk => by
  unfold vSlw at hk
  simp only [Bool.or_eq_true, Bool.and_eq_true, decide_eq_true_eq] at hk
  rcases hk with a | a
  · exact vSlw_t (Or.inl ⟨Nat.le_of_ble_eq_true a.1.1, Nat.le_of_ble_eq_true a.1.2, by omega⟩)
  · exact vSlw_t (Or.inr ⟨vm_beq a.1, a.2⟩))
section MY
variable {D : vD} {E : Int → Int} {m : vm_M}
theorem MC.flw {n : Int} {m' : vm_M} (h : vfr (vSlw n) m m') (hM : MC D E m) : MC D E m' :=
  hM.fr h (fun k i a => vSlw_n (by omega) (by omega)) (vSlw_n (by omega) (by omega)) (vSlw_n (by omega) (by omega))
theorem sm_laysWord {Q : vm_M → Prop} (hO : OC D E) (hM : MC D E m) {w g p n : Int} (hw : 0 ≤ w ∧ w < dN D) (hg : 0 ≤ g ∧ g ≤ dC D) (hp : -1000000 ≤ p ∧ p ≤ 1000000) (h17 : m 96 17 = g) (hn : 0 ≤ n ∧ n + dL D w ≤ 360) (h22 : m 96 22 = n) (h : ∀ m', vfr (vSlw n) m m' → m' 96 22 = n + dL D w → (∀ k, 0 ≤ k → k < dL D w → vMl D g p n w E k m') → Q m') : vm_C 195 [vm_r 96, vm_i w, vm_i p] m (vm_qv Q) := by
  obtain ⟨hD, hOS, hE⟩ := hO
  have hC := hD.2.1
  have hl := hOS.2.2.2.1 w hw.1 hw.2
  have hz := hE.2.2.2.2.2.1
  have go : ∀ (r : Nat) (k a : Int) (m1 : vm_M) (w5 : Option vm_V), 0 ≤ k → k + r = dL D w → (k < dL D w → a = p + yq D E g w k) → vfr (vSlw n) m m1 → m1 96 22 = n + k → (∀ j, 0 ≤ j → j < k → vMl D g p n w E j m1) → ku11_laysWord_5 w p a k w5 m1 Q := by
    intro r
    induction r with
    | zero =>
      intro k a m1 w5 hk hr ha hf h2 hv
      have hM1 := hM.flw hf
      exact ru11_laysWord_5 (sm_len hOS hM1.2.1 hw ⟨fun _ => h m1 hf (by rw [h2]; omega) (fun j x y => hv j x (by omega)), fun c => by omega⟩)
    | succ r ih =>
      intro k a m1 w5 hk hr ha hf h2 hv
      have hM1 := hM.flw hf
      have ha := ha (by omega)
      have hkk := hOS.2.2.2.2 w hw.1 hw.2 k hk (by omega)
      have hk1 : 0 ≤ dP D (12 * w + k) ∧ dP D (12 * w + k) < 26 := ⟨hkk.1, hkk.2.1⟩
      have hwb := hD.2.2.1 _ hkk.1 hkk.2.1
      have hqb := yq_bd hD hOS hE hw hg.2 (k := k) ⟨hk, by omega⟩
      have e98 : m1 98 (dP D (12 * w + k)) = dW D (dP D (12 * w + k)) := hM1.1.2.2.1 _ hkk
      have e5 : m1 100 5 = E 5 := hM1.2.2.2.2.2.2.2.1
      have f2 : vfr (vSlw n) m (vm_st (vm_st m1 108 (n + k) (dP D (12 * w + k))) 109 (n + k) a) := (hf.st (vSlw_t (by omega))).st (vSlw_t (by omega))
      have hM2 := hM.flw f2
      have hcell : ∀ (z : Int) (j : Int), 0 ≤ j → j < k → vMl D g p n w E j (vm_st (vm_st (vm_st (vm_st m1 108 (n + k) (dP D (12 * w + k))) 109 (n + k) a) 110 (n + k) z) 96 22 (n + k + 1)) := by
        intro z j x y
        obtain ⟨v1, v2, v3⟩ := hv j x y
        refine ⟨?_, ?_, ?_⟩
        · rw [vst_k (by decide), vst_k (by decide), vst_k (by decide), vst_i (by omega)]; exact v1
        · rw [vst_k (by decide), vst_k (by decide), vst_i (by omega), vst_k (by decide)]; exact v2
        · rw [vst_k (by decide), vst_i (by omega), vst_k (by decide), vst_k (by decide)]; exact v3
      refine ru11_laysWord_5 (sm_len hOS hM1.2.1 hw ⟨fun c => by omega, fun _ => sm_let hOS hM1.2.1 hw ⟨hk, by omega⟩ ?_⟩)
      rw [h2]
      simp only [vst_k, ne_eq, Nat.reduceEqDiff, not_false_eq_true, h2]
      refine ⟨⟨by omega, by omega, by omega⟩, sm_len hOS hM2.2.1 hw ⟨fun c => ?_, fun c => ⟨by omega, sm_let hOS hM2.2.1 hw ⟨by omega, by omega⟩ ?_⟩⟩⟩
      · simp only [vst_s, vst_k, vst_i, ne_eq, Nat.reduceEqDiff, not_false_eq_true, h2, e98, e5]
        have hmb := vmul_bd (a := dW D (dP D (12 * w + k)) + 1000) (b := E 5) (A := 1060) (B := 9) ⟨by omega, by omega⟩ ⟨by omega, hz.2⟩
        refine ⟨⟨by omega, by omega, by omega, by omega, by omega, by omega, by omega, by omega⟩, ?_⟩
        refine ih (k + 1) _ _ _ (by omega) (by omega) (fun q => by omega) ((f2.st (vSlw_t (by omega))).st (vSlw_t (Or.inr ⟨rfl, rfl⟩))) (by rw [vst_s]; omega) (fun j x y => ?_)
        by_cases hj : j = k
        · subst hj
          refine ⟨?_, ?_, ?_⟩
          · rw [vst_k (by decide), vst_k (by decide), vst_k (by decide), vst_s]
          · rw [vst_k (by decide), vst_k (by decide), vst_s]; exact ha
          · rw [vst_k (by decide), vst_s, if_neg (by omega)]
        · exact hcell 1000 j x (by omega)
      · have hk2 := hOS.2.2.2.2 w hw.1 hw.2 (k + 1) (by omega) (by omega)
        have hyb := yd_bd hD hOS (g := g) (k := k) hw ⟨hk, by omega⟩ hg.2
        have htb := yq_t_bd hD hOS hE (g := g) (k := k) hw ⟨hk, by omega⟩ hg.2
        have hqs := yq_s (D := D) (E := E) (g := g) (w := w) (k := k) hk
        have e17 : m1 96 17 = g := by rw [hf _ _ (vSlw_n (by omega) (by omega)), h17]
        simp only [vst_k, ne_eq, Nat.reduceEqDiff, not_false_eq_true, e17]
        have ed : vcd D (dP D (12 * w + k)) (dP D (12 * w + (k + 1))) g = yd D g w k := rfl
        refine sm_dist hD hOS hM2.1 hM2.2.1 hkk hk2 hg.2 ?_
        rw [ed]
        simp only [vst_s, vst_k, vst_i, ne_eq, Nat.reduceEqDiff, not_false_eq_true, h2, e98, e5]
        refine ⟨⟨by omega, by omega, by omega, by omega, by omega, by omega, by omega, by omega⟩, ?_⟩
        refine ih (k + 1) _ _ _ (by omega) (by omega) (fun q => by rw [hqs, ha]; omega) ((f2.st (vSlw_t (by omega))).st (vSlw_t (Or.inr ⟨rfl, rfl⟩))) (by rw [vst_s]; omega) (fun j x y => ?_)
        by_cases hj : j = k
        · subst hj
          refine ⟨?_, ?_, ?_⟩
          · rw [vst_k (by decide), vst_k (by decide), vst_k (by decide), vst_s]
          · rw [vst_k (by decide), vst_k (by decide), vst_s]; exact ha
          · rw [vst_k (by decide), vst_s, if_pos (by omega)]
        · exact hcell (yd D g w k) j x (by omega)
  exact ru11_laysWord_0 (go (dL D w).toNat 0 p m none (Int.le_refl _) (by omega) (fun _ => by rw [yq_0]; omega) vfr.rf (by rw [h22]; omega) (fun j x y => by omega))
theorem sm_laysLetters {Q : vm_M → Prop} (hO : OC D E) (hM : MC D E m) {r : Nat} {f t : Int} (hr : r < 12) (hf : 0 ≤ f) (hft : f < t) (ht : t ≤ dN D) (h1 : m 105 r = f) (h2 : m 105 ((r : Int) + 1) = t) (h17 : m 96 17 = yG D E f t) (h19 : m 96 19 = yS D E f t) (h20 : m 96 20 = yX D E f t) (h21 : m 96 21 = y0 D E f t) (h : ∀ m', vfr (vSlw 0) m m' → m' 96 22 = vcl D f t → (∀ w, f ≤ w → w < t → ∀ k, 0 ≤ k → k < dL D w → vMl D (yG D E f t) (yp D E f t w) (vcl D f w) w E k m') → Q m') : vm_C 194 [vm_r 96, vm_i r] m (vm_qv Q) := by
  obtain ⟨hD, hOS, hE⟩ := hO
  have hG := yG_bd (f := f) (t := t) hD hE
  have hG0 := hE.2.2.2.1
  have hSb := yS_bd hD hOS hE hf hft ht
  have hN := hOS.2.2.1
  have go : ∀ (n : Nat) (w : Int) (m1 : vm_M), f ≤ w → w + n = t → vfr (vSlw 0) m m1 → m1 96 22 = vcl D f w → (∀ x, f ≤ x → x < w → ∀ k, 0 ≤ k → k < dL D x → vMl D (yG D E f t) (yp D E f t x) (vcl D f x) x E k m1) → ku11_laysLetters_17 r (yp D E f t w) w m1 Q := by
    intro n
    induction n with
    | zero =>
      intro w m1 hw1 hw2 hfr h22 hv
      have e2 : m1 105 ((r : Int) + 1) = t := by rw [hfr _ _ (vSlw_n (by omega) (by omega)), h2]
      refine ru11_laysLetters_17 ⟨by omega, fun _ => h m1 hfr (by rw [h22, show w = t by omega]) (fun x a b => hv x a (by omega)), fun c => by rw [e2] at c; omega⟩
    | succ n ih =>
      intro w m1 hw1 hw2 hfr h22 hv
      have e2 : m1 105 ((r : Int) + 1) = t := by rw [hfr _ _ (vSlw_n (by omega) (by omega)), h2]
      have hM1 := hM.flw hfr
      have hwN : 0 ≤ w ∧ w < dN D := ⟨by omega, by omega⟩
      have hl := hOS.2.2.2.1 w hwN.1 hwN.2
      have hpb := yp_bd2 hD hOS hE hf hft ht (w := w) ⟨hw1, by omega⟩
      have hcb := vcl_bd2 hOS hf hw1 (show w ≤ dN D by omega)
      have hcb2 := vcl_bd2 hOS hf (show f ≤ w + 1 by omega) (show w + 1 ≤ dN D by omega)
      have hcs := vcl_s (D := D) (f := f) hwN.1
      have hzb := ywz_bd hD hOS hE hwN hG.2
      have hps := yp_s (D := D) (E := E) (f := f) (t := t) (w := w) hwN.1
      refine ru11_laysLetters_17 ⟨by omega, fun c => by rw [e2] at c; omega, fun _ => ?_⟩
      refine sm_laysWord ⟨hD, hOS, hE⟩ hM1 hwN (g := yG D E f t) (n := vcl D f w) ⟨by omega, hG.2⟩ (by omega) (by rw [hfr _ _ (vSlw_n (by omega) (by omega)), h17]) ⟨hcb.1, by omega⟩ h22 (fun m2 f2 g22 v2 => ?_)
      have f2' := hfr.tr (vSlw_le hcb.1 f2)
      have hM2 := hM.flw f2'
      have e17 : m2 96 17 = yG D E f t := by rw [f2' _ _ (vSlw_n (by omega) (by omega)), h17]
      have e5 : m2 100 5 = E 5 := hM2.2.2.2.2.2.2.2.1
      have e19 : m2 96 19 = yS D E f t := by rw [f2' _ _ (vSlw_n (by omega) (by omega)), h19]
      have e20 : m2 96 20 = yX D E f t := by rw [f2' _ _ (vSlw_n (by omega) (by omega)), h20]
      have e1 : m2 105 r = f := by rw [f2' _ _ (vSlw_n (by omega) (by omega)), h1]
      have eb := yu_bd hD hOS hE hf hft ht hwN
      have eu : yu D E f t w = vww D (yG D E f t) w * E 5 + yS D E f t + (if w - f < yX D E f t then 1 else 0) := rfl
      rw [e17]
      refine sm_width hD hOS hM2.1 hM2.2.1 hwN hG.2 ?_
      rw [e5, e19, e20, e1]
      have hnext : ku11_laysLetters_17 r (yp D E f t (w + 1)) (w + 1) m2 Q := by
        refine ih (w + 1) m2 (by omega) (by omega) f2' (by rw [g22, hcs]) (fun x a b k c d => ?_)
        by_cases hx : x = w
        · rw [hx] at d ⊢; exact v2 k c d
        · have hcx := vcl_mono hOS hf (show f ≤ x + 1 by omega) (show x + 1 ≤ w by omega) (by omega)
          have hcx2 := vcl_s (D := D) (f := f) (show 0 ≤ x by omega)
          obtain ⟨o1, o2, o3⟩ := hv x a (by omega) k c d
          refine ⟨?_, ?_, ?_⟩
          · rw [f2 _ _ (vSlw_n (by omega) (by omega))]; exact o1
          · rw [f2 _ _ (vSlw_n (by omega) (by omega))]; exact o2
          · rw [f2 _ _ (vSlw_n (by omega) (by omega))]; exact o3
      refine ⟨⟨by omega, by omega, by omega, by omega⟩, fun c => ⟨by omega, ?_⟩, fun c => ⟨by omega, ?_⟩⟩
      · rw [if_neg (by omega)] at eu
        rw [show yp D E f t w + (vww D (yG D E f t) w * E 5 + yS D E f t + 0) = yp D E f t (w + 1) by rw [hps, eu]]
        exact hnext
      · rw [if_pos (by omega)] at eu
        rw [show yp D E f t w + (vww D (yG D E f t) w * E 5 + yS D E f t + 1) = yp D E f t (w + 1) by rw [hps, eu]]
        exact hnext
  have f0 : vfr (vSlw 0) m (vm_st m 96 22 0) := vfr.rf.st (vSlw_t (Or.inr ⟨rfl, rfl⟩))
  refine ru11_laysLetters_0 ⟨by omega, ?_⟩
  rw [vst_i (by decide), vst_k (by decide), h21, h1]
  have := go (t - f).toNat f _ (Int.le_refl _) (by omega) f0 (by rw [vst_s, vcl_f]) (fun x a b => by omega)
  rw [yp_f] at this
  exact this
theorem sm_lacks {Q : Int → vm_M → Prop} (hE : dEm E m) (hI : 10 ≤ E 0 ∧ E 0 ≤ 9999) {w : Int} (hw : 0 ≤ w ∧ w ≤ 400000) (h : Q (ylack E w) m) : vm_C 192 [vm_r 96, vm_i w] m (vm_qi Q) := by
  refine ru11_lacksFor_0 ?_
  rw [hE.1]
  unfold ylack at h
  refine ⟨fun c => by rw [if_neg (by omega)] at h; exact h, fun c => ⟨by omega, by rw [if_pos (by omega)] at h; exact h⟩⟩
theorem sm_widthFor {Q : Int → vm_M → Prop} (hO : OC D E) (hM : MC D E m) {r : Nat} {f t g : Int} (hr : r < 12) (hf : 0 ≤ f) (hft : f < t) (ht : t ≤ dN D) (h1 : m 105 r = f) (h2 : m 105 ((r : Int) + 1) = t) (hg : 0 ≤ g ∧ g ≤ dC D) (h : Q (yw D E f t g) m) : vm_C 190 [vm_r 96, vm_i r, vm_i g] m (vm_qi Q) := by
  obtain ⟨hD, hOS, hE⟩ := hO
  have hN := hOS.2.2.1
  have hB := eBg_ok hD hOS hE hg.2
  have a3 := vmul_bd (a := E 4) (b := t - f - 1) (A := 99) (B := 29) hE.2.2.2.2.1 ⟨by omega, by omega⟩
  have a4 := yw_bd hD hOS hE hf hft ht hg.2
  have e4 : m 100 4 = E 4 := hM.2.2.2.2.2.2.1
  have e5 : m 100 5 = E 5 := hM.2.2.2.2.2.2.2.1
  have go : ∀ (n : Nat) (w : Int), f ≤ w → w + n = t → ku11_widthFor_33 r g (E 4 * (t - f - 1) + (vpi (vww D g) w - vpi (vww D g) f)) w m Q := by
    intro n
    induction n with
    | zero =>
      intro w hw hn
      have hw : w = t := by omega
      subst hw
      have e : (E 4 * (w - f - 1) + (vpi (vww D g) w - vpi (vww D g) f)) * E 5 = yw D E f w g := by
        rw [Int.add_comm, Int.mul_comm (E 4)]
        exact bR_w (B := eBg D E g)
      refine ru11_widthFor_33 ⟨by omega, fun _ => ?_, fun c => by rw [h2] at c; omega⟩
      rw [e5, e]
      exact ⟨by omega, h⟩
    | succ n ih =>
      intro w hw hn
      have b1 := vpi_bd hB (z := w) (by omega) (show w ≤ dN D by omega)
      have b2 := vpi_bd hB (z := f) (by omega) (show f ≤ dN D by omega)
      have b3 := vww_bd hD hOS (g := g) (w := w) ⟨by omega, by omega⟩ hg.2
      have b1 : 0 ≤ vpi (vww D g) w ∧ vpi (vww D g) w ≤ 1188 * w := b1
      have b2 : 0 ≤ vpi (vww D g) f ∧ vpi (vww D g) f ≤ 1188 * f := b2
      refine ru11_widthFor_33 ⟨by omega, fun c => by rw [h2] at c; omega, fun _ => sm_width hD hOS hM.1 hM.2.1 ⟨by omega, by omega⟩ hg.2 ⟨by omega, ?_⟩⟩
      have := ih (w + 1) (by omega) (by omega)
      rw [vpi_s (by omega)] at this
      rw [show E 4 * (t - f - 1) + (vpi (vww D g) w - vpi (vww D g) f) + vww D g w = E 4 * (t - f - 1) + (vpi (vww D g) w + vww D g w - vpi (vww D g) f) by omega]
      exact this
  refine ru11_widthFor_0 ?_
  rw [h1, h2, e4]
  refine ⟨by omega, ?_⟩
  have := go (t - f).toNat f (Int.le_refl _) (by omega)
  rw [Int.sub_self, Int.add_zero] at this
  exact this
theorem sm_filled {Q : Int → vm_M → Prop} (hO : OC D E) (hM : MC D E m) {r : Nat} {f t : Int} (hr : r < 12) (hf : 0 ≤ f) (hft : f < t) (ht : t ≤ dN D) (h1 : m 105 r = f) (h2 : m 105 ((r : Int) + 1) = t) (h : Q (yfg D E f t) m) : vm_C 191 [vm_r 96, vm_i r] m (vm_qi Q) := by
  have hC := hO.1.2.1
  have hG := hO.2.2.2.2.2.1
  have e3 : m 100 3 = E 3 := hM.2.2.2.2.2.1
  have e0 : m 100 0 = E 0 := hM.2.2.1
  have go : ∀ (n : Nat) (g : Int), E 3 ≤ g → g ≤ dC D → g ≤ E 3 + n → yfg0 D E f t n g = yfg D E f t → ku11_filledGap_5 r g m Q := by
    intro n
    induction n with
    | zero =>
      intro g g1 g2 g3 hk
      have hk : g = yfg D E f t := hk
      refine ru11_filledGap_5 ⟨fun _ => by rw [hk]; exact h, fun c => by rw [e3] at c; omega⟩
    | succ n ih =>
      intro g g1 g2 g3 hk
      refine ru11_filledGap_5 ⟨fun c => ?_, fun c => sm_widthFor hO hM hr hf hft ht h1 h2 ⟨by omega, g2⟩ ⟨fun c2 => ?_, fun c2 => ⟨by omega, ?_⟩⟩⟩
      · rw [e3] at c
        rw [yfg0_e _ (by omega)] at hk
        rw [hk]; exact h
      · rw [e0] at c2
        rw [yfg0_e _ (by omega)] at hk
        rw [hk]; exact h
      · rw [e3] at c
        rw [e0] at c2
        have hk : (if E 3 < g ∧ E 0 < yw D E f t g then yfg0 D E f t n (g - 1) else g) = yfg D E f t := hk
        rw [if_pos ⟨by omega, by omega⟩] at hk
        exact ih (g + (-1)) (by omega) (by omega) (by omega) hk
  refine ru11_filledGap_0 ?_
  rw [hM.1.1]
  exact go 30 (dC D) hG.2 (Int.le_refl _) (by omega) rfl
def vSmr (k : Nat) (i : Int) : Bool := (Nat.ble 108 k && Nat.ble k 110) || (Nat.beq k 96 && decide (17 ≤ i ∧ i ≤ 22))
theorem vSmr_t {i : Int} {k : Nat} (h : (108 ≤ k ∧ k ≤ 110) ∨ (k = 96 ∧ 17 ≤ i ∧ i ≤ 22)) : vSmr k i = true := by
  unfold vSmr
  rcases h with h | h
  · rw [Nat.ble_eq_true_of_le h.1, Nat.ble_eq_true_of_le h.2]; rfl
  · rw [h.1, decide_eq_true h.2]; simp
theorem vSmr_n {i : Int} {k : Nat} (h : ¬ (108 ≤ k ∧ k ≤ 110)) (h2 : ¬ (k = 96 ∧ 17 ≤ i ∧ i ≤ 22)) : vSmr k i = false := by
  refine Bool.eq_false_iff.mpr (fun q => ?_)
  unfold vSmr at q
  simp only [Bool.or_eq_true, Bool.and_eq_true, decide_eq_true_eq] at q
  rcases q with a | a
  · exact h ⟨Nat.le_of_ble_eq_true a.1, Nat.le_of_ble_eq_true a.2⟩
  · exact h2 ⟨vm_beq a.1, a.2⟩
theorem vSlw_mr {n : Int} {m m' : vm_M} (h : vfr (vSlw n) m m') : vfr vSmr m m' := h.sub (fun k i hk => by
  unfold vSlw at hk
  simp only [Bool.or_eq_true, Bool.and_eq_true, decide_eq_true_eq] at hk
  rcases hk with a | a
  · exact vSmr_t (Or.inl ⟨Nat.le_of_ble_eq_true a.1.1, Nat.le_of_ble_eq_true a.1.2⟩)
  · exact vSmr_t (Or.inr ⟨vm_beq a.1, by omega⟩))
theorem vSmr_m {m m' : vm_M} (h : vfr vSmr m m') : vfr vSm m m' := h.sub (fun k i hk => by
  unfold vSmr at hk
  simp only [Bool.or_eq_true, Bool.and_eq_true, decide_eq_true_eq] at hk
  unfold vSm
  rcases hk with a | a
  · have a1 := Nat.le_of_ble_eq_true a.1
    have a2 := Nat.le_of_ble_eq_true a.2
    rw [Nat.ble_eq_true_of_le (by omega : 104 ≤ k), Nat.ble_eq_true_of_le (by omega : k ≤ 110)]; rfl
  · rw [vm_beq a.1, decide_eq_true a.2.1, decide_eq_true a.2.2]; simp)
theorem MC.fmr {m' : vm_M} (h : vfr vSmr m m') (hM : MC D E m) : MC D E m' := hM.fm (vSmr_m h)
theorem sm_laysRow {Q : vm_M → Prop} (hO : OC D E) (hM : MC D E m) {r : Nat} {f t : Int} (hr : r < 12) (hf : 0 ≤ f) (hft : f < t) (ht : t ≤ dN D) (h1 : m 105 r = f) (h2 : m 105 ((r : Int) + 1) = t) (h : ∀ m', vfr vSmr m m' → vMr D E f t m' → Q m') : vm_C 193 [vm_r 96, vm_i r] m (vm_qv Q) := by
  obtain ⟨hD, hOS, hE⟩ := hO
  have hOC : OC D E := ⟨hD, hOS, hE⟩
  have hN := hOS.2.2.1
  have hG := yG_bd (f := f) (t := t) hD hE
  have hG0 := hE.2.2.2.1
  have hw0 := yw_bd hD hOS hE hf hft ht hG.2
  have hPP := yP_bd hE
  have hLb := yL_bd hD hOS hE hf hft ht
  have hWb := yW_bd hD hOS hE hf hft ht
  have hI := hE.1
  have e3 : m 100 3 = E 3 := hM.2.2.2.2.2.1
  have e4 : m 100 4 = E 4 := hM.2.2.2.2.2.2.1
  have e5 : m 100 5 = E 5 := hM.2.2.2.2.2.2.2.1
  have e7 : m 100 7 = E 7 := hM.2.2.2.2.2.2.2.2.2
  have ew0 : yw D E f t (yG D E f t) = yw0 D E f t := rfl
  rw [ew0] at hw0
  -- the letters, behind the numbers
  have hfin : ∀ m1, vfr vSmr m m1 → m1 96 17 = yG D E f t → m1 96 18 = yW D E f t → m1 96 19 = yS D E f t → m1 96 20 = yX D E f t → vm_C 192 [vm_r 96, vm_i (yW D E f t)] m1 (vm_qi (fun z2 m2 =>
            ((0 ≤ z2 ∧ (0 : Int) < 2)) ∧
            (vm_C 194 [vm_r 96, vm_i r] (vm_st m2 96 21 (z2 / 2)) (vm_qv (fun m3 =>
              Q m3))))) := by
    intro m1 f1 a17 a18 a19 a20
    have hM1 := hM.fmr f1
    refine sm_lacks hM1.2.2 hI ⟨by omega, by omega⟩ ⟨⟨?_, by omega⟩, ?_⟩
    · unfold ylack; split <;> omega
    · have f2 := f1.st (k := 96) (i := 21) (v := ylack E (yW D E f t) / 2) (vSmr_t (Or.inr ⟨rfl, by decide, by decide⟩))
      refine sm_laysLetters hOC (hM.fmr f2) hr hf hft ht (by rw [f2 _ _ (vSmr_n (by omega) (by omega)), h1]) (by rw [f2 _ _ (vSmr_n (by omega) (by omega)), h2]) (by rw [vst_i (by decide)]; exact a17) (by rw [vst_i (by decide)]; exact a19) (by rw [vst_i (by decide)]; exact a20) (by rw [vst_s]; rfl) (fun m3 f3 g22 v3 => h m3 (f2.tr (vSlw_mr f3)) ?_)
      have n3 : ∀ i : Int, i ≠ 22 → vSlw 0 96 i = false := fun i hi => vSlw_n (by omega) (by omega)
      refine ⟨by rw [f3 _ _ (n3 _ (by decide)), vst_i (by decide)]; exact a17, by rw [f3 _ _ (n3 _ (by decide)), vst_i (by decide)]; exact a18, by rw [f3 _ _ (n3 _ (by decide)), vst_i (by decide)]; exact a19, by rw [f3 _ _ (n3 _ (by decide)), vst_i (by decide)]; exact a20, by rw [f3 _ _ (n3 _ (by decide)), vst_s]; rfl, g22, v3⟩
  have hs : ∀ (i : Int), 17 ≤ i ∧ i ≤ 22 → vSmr 96 i = true := fun i hi => vSmr_t (Or.inr ⟨rfl, hi⟩)
  -- without filling
  have hplain : yL D E f t = 0 → ∀ m1, vfr vSmr m m1 → m1 96 17 = yG D E f t → vm_C 192 [vm_r 96, vm_i (yw0 D E f t)] (vm_st (vm_st (vm_st m1 96 18 (yw0 D E f t)) 96 19 (E 4 * E 5)) 96 20 0) (vm_qi (fun z2 m2 =>
            ((0 ≤ z2 ∧ (0 : Int) < 2)) ∧
            (vm_C 194 [vm_r 96, vm_i r] (vm_st m2 96 21 (z2 / 2)) (vm_qv (fun m3 =>
              Q m3))))) := by
    intro hz m1 f1 a17
    have eW : yW D E f t = yw0 D E f t := by unfold yW; rw [hz]; omega
    rw [← eW]
    refine hfin _ (((f1.st (hs 18 (by omega))).st (hs 19 (by omega))).st (hs 20 (by omega))) ?_ ?_ ?_ ?_
    · rw [vst_i (by decide), vst_i (by decide), vst_i (by decide)]; exact a17
    · rw [vst_i (by decide), vst_i (by decide), vst_s]
    · rw [vst_i (by decide), vst_s]; unfold yS; rw [hz, Int.zero_ediv, Int.add_zero]; split <;> rfl
    · rw [vst_s]; unfold yX; rw [hz, Int.zero_emod]; split <;> rfl
  refine ru11_laysRow_0 ⟨fun c => ?_, fun c => ?_⟩
  · rw [e7] at c
    have c0 : E 7 = 0 := by have := hE.2.2.2.2.2.2.2; omega
    have eG : yG D E f t = E 3 := by unfold yG; rw [if_pos c0]
    have hz : yL D E f t = 0 := by unfold yL; rw [if_neg (fun q => q.1 c0)]
    have f1 := (vfr.rf (S := vSmr) (m := m)).st (k := 96) (i := 17) (v := E 3) (hs 17 (by omega))
    refine ru11_laysRow_16 ?_
    rw [h1, h2, e3, vst_s]
    refine ⟨by omega, fun _ => ?_, fun q => absurd rfl q⟩
    refine sm_widthFor hOC (hM.fmr f1) hr hf hft ht (by rw [vst_k (by decide)]; exact h1) (by rw [vst_k (by decide)]; exact h2) ⟨by omega, by omega⟩ ?_
    rw [show yw D E f t (E 3) = yw0 D E f t by rw [← ew0, eG]]
    simp only [vst_s, vst_k, vst_i, ne_eq, Nat.reduceEqDiff, Int.reduceEq, not_false_eq_true, e4, e5]
    refine ⟨by omega, fun _ => hplain hz _ f1 (by rw [vst_s, eG]), fun q => absurd trivial q⟩
  · rw [e7] at c
    have c1 : ¬ E 7 = 0 := by have := Classical.not_not.mp c; omega
    have eG : yG D E f t = yfg D E f t := by unfold yG; rw [if_neg c1]
    refine ru11_laysRow_16 ?_
    rw [h1, h2]
    refine ⟨by omega, fun q => by omega, fun _ => sm_filled hOC hM hr hf hft ht h1 h2 ?_⟩
    have f1 := (vfr.rf (S := vSmr) (m := m)).st (k := 96) (i := 17) (v := yfg D E f t) (hs 17 (by omega))
    rw [vst_s]
    refine sm_widthFor hOC (hM.fmr f1) hr hf hft ht (by rw [vst_k (by decide)]; exact h1) (by rw [vst_k (by decide)]; exact h2) ⟨by omega, by omega⟩ ?_
    rw [show yw D E f t (yfg D E f t) = yw0 D E f t by rw [← ew0, eG]]
    simp only [vst_s, vst_k, vst_i, ne_eq, Nat.reduceEqDiff, Int.reduceEq, not_false_eq_true, e4, e5]
    refine ⟨by omega, fun q => q.elim, fun _ => ⟨fun c2 => ?_, fun c2 => ?_⟩⟩
    · have hz : yL D E f t = 0 := by unfold yL; rw [if_neg (fun q => by have := q.2; omega)]
      exact hplain hz _ f1 (by rw [vst_s, eG])
    · have eL : yL D E f t = ylack E (yw0 D E f t) := by unfold yL; rw [if_pos ⟨c1, by omega⟩]
      have hsp : 0 < t - f - 1 := by omega
      have d1 := Int.ediv_nonneg hLb.1 (Int.le_of_lt hsp)
      have d2 : yL D E f t / (t - f - 1) ≤ yL D E f t := Int.ediv_le_self _ hLb.1
      have f4 := ((f1.st (k := 96) (i := 18) (v := yw0 D E f t) (hs 18 (by omega))).st (k := 96) (i := 19) (v := E 4 * E 5) (hs 19 (by omega))).st (k := 96) (i := 20) (v := 0) (hs 20 (by omega))
      refine sm_lacks (hM.fmr f4).2.2 hI ⟨by omega, by omega⟩ ?_
      rw [← eL]
      simp only [vst_s, vst_k, vst_i, ne_eq, Nat.reduceEqDiff, Int.reduceEq, not_false_eq_true]
      have eW : yw0 D E f t + yL D E f t = yW D E f t := rfl
      rw [eW]
      refine ⟨⟨by omega, by omega, by omega, by omega⟩, ?_⟩
      refine hfin _ (((f4.st (hs 19 (by omega))).st (hs 20 (by omega))).st (hs 18 (by omega))) ?_ ?_ ?_ ?_
      · simp only [vst_s, vst_i, ne_eq, Int.reduceEq, not_false_eq_true, eG]
      · rw [vst_s]
      · simp only [vst_s, vst_i, ne_eq, Int.reduceEq, not_false_eq_true]; unfold yS; rw [if_pos hsp]
      · simp only [vst_s, vst_i, ne_eq, Int.reduceEq, not_false_eq_true]; unfold yX; rw [if_pos hsp]
end MY
