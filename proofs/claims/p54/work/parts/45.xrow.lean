/-! ===== rows on x's board ===== -/
def vWd (D : vD) (m : vm_M) : Prop := ∀ w, 0 ≤ w → w < dN D → ∀ g, 0 ≤ g → g ≤ dC D → m 66 (30 * g + w) = vww D g w
def vRr (D : vD) (E : Int → Int) (f t r : Int) (m : vm_M) : Prop := m 78 r = yG D E f t ∧ m 79 r = yW D E f t ∧ m 80 r = y0 D E f t ∧ m 81 r = yS D E f t ∧ m 82 r = yX D E f t
def vRw (D : vD) (E : Int → Int) (g p w : Int) (m : vm_M) : Prop := (∀ k, 0 ≤ k → k < dL D w → m 83 (12 * w + k) = p + yq D E g w k) ∧ ∀ k, 0 ≤ k → k + 1 < dL D w → m 84 (12 * w + k) = yd D g w k
def vRp (D : vD) (E : Int → Int) (f t : Int) (m : vm_M) : Prop := ∀ w, f ≤ w → w < t → vRw D E (yG D E f t) (yp D E f t w) w m
def vSy (k : Nat) (_ : Int) : Bool := Nat.ble 78 k && Nat.ble k 84
theorem vSy_n {k : Nat} {i : Int} (h : k < 78 ∨ 84 < k) : vSy k i = false := by
  refine Bool.eq_false_iff.mpr (fun q => ?_)
  unfold vSy at q
  simp only [Bool.and_eq_true] at q
  have a := Nat.le_of_ble_eq_true q.1
  have b := Nat.le_of_ble_eq_true q.2
  omega
/-- the cells of row r -/
def vSyr (r : Int) (k : Nat) (i : Int) : Bool := Nat.ble 78 k && Nat.ble k 82 && decide (i = r)
theorem vSyr_t {r : Int} {k : Nat} (h : 78 ≤ k ∧ k ≤ 82) : vSyr r k r = true := by
  unfold vSyr
  rw [Nat.ble_eq_true_of_le h.1, Nat.ble_eq_true_of_le h.2, decide_eq_true rfl]; rfl
theorem vSyr_y {r : Int} {m m' : vm_M} (h : vfr (vSyr r) m m') : vfr vSy m m' := h.sub (fun k i hk => by
  unfold vSyr at hk
  simp only [Bool.and_eq_true] at hk
  have a := Nat.le_of_ble_eq_true hk.1.1
  have b := Nat.le_of_ble_eq_true hk.1.2
  unfold vSy
  rw [Nat.ble_eq_true_of_le a, Nat.ble_eq_true_of_le (by omega)]; rfl)
theorem vSyr_n {r : Int} {k : Nat} {i : Int} (h : k < 78 ∨ 82 < k ∨ i ≠ r) : vSyr r k i = false := by
  refine Bool.eq_false_iff.mpr (fun q => ?_)
  unfold vSyr at q
  simp only [Bool.and_eq_true, decide_eq_true_eq] at q
  have a := Nat.le_of_ble_eq_true q.1.1
  have b := Nat.le_of_ble_eq_true q.1.2
  omega
/-- the cells of word w -/
def vSyw (w : Int) (k : Nat) (i : Int) : Bool := Nat.ble 83 k && Nat.ble k 84 && decide (12 * w ≤ i ∧ i < 12 * w + 12)
theorem vSyw_t {w i : Int} {k : Nat} (h : 83 ≤ k ∧ k ≤ 84) (hi : 12 * w ≤ i ∧ i < 12 * w + 12) : vSyw w k i = true := by
  unfold vSyw
  rw [Nat.ble_eq_true_of_le h.1, Nat.ble_eq_true_of_le h.2, decide_eq_true hi]; rfl
theorem vSyw_y {w : Int} {m m' : vm_M} (h : vfr (vSyw w) m m') : vfr vSy m m' := h.sub (fun k i hk => by
  unfold vSyw at hk
  simp only [Bool.and_eq_true] at hk
  have a := Nat.le_of_ble_eq_true hk.1.1
  have b := Nat.le_of_ble_eq_true hk.1.2
  unfold vSy
  rw [Nat.ble_eq_true_of_le (by omega), Nat.ble_eq_true_of_le b]; rfl)
theorem vSyw_n {w : Int} {k : Nat} {i : Int} (h : k < 83 ∨ 84 < k ∨ ¬ (12 * w ≤ i ∧ i < 12 * w + 12)) : vSyw w k i = false := by
  refine Bool.eq_false_iff.mpr (fun q => ?_)
  unfold vSyw at q
  simp only [Bool.and_eq_true, decide_eq_true_eq] at q
  have a := Nat.le_of_ble_eq_true q.1.1
  have b := Nat.le_of_ble_eq_true q.1.2
  omega
section XY
variable {D : vD} {E : Int → Int} {m : vm_M}
theorem sx_of {Q : Int → vm_M → Prop} (hD : dOA D) (hO : dOS D) (hW : vWd D m) {w g : Int} (hw : 0 ≤ w ∧ w < dN D) (hg : 0 ≤ g ∧ g ≤ dC D) (h : Q (vww D g w) m) : vm_C 96 [vm_r 65, vm_i w, vm_i g] m (vm_qi Q) := by
  have h1 := hD.2.1
  have h2 := hO.2.2.1
  refine ru9_of_0 ⟨by omega, ?_⟩
  rw [show g * 30 + w = 30 * g + w by omega, hW w hw.1 hw.2 g hg.1 hg.2]; exact h
theorem sx_widthWith {Q : Int → vm_M → Prop} (hD : dOA D) (hO : dOS D) (hE : dOE D E) (hX : dEx E m 9) (hW : vWd D m) {r : Nat} {f t g : Int} (hr : r < 12) (hf : 0 ≤ f) (hft : f < t) (ht : t ≤ dN D) (h1 : m 70 r = f) (h2 : m 70 ((r : Int) + 1) = t) (hg : 0 ≤ g ∧ g ≤ dC D) (h : Q (yw D E f t g) m) : vm_C 50 [vm_r 77, vm_i r, vm_i g] m (vm_qi Q) := by
  have hN := hO.2.2.1
  have hB := eBg_ok hD hO hE hg.2
  have a3 := vmul_bd (a := t - f - 1) (b := E 4) (A := 29) (B := 99) ⟨by omega, by omega⟩ hE.2.2.2.2.1
  have a4 := yw_bd hD hO hE hf hft ht hg.2
  have go : ∀ (n : Nat) (w : Int), f ≤ w → w + n = t → ku3_widthWith_32 r g ((t - f - 1) * E 4 + (vpi (vww D g) w - vpi (vww D g) f)) w m Q := by
    intro n
    induction n with
    | zero =>
      intro w hw hn
      have hw : w = t := by omega
      subst hw
      have e : ((w - f - 1) * E 4 + (vpi (vww D g) w - vpi (vww D g) f)) * E 5 = yw D E f w g := by
        rw [Int.add_comm]
        exact bR_w (B := eBg D E g)
      refine ru3_widthWith_32 ⟨by omega, fun _ => ?_, fun c => by rw [h2] at c; omega⟩
      rw [hX.2.2.2.2.2.1, e]
      exact ⟨by omega, h⟩
    | succ n ih =>
      intro w hw hn
      have b1 := vpi_bd hB (z := w) (by omega) (show w ≤ dN D by omega)
      have b2 := vpi_bd hB (z := f) (by omega) (show f ≤ dN D by omega)
      have b3 := vww_bd hD hO (g := g) (w := w) ⟨by omega, by omega⟩ hg.2
      have b1 : 0 ≤ vpi (vww D g) w ∧ vpi (vww D g) w ≤ 1188 * w := b1
      have b2 : 0 ≤ vpi (vww D g) f ∧ vpi (vww D g) f ≤ 1188 * f := b2
      refine ru3_widthWith_32 ⟨by omega, fun c => by rw [h2] at c; omega, fun _ => sx_of hD hO hW ⟨by omega, by omega⟩ hg ⟨by omega, ?_⟩⟩
      have := ih (w + 1) (by omega) (by omega)
      rw [vpi_s (by omega)] at this
      rw [show (t - f - 1) * E 4 + (vpi (vww D g) w - vpi (vww D g) f) + vww D g w = (t - f - 1) * E 4 + (vpi (vww D g) w + vww D g w - vpi (vww D g) f) by omega]
      exact this
  refine ru3_widthWith_0 (ru1_wordsIn_0 rfl ?_)
  rw [h1, h2, hX.2.2.2.2.1]
  refine ⟨by omega, by omega, ?_⟩
  have := go (t - f).toNat f (Int.le_refl _) (by omega)
  rw [Int.sub_self, Int.add_zero] at this
  exact this
theorem yfg0_e {f t : Int} : ∀ (n : Nat) {g : Int}, ¬ (E 3 < g ∧ E 0 < yw D E f t g) → yfg0 D E f t n g = g
  | 0, g, _ => rfl
  | n + 1, g, h => by unfold yfg0; rw [if_neg h]
theorem sx_greatest {Q : Int → vm_M → Prop} (hD : dOA D) (hO : dOS D) (hE : dOE D E) (hA : dAx D m 3) (hX : dEx E m 9) (hW : vWd D m) {r : Nat} {f t : Int} (hr : r < 12) (hf : 0 ≤ f) (hft : f < t) (ht : t ≤ dN D) (h1 : m 70 r = f) (h2 : m 70 ((r : Int) + 1) = t) (h : Q (yfg D E f t) m) : vm_C 40 [vm_r 77, vm_i r] m (vm_qi Q) := by
  have hC := hD.2.1
  have hG := hE.2.2.2.1
  have go : ∀ (n : Nat) (g : Int), E 3 ≤ g → g ≤ dC D → g ≤ E 3 + n → yfg0 D E f t n g = yfg D E f t → ku3_greatestGap_8 r g m Q := by
    intro n
    induction n with
    | zero =>
      intro g g1 g2 g3 hk
      have hk : g = yfg D E f t := hk
      refine ru3_greatestGap_8 ⟨fun _ => by rw [hk]; exact h, fun c => by rw [hX.2.2.2.1] at c; omega⟩
    | succ n ih =>
      intro g g1 g2 g3 hk
      refine ru3_greatestGap_8 ⟨fun c => ?_, fun c => sx_widthWith hD hO hE hX hW hr hf hft ht h1 h2 ⟨by omega, g2⟩ ⟨fun c2 => ?_, fun c2 => ⟨by omega, ?_⟩⟩⟩
      · rw [hX.2.2.2.1] at c
        rw [yfg0_e _ (by omega)] at hk
        rw [hk]; exact h
      · rw [hX.1] at c2
        rw [yfg0_e _ (by omega)] at hk
        rw [hk]; exact h
      · rw [hX.2.2.2.1] at c
        rw [hX.1] at c2
        have hk : (if E 3 < g ∧ E 0 < yw D E f t g then yfg0 D E f t n (g - 1) else g) = yfg D E f t := hk
        rw [if_pos ⟨by omega, by omega⟩] at hk
        exact ih (g + (-1)) (by omega) (by omega) (by omega) hk
  refine ru3_greatestGap_0 ?_
  rw [hA.1]
  exact go 30 (dC D) hG.2 (Int.le_refl _) (by omega) rfl
theorem sx_measure {Q : vm_M → Prop} (hD : dOA D) (hO : dOS D) (hE : dOE D E) (hA : dAx D m 3) (hX : dEx E m 9) (hW : vWd D m) {r : Nat} {f t : Int} (hr : r < 12) (hf : 0 ≤ f) (hft : f < t) (ht : t ≤ dN D) (h1 : m 70 r = f) (h2 : m 70 ((r : Int) + 1) = t) (h : ∀ m', vfr (vSyr r) m m' → vRr D E f t r m' → Q m') : vm_C 51 [vm_r 77, vm_i r] m (vm_qv Q) := by
  have hN := hO.2.2.1
  have hG := yG_bd (f := f) (t := t) hD hE
  have hGE := hE.2.2.2.1
  have hw0 := yw_bd hD hO hE hf hft ht hG.2
  have hI := hE.1
  have hPP := yP_bd hE
  have hLb := yL_bd hD hO hE hf hft ht
  have x0 := hX.1
  have x3 := hX.2.2.2.1
  have x4 := hX.2.2.2.2.1
  have x5 := hX.2.2.2.2.2.1
  have x7 := hX.2.2.2.2.2.2.2
  have hrow : ∀ (m2 : vm_M), vfr (vSyr r) m m2 → m2 70 r = f ∧ m2 70 ((r : Int) + 1) = t ∧ dEx E m2 9 ∧ vWd D m2 ∧ m2 9 5 = E 7 ∧ m2 10 0 = E 0 ∧ m2 10 4 = E 4 ∧ m2 10 5 = E 5 := by
    intro m2 f2
    have hX2 := hX.fr f2 (fun _ => vSyr_n (by omega)) (vSyr_n (by omega)) (vSyr_n (by omega))
    refine ⟨by rw [f2 _ _ (vSyr_n (by omega)), h1], by rw [f2 _ _ (vSyr_n (by omega)), h2], hX2, fun w a b g c d => by rw [f2 _ _ (vSyr_n (by omega))]; exact hW w a b g c d, hX2.2.2.2.2.2.2.2, hX2.1, hX2.2.2.2.2.1, hX2.2.2.2.2.2.1⟩
  have t78 : vSyr r 78 r = true := vSyr_t (by omega)
  have t79 : vSyr r 79 r = true := vSyr_t (by omega)
  have t80 : vSyr r 80 r = true := vSyr_t (by omega)
  have t81 : vSyr r 81 r = true := vSyr_t (by omega)
  have t82 : vSyr r 82 r = true := vSyr_t (by omega)
  have hmax : (if 0 < E 0 - yw0 D E f t then E 0 - yw0 D E f t else 0) = ylack E (yw0 D E f t) := by
    unfold ylack
    repeat' split
    all_goals omega
  have hplain : yL D E f t = 0 → ∀ m2, vfr (vSyr r) m m2 → m2 78 r = yG D E f t → Q (vm_st (vm_st (vm_st (vm_st m2 79 r (yw0 D E f t)) 81 r (E 4 * E 5)) 82 r 0) 80 r ((if 0 < E 0 - yw0 D E f t then E 0 - yw0 D E f t else 0) / 2)) := by
    intro hz m2 f2 g2
    refine h _ ((((f2.st t79).st t81).st t82).st t80) ⟨?_, ?_, ?_, ?_, ?_⟩
    · simp only [vst_s, vst_k, ne_eq, Nat.reduceEqDiff, not_false_eq_true]; exact g2
    · simp only [vst_s, vst_k, ne_eq, Nat.reduceEqDiff, not_false_eq_true]; unfold yW; rw [hz]; omega
    · simp only [vst_s, vst_k, ne_eq, Nat.reduceEqDiff, not_false_eq_true]; rw [hmax]; unfold y0 yW; rw [hz, Int.add_zero]
    · simp only [vst_s, vst_k, ne_eq, Nat.reduceEqDiff, not_false_eq_true]; unfold yS; rw [hz, Int.zero_ediv, Int.add_zero]; split <;> rfl
    · simp only [vst_s, vst_k, ne_eq, Nat.reduceEqDiff, not_false_eq_true]; unfold yX; rw [hz, Int.zero_emod]; split <;> rfl
  refine ru3_measure_0 (ru1_wordsIn_0 rfl ?_)
  rw [h1, h2, x7, x3, x0]
  refine ⟨by omega, by omega, fun c => ?_, fun c => ?_⟩
  · have eG : yG D E f t = E 3 := by unfold yG; rw [if_pos c]
    have f1 := (vfr.rf (S := vSyr r) (m := m)).st (k := 78) (i := r) (v := E 3) t78
    obtain ⟨b1, b2, b3, b4, b5, b6, b7, b8⟩ := hrow _ f1
    rw [vst_s]
    refine ⟨by omega, sx_widthWith hD hO hE b3 b4 hr hf hft ht b1 b2 ⟨by omega, by omega⟩ ?_⟩
    have ew : yw D E f t (E 3) = yw0 D E f t := by unfold yw0; rw [eG]
    have ew' : 1 ≤ yw0 D E f t ∧ yw0 D E f t ≤ 347490 := by unfold yw0; exact hw0
    rw [ew]
    simp only [vst_s, vst_k, ne_eq, Nat.reduceEqDiff, not_false_eq_true, x4, x5, x7]
    refine ⟨by omega, fun _ => ⟨by refine ⟨by omega, by omega, ⟨?_, by omega⟩, by omega⟩; split <;> omega, hplain ?_ _ f1 (by rw [vst_s, eG])⟩, fun q => absurd c q⟩
    unfold yL
    rw [if_neg (fun q => q.1 c)]
  · have eG : yG D E f t = yfg D E f t := by unfold yG; rw [if_neg c]
    refine sx_greatest hD hO hE hA hX hW hr hf hft ht h1 h2 ⟨by omega, ?_⟩
    have f1 := (vfr.rf (S := vSyr r) (m := m)).st (k := 78) (i := r) (v := yfg D E f t) t78
    obtain ⟨b1, b2, b3, b4, b5, b6, b7, b8⟩ := hrow _ f1
    rw [vst_s]
    refine sx_widthWith hD hO hE b3 b4 hr hf hft ht b1 b2 ⟨by omega, by omega⟩ ?_
    have ew : yw D E f t (yfg D E f t) = yw0 D E f t := by unfold yw0; rw [eG]
    have ew' : 1 ≤ yw0 D E f t ∧ yw0 D E f t ≤ 347490 := by unfold yw0; exact hw0
    rw [ew]
    simp only [vst_s, vst_k, ne_eq, Nat.reduceEqDiff, not_false_eq_true, x4, x5, x7]
    refine ⟨by omega, fun q => absurd q c, fun _ => ⟨fun c2 => ⟨by refine ⟨by omega, by omega, ⟨?_, by omega⟩, by omega⟩; split <;> omega, hplain ?_ _ f1 (by rw [vst_s, eG])⟩, fun c2 => ⟨by omega, fun c3 => ⟨by refine ⟨by omega, by omega, ⟨?_, by omega⟩, by omega⟩; split <;> omega, hplain ?_ _ f1 (by rw [vst_s, eG])⟩, fun c3 => ?_⟩⟩⟩
    · unfold yL
      rw [if_neg (fun q => by have := q.2; omega)]
    · unfold yL
      rw [if_pos ⟨c, by omega⟩]
      unfold ylack
      rw [if_neg (by omega)]
    · have eL : yL D E f t = E 0 - yw0 D E f t := by
        unfold yL
        rw [if_pos ⟨c, by omega⟩]
        unfold ylack
        rw [if_pos (by omega)]
      have hs : 0 < t - f - 1 := by omega
      have d1 := Int.ediv_nonneg hLb.1 (Int.le_of_lt hs)
      have d2 : yL D E f t / (t - f - 1) ≤ yL D E f t := Int.ediv_le_self _ hLb.1
      rw [eL] at d1 d2
      refine ⟨by refine ⟨by omega, by omega, by omega, by omega, by omega, by omega, by omega, by omega, by omega, by omega, by omega, ⟨?_, by omega⟩, by omega⟩; split <;> omega, h _ (((((((f1.st t79).st t81).st t82).st t81).st t82).st t79).st t80) ⟨?_, ?_, ?_, ?_, ?_⟩⟩
      · simp only [vst_s, vst_k, ne_eq, Nat.reduceEqDiff, not_false_eq_true, eG]
      · simp only [vst_s, vst_k, ne_eq, Nat.reduceEqDiff, not_false_eq_true]; unfold yW; rw [eL]; omega
      · simp only [vst_s, vst_k, ne_eq, Nat.reduceEqDiff, not_false_eq_true]
        unfold y0 yW ylack
        rw [eL, if_neg (by omega), if_neg (by omega)]
      · simp only [vst_s, vst_k, ne_eq, Nat.reduceEqDiff, not_false_eq_true]; unfold yS; rw [eL, if_pos hs]
      · simp only [vst_s, vst_k, ne_eq, Nat.reduceEqDiff, not_false_eq_true]; unfold yX; rw [eL, if_pos hs]
end XY
