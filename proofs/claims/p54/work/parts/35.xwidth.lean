/-! ===== x's widths of all words, for all gaps ===== -/
theorem vs_add {f g : Int → Int} : ∀ n : Nat, vs (fun i => f i + g i) n = vs f n + vs g n
  | 0 => rfl
  | n + 1 => by unfold vs; rw [vs_add n]; omega
/-- what a letter adds itself, and with the one before it -/
def vwA (D : vD) (w k : Int) : Int := dW D (dP D (12 * w + k))
def vwB (D : vD) (g w k : Int) : Int := if k = 0 then 0 else vcd D (dP D (12 * w + (k - 1))) (dP D (12 * w + k)) g
theorem vws_AB (D : vD) (g w : Int) (n : Nat) : vws D g w n = vs (vwA D w) n + vs (vwB D g w) n := vs_add (f := vwA D w) (g := vwB D g w) n
def vS66 (w : Int) (k : Nat) (i : Int) : Bool := Nat.beq k 66 && decide (i % 30 = w)
theorem vS66_n {w : Int} {k : Nat} {i : Int} (h : k ≠ 66) : vS66 w k i = false := by
  unfold vS66
  have : Nat.beq k 66 = false := Bool.eq_false_iff.mpr (fun q => h (vm_beq q))
  rw [this]; rfl
section XWI
variable {D : vD} {m m' : vm_M}
theorem dAx.fr {S : Nat → Int → Bool} {th : Nat} (h : vfr S m m') (h1 : S th 2 = false) (h3 : ∀ i, S (th + 1) i = false) (h4 : ∀ i, S (th + 2) i = false) (hA : dAx D m th) : dAx D m' th := by
  unfold dAx at hA ⊢
  rw [h th 2 h1]
  exact ⟨hA.1, fun a x y => by rw [h _ _ (h3 _)]; exact hA.2.1 a x y, fun a ha i hi1 hi2 => by rw [h _ _ (h4 _)]; exact hA.2.2 a ha i hi1 hi2⟩
theorem dSx.fr {S : Nat → Int → Bool} {th : Nat} (h : vfr S m m') (h0 : S th 6 = false) (h2 : ∀ i, S (th + 2) i = false) (h3 : ∀ i, S (th + 3) i = false) (h4 : ∀ i, S (th + 4) i = false) (hS : dSx D m th) : dSx D m' th := by
  unfold dSx at hS ⊢
  rw [h th 6 h0]
  exact ⟨hS.1, fun k a b => by rw [h _ _ (h2 _)]; exact hS.2.1 k a b, fun k a b => by rw [h _ _ (h3 _)]; exact hS.2.2.1 k a b, fun w a b k c d => by rw [h _ _ (h4 _)]; exact hS.2.2.2 w a b k c d⟩
theorem vpd_mono (hD : dOA D) {a b g g' : Int} (ha : dk D a) (hb : dk D b) (h : g ≤ g') (hg : g' ≤ dC D) : vpd D a b g ≤ vpd D a b g' := by
  obtain ⟨-, -, -, p4⟩ := vpd_ok hD ha hb (g := g) (by omega)
  obtain ⟨q1, q2, q3, -⟩ := vpd_ok hD ha hb hg
  rcases Int.lt_or_le (vpd D a b g') (vpd D a b g) with h1 | h1
  · have := p4 _ q1 h1; omega
  · exact h1
theorem sx_addD7 {Q : vm_M → Prop} (hD : dOA D) (hO : dOS D) (hA : dAx D m 3) (hS : dSx D m 9) {w a b : Int} (hw : 0 ≤ w ∧ w < 30) (ha : dk D a) (hb : dk D b) {V : Int → Int} (hV : ∀ g, 0 ≤ g → g ≤ dC D → -10000 ≤ V g ∧ V g ≤ 10000) (hVm : ∀ g, 0 ≤ g → g ≤ dC D → m 66 (30 * g + w) = V g) (h : ∀ m', vfr (vS66 w) m m' → (∀ g, 0 ≤ g → g ≤ dC D → m' 66 (30 * g + w) = V g + vcd D a b g) → Q m') : ∀ (n : Nat) (g d : Int) (m1 : vm_M), 0 ≤ g → g + n = dC D + 1 → -9 ≤ d → (g ≤ dC D → d ≤ vpd D a b g) → vfr (vS66 w) m m1 → (∀ x, 0 ≤ x → x < g → m1 66 (30 * x + w) = V x + vcd D a b x) → (∀ x, g ≤ x → x ≤ dC D → m1 66 (30 * x + w) = V x) → ku9_addDistances_7 w a b d g m1 Q := by
  have hC := hD.2.1
  intro n
  induction n with
  | zero =>
    intro g d m1 h0 hg hd hdp hf hlo hhi
    have hA1 := hA.fr hf (vS66_n (by decide)) (fun _ => vS66_n (by decide)) (fun _ => vS66_n (by decide))
    exact ru9_addDistances_7 ⟨fun _ => h m1 hf (fun x x1 x2 => hlo x x1 (by omega)), fun c => absurd (show m1 3 2 < g by rw [hA1.1]; omega) c⟩
  | succ n ih =>
    intro g d m1 h0 hg hd hdp hf hlo hhi
    have hA1 := hA.fr hf (vS66_n (by decide)) (fun _ => vS66_n (by decide)) (fun _ => vS66_n (by decide))
    have hS1 := hS.fr hf (vS66_n (by decide)) (fun _ => vS66_n (by decide)) (fun _ => vS66_n (by decide)) (fun _ => vS66_n (by decide))
    have hp := vpd_ok hD ha hb (g := g) (by omega)
    have hc := vcd_bd hD hO ha hb (g := g) (by omega)
    have hv := hV g h0 (by omega)
    refine ru9_addDistances_7 ⟨fun c => by rw [hA1.1] at c; omega, fun _ => sx_free rfl hD hA1 ha hb (by omega) ⟨hd, hdp (by omega)⟩ ⟨by omega, sx_corrected rfl hO hS1 ⟨ha.1, ha.2.1⟩ ⟨hb.1, hb.2.1⟩ (by omega) ?_⟩⟩
    rw [show g * 30 + w = 30 * g + w by omega, hhi g (by omega) (by omega)]
    have e : vcd1 (vpd D a b g) (dK D (26 * a + b)) = vcd D a b g := rfl
    rw [e]
    refine ⟨by omega, ih (g + 1) (vpd D a b g) _ (by omega) (by omega) hp.1 (fun q => vpd_mono hD ha hb (by omega) q) (hf.st (by unfold vS66; simp; omega)) (fun x x1 x2 => ?_) (fun x x1 x2 => ?_)⟩
    · by_cases hq : x = g
      · rw [hq, vst_s]
      · rw [vst_i (by omega)]; exact hlo x x1 (by omega)
    · rw [vst_i (by omega)]; exact hhi x (by omega) x2
theorem sx_addD {Q : vm_M → Prop} (hD : dOA D) (hO : dOS D) (hA : dAx D m 3) (hS : dSx D m 9) {w a b : Int} (hw : 0 ≤ w ∧ w < 30) (ha : dk D a) (hb : dk D b) {V : Int → Int} (hV : ∀ g, 0 ≤ g → g ≤ dC D → -10000 ≤ V g ∧ V g ≤ 10000) (hVm : ∀ g, 0 ≤ g → g ≤ dC D → m 66 (30 * g + w) = V g) (h : ∀ m', vfr (vS66 w) m m' → (∀ g, 0 ≤ g → g ≤ dC D → m' 66 (30 * g + w) = V g + vcd D a b g) → Q m') : vm_C 99 [vm_r 65, vm_i w, vm_i a, vm_i b] m (vm_qv Q) :=
  ru9_addDistances_0 (sx_addD7 hD hO hA hS hw ha hb hV hVm h (dC D + 1).toNat 0 (-9) m (by omega) (by have := hD.1; omega) (by omega) (fun q => (vpd_ok hD ha hb (by have := hD.1; omega)).1) vfr.rf (fun x x1 x2 => by omega) (fun x x1 x2 => hVm x x1 x2))
theorem sx_addW50 {Q : vm_M → Prop} (hD : dOA D) (hA : dAx D m 3) {w z : Int} (hw : 0 ≤ w ∧ w < 30) (h : ∀ m', vfr (vS66 w) m m' → (∀ g, 0 ≤ g → g ≤ dC D → m' 66 (30 * g + w) = z) → Q m') : ∀ (n : Nat) (g : Int) (m1 : vm_M), 0 ≤ g → g + n = dC D + 1 → vfr (vS66 w) m m1 → (∀ x, 0 ≤ x → x < g → m1 66 (30 * x + w) = z) → ku9_addWides_50 w z g m1 Q := by
  have hC := hD.2.1
  intro n
  induction n with
  | zero =>
    intro g m1 h0 hg hf hlo
    have hA1 := hA.fr hf (vS66_n (by decide)) (fun _ => vS66_n (by decide)) (fun _ => vS66_n (by decide))
    exact ru9_addWides_50 ⟨fun _ => h m1 hf (fun x x1 x2 => hlo x x1 (by omega)), fun c => absurd (show m1 3 2 < g by rw [hA1.1]; omega) c⟩
  | succ n ih =>
    intro g m1 h0 hg hf hlo
    have hA1 := hA.fr hf (vS66_n (by decide)) (fun _ => vS66_n (by decide)) (fun _ => vS66_n (by decide))
    refine ru9_addWides_50 ⟨fun c => by rw [hA1.1] at c; omega, fun _ => ⟨by omega, ?_⟩⟩
    rw [show g * 30 + w = 30 * g + w by omega]
    refine ih (g + 1) _ (by omega) (by omega) (hf.st (by unfold vS66; simp; omega)) (fun x x1 x2 => ?_)
    by_cases hq : x = g
    · rw [hq, vst_s]
    · rw [vst_i (by omega)]; exact hlo x x1 (by omega)
theorem sx_addW4 {Q : vm_M → Prop} (hD : dOA D) (hO : dOS D) (hA : dAx D m 3) (hS : dSx D m 9) {w : Int} (hw : 0 ≤ w ∧ w < dN D) (h : ∀ m', vfr (vS66 w) m m' → (∀ g, 0 ≤ g → g ≤ dC D → m' 66 (30 * g + w) = vs (vwA D w) (dL D w).toNat) → Q m') : ∀ (n k : Nat), (k : Int) + n = dL D w → ku9_addWides_4 w (vs (vwA D w) k) k m Q := by
  have hN := hO.2.2.1
  have hl := hO.2.2.2.1 w hw.1 hw.2
  intro n
  induction n with
  | zero =>
    intro k hk
    have e : (dL D w).toNat = k := by omega
    rw [e] at h
    refine ru9_addWides_4 ⟨by omega, fun _ => ?_, fun c => absurd (show m 12 w ≤ (k : Int) by rw [hS.2.2.1 w hw.1 hw.2]; omega) c⟩
    exact sx_addW50 hD hA ⟨hw.1, by omega⟩ h (dC D + 1).toNat 0 m (by omega) (by have := hD.1; omega) vfr.rf (fun x x1 x2 => by omega)
  | succ n ih =>
    intro k hk
    have hk2 : 0 ≤ (k : Int) ∧ (k : Int) < dL D w := ⟨by omega, by omega⟩
    have h1 := hO.2.2.2.2 w hw.1 hw.2 k hk2.1 hk2.2
    have h2 := hD.2.2.1 _ h1.1 h1.2.1
    have h3 := vs_bd (f := vwA D w) (lo := 0) (hi := 60) k (fun i i1 i2 => by
      have h4 := hO.2.2.2.2 w hw.1 hw.2 i i1 (by omega)
      exact hD.2.2.1 _ h4.1 h4.2.1)
    have h5 := ih (k + 1) (by omega)
    have h6 : vs (vwA D w) (k + 1) = vs (vwA D w) k + dW D (dP D (12 * w + k)) := rfl
    have h7 : ((k + 1 : Nat) : Int) = (k : Int) + 1 := by omega
    rw [h6, h7] at h5
    refine ru9_addWides_4 ⟨by omega, fun c => by rw [hS.2.2.1 w hw.1 hw.2] at c; omega, fun _ => ?_⟩
    rw [show w * 12 + (k : Int) = 12 * w + k by omega, hS.2.2.2 w hw.1 hw.2 k hk2.1 hk2.2, hA.2.1 _ h1.1 h1.2.1]
    exact ⟨⟨by omega, by omega, by omega, ⟨h1.1, h1.2.1⟩, by omega, by omega⟩, h5⟩
theorem sx_addW {Q : vm_M → Prop} (hD : dOA D) (hO : dOS D) (hA : dAx D m 3) (hS : dSx D m 9) {w : Int} (hw : 0 ≤ w ∧ w < dN D) (h : ∀ m', vfr (vS66 w) m m' → (∀ g, 0 ≤ g → g ≤ dC D → m' 66 (30 * g + w) = vs (vwA D w) (dL D w).toNat) → Q m') : vm_C 98 [vm_r 65, vm_i w] m (vm_qv Q) :=
  ru9_addWides_0 (sx_addW4 hD hO hA hS hw h (dL D w).toNat 0 (by have := hO.2.2.2.1 w hw.1 hw.2; omega))
end XWI
