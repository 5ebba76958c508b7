/-! ===== x's widths, all words ===== -/
def vS6 (k : Nat) (_ : Int) : Bool := Nat.beq k 66
theorem vS66_6 {w : Int} {m m' : vm_M} (h : vfr (vS66 w) m m') : vfr vS6 m m' := h.sub (fun k i hk => by
  unfold vS66 at hk
  simp only [Bool.and_eq_true] at hk
  exact hk.1)
theorem vS6_n {k : Nat} {i : Int} (h : k ≠ 66) : vS6 k i = false := Bool.eq_false_iff.mpr (fun q => h (vm_beq q))
section XR
variable {D : vD} {m : vm_M}
theorem sx_ren73 {w : Int} (hD : dOA D) (hA : dAx D m 3) (hw : 0 ≤ w ∧ w < 30) {V : Int → Int} (hVm : ∀ g, 0 ≤ g → g ≤ dC D → m 66 (30 * g + w) = V g) {R : vm_M → Prop} : ∀ (n : Nat) (g : Int) (m1 : vm_M) (w3' : Option vm_V), 0 ≤ g → g + n = dC D + 1 → vfr (vS66 w) m m1 → (∀ x, 0 ≤ x → x < g → m1 66 (30 * x + w) = vone (V x)) → (∀ x, g ≤ x → x ≤ dC D → m1 66 (30 * x + w) = V x) → (∀ m' w2 w4, vfr (vS66 w) m m' → (∀ g, 0 ≤ g → g ≤ dC D → m' 66 (30 * g + w) = vone (V g)) → ku9_renew_2 (w + 1) w2 w4 m' R) → ku9_renew_73 w g w3' m1 R := by
  have hC := hD.2.1
  intro n
  induction n with
  | zero =>
    intro g m1 w3' h0 hg hf hlo hhi hk
    have hA1 := hA.fr hf (vS66_n (by decide)) (fun _ => vS66_n (by decide)) (fun _ => vS66_n (by decide))
    exact ru9_renew_73 ⟨fun _ => ⟨by omega, hk _ _ _ hf (fun x x1 x2 => hlo x x1 (by omega))⟩, fun c => absurd (show m1 3 2 < g by rw [hA1.1]; omega) c⟩
  | succ n ih =>
    intro g m1 w3' h0 hg hf hlo hhi hk
    have hA1 := hA.fr hf (vS66_n (by decide)) (fun _ => vS66_n (by decide)) (fun _ => vS66_n (by decide))
    refine ru9_renew_73 ⟨fun c => by rw [hA1.1] at c; omega, fun _ => ⟨by omega, ?_⟩⟩
    rw [show g * 30 + w = 30 * g + w by omega, hhi g (by omega) (by omega)]
    refine ih (g + 1) _ _ (by omega) (by omega) (hf.st (by unfold vS66; simp; omega)) (fun x x1 x2 => ?_) (fun x x1 x2 => ?_) hk
    · by_cases hq : x = g
      · rw [hq, vst_s]
        unfold vone
        repeat' split
        all_goals omega
      · rw [vst_i (by omega)]; exact hlo x x1 (by omega)
    · rw [vst_i (by omega)]; exact hhi x (by omega) x2
theorem vwB_bd (hD : dOA D) (hO : dOS D) {g w k : Int} (hw : 0 ≤ w ∧ w < dN D) (hk : 0 ≤ k ∧ k < dL D w) (hg : g ≤ dC D) : -9 ≤ vwB D g w k ∧ vwB D g w k ≤ 39 := by
  unfold vwB
  by_cases h0 : k = 0
  · rw [if_pos h0]; omega
  · rw [if_neg h0]
    exact vcd_bd hD hO (hO.2.2.2.2 w hw.1 hw.2 (k - 1) (by omega) (by omega)) (hO.2.2.2.2 w hw.1 hw.2 k hk.1 hk.2) hg
theorem sx_ren20 {w : Int} (hD : dOA D) (hO : dOS D) (hA : dAx D m 3) (hS : dSx D m 9) (hw : 0 ≤ w ∧ w < dN D) {R : vm_M → Prop} (hk : ∀ m' w2 w4, vfr (vS66 w) m m' → (∀ g, 0 ≤ g → g ≤ dC D → m' 66 (30 * g + w) = vww D g w) → ku9_renew_2 (w + 1) w2 w4 m' R) : ∀ (n k : Nat) (m1 : vm_M) (w3 : Option vm_V), 1 ≤ k → (k : Int) + n = dL D w → vfr (vS66 w) m m1 → (∀ g, 0 ≤ g → g ≤ dC D → m1 66 (30 * g + w) = vs (vwA D w) (dL D w).toNat + vs (vwB D g w) k) → ku9_renew_20 w k w3 m1 R := by
  have hC := hD.2.1
  have hN := hO.2.2.1
  have hl := hO.2.2.2.1 w hw.1 hw.2
  intro n
  induction n with
  | zero =>
    intro k m1 w3 h1 hkn hf hv
    have hA1 := hA.fr hf (vS66_n (by decide)) (fun _ => vS66_n (by decide)) (fun _ => vS66_n (by decide))
    have hS1 := hS.fr hf (vS66_n (by decide)) (fun _ => vS66_n (by decide)) (fun _ => vS66_n (by decide)) (fun _ => vS66_n (by decide))
    have e : (dL D w).toNat = k := by omega
    have hv2 : ∀ g, 0 ≤ g → g ≤ dC D → m1 66 (30 * g + w) = vws D g w k := fun g g1 g2 => by rw [hv g g1 g2, e, vws_AB]
    refine ru9_renew_20 ⟨by omega, fun _ => ?_, fun c => absurd (show m1 12 w ≤ (k : Int) by rw [hS1.2.2.1 w hw.1 hw.2]; omega) c⟩
    refine sx_ren73 (V := fun g => vws D g w k) hD hA1 ⟨hw.1, by omega⟩ (fun g g1 g2 => hv2 g g1 g2) (dC D + 1).toNat 0 m1 w3 (by omega) (by have := hD.1; omega) vfr.rf (fun x x1 x2 => by omega) (fun x x1 x2 => hv2 x x1 x2) (fun m' w2 w4 hf2 hv3 => hk m' w2 w4 (hf.tr hf2) (fun g g1 g2 => ?_))
    rw [hv3 g g1 g2]
    unfold vww
    rw [e]
  | succ n ih =>
    intro k m1 w3 h1 hkn hf hv
    have hA1 := hA.fr hf (vS66_n (by decide)) (fun _ => vS66_n (by decide)) (fun _ => vS66_n (by decide))
    have hS1 := hS.fr hf (vS66_n (by decide)) (fun _ => vS66_n (by decide)) (fun _ => vS66_n (by decide)) (fun _ => vS66_n (by decide))
    have ha := hO.2.2.2.2 w hw.1 hw.2 ((k : Int) - 1) (by omega) (by omega)
    have hb := hO.2.2.2.2 w hw.1 hw.2 k (by omega) (by omega)
    refine ru9_renew_20 ⟨by omega, fun c => by rw [hS1.2.2.1 w hw.1 hw.2] at c; omega, fun _ => ⟨by omega, ?_⟩⟩
    rw [show w * 12 + (k : Int) - 1 = 12 * w + ((k : Int) - 1) by omega, show w * 12 + (k : Int) = 12 * w + k by omega, hS1.2.2.2 w hw.1 hw.2 ((k : Int) - 1) (by omega) (by omega), hS1.2.2.2 w hw.1 hw.2 k (by omega) (by omega)]
    refine sx_addD hD hO hA1 hS1 ⟨hw.1, by omega⟩ ha hb (V := fun g => vs (vwA D w) (dL D w).toNat + vs (vwB D g w) k) (fun g g1 g2 => ?_) hv (fun m' hf2 hv2 => ⟨by omega, ?_⟩)
    · have b1 := vs_bd (f := vwA D w) (lo := 0) (hi := 60) (dL D w).toNat (fun i i1 i2 => by
        have h4 := hO.2.2.2.2 w hw.1 hw.2 i i1 (by omega)
        exact hD.2.2.1 _ h4.1 h4.2.1)
      have b2 := vs_bd (f := vwB D g w) (lo := -9) (hi := 39) k (fun i i1 i2 => vwB_bd hD hO hw ⟨i1, by omega⟩ g2)
      omega
    · refine ih (k + 1) m' _ (by omega) (by omega) (hf.tr hf2) (fun g g1 g2 => ?_)
      rw [hv2 g g1 g2]
      have e : vs (vwB D g w) (k + 1) = vs (vwB D g w) k + vwB D g w k := rfl
      have e2 : vwB D g w k = vcd D (dP D (12 * w + ((k : Int) - 1))) (dP D (12 * w + k)) g := by
        unfold vwB
        rw [if_neg (by omega)]
      rw [e, e2]
      omega
theorem sx_ren2 (hD : dOA D) (hO : dOS D) (hA : dAx D m 3) (hS : dSx D m 9) {R : vm_M → Prop} (h : ∀ m', vfr vS6 m m' → (∀ w, 0 ≤ w → w < dN D → ∀ g, 0 ≤ g → g ≤ dC D → m' 66 (30 * g + w) = vww D g w) → R m') : ∀ (n : Nat) (w : Int) (m1 : vm_M) (w2 w3 : Option vm_V), 0 ≤ w → w + n = dN D → vfr vS6 m m1 → (∀ x, 0 ≤ x → x < w → ∀ g, 0 ≤ g → g ≤ dC D → m1 66 (30 * g + x) = vww D g x) → ku9_renew_2 w w2 w3 m1 R := by
  have hN := hO.2.2.1
  intro n
  induction n with
  | zero =>
    intro w m1 w2 w3 h0 hw hf hv
    have hS1 := hS.fr hf (vS6_n (by decide)) (fun _ => vS6_n (by decide)) (fun _ => vS6_n (by decide)) (fun _ => vS6_n (by decide))
    exact ru9_renew_2 ⟨fun _ => h m1 hf (fun x x1 x2 => hv x x1 (by omega)), fun c => absurd (show m1 9 6 ≤ w by rw [hS1.1]; omega) c⟩
  | succ n ih =>
    intro w m1 w2 w3 h0 hw hf hv
    have hA1 := hA.fr hf (vS6_n (by decide)) (fun _ => vS6_n (by decide)) (fun _ => vS6_n (by decide))
    have hS1 := hS.fr hf (vS6_n (by decide)) (fun _ => vS6_n (by decide)) (fun _ => vS6_n (by decide)) (fun _ => vS6_n (by decide))
    have hwN : 0 ≤ w ∧ w < dN D := ⟨h0, by omega⟩
    have hl := hO.2.2.2.1 w hwN.1 hwN.2
    refine ru9_renew_2 ⟨fun c => by rw [hS1.1] at c; omega, fun _ => sx_addW hD hO hA1 hS1 hwN (fun m2 hf2 hv2 => ?_)⟩
    have hA2 := hA1.fr hf2 (vS66_n (by decide)) (fun _ => vS66_n (by decide)) (fun _ => vS66_n (by decide))
    have hS2 := hS1.fr hf2 (vS66_n (by decide)) (fun _ => vS66_n (by decide)) (fun _ => vS66_n (by decide)) (fun _ => vS66_n (by decide))
    refine sx_ren20 hD hO hA2 hS2 hwN (fun m' w2 w4 hf3 hv3 => ih (w + 1) m' w2 w4 (by omega) (by omega) (hf.tr (vS66_6 (hf2.tr hf3))) (fun x x1 x2 g g1 g2 => ?_)) ((dL D w).toNat - 1) 1 m2 w3 (by omega) (by omega) vfr.rf (fun g g1 g2 => ?_)
    · by_cases hq : x = w
      · rw [hq]; exact hv3 g g1 g2
      · rw [(hf2.tr hf3) 66 _ (by unfold vS66; simp; omega)]
        exact hv x x1 (by omega) g g1 g2
    · rw [hv2 g g1 g2]
      have e : vs (vwB D g w) 1 = 0 := by
        show 0 + vwB D g w 0 = 0
        unfold vwB
        rw [if_pos rfl]; rfl
      rw [e]; omega
theorem sx_renew {R : vm_M → Prop} (hD : dOA D) (hO : dOS D) (hA : dAx D m 3) (hS : dSx D m 9) (h : ∀ m', vfr vS6 m m' → (∀ w, 0 ≤ w → w < dN D → ∀ g, 0 ≤ g → g ≤ dC D → m' 66 (30 * g + w) = vww D g w) → R m') : vm_C 97 [vm_r 65] m (vm_qv R) :=
  ru9_renew_0 (sx_ren2 hD hO hA hS h (dN D).toNat 0 m none none (by omega) (by have := hO.2.1; omega) vfr.rf (fun x x1 x2 => by omega))
end XR
