/-! ===== settings; widths of words ===== -/
/-- a setting's ranges -/
def dOS (D : vD) : Prop := (∀ k, 0 ≤ k → k < 676 → -9 ≤ dK D k ∧ dK D k ≤ 9) ∧ 0 ≤ dN D ∧ dN D ≤ 30 ∧ (∀ w, 0 ≤ w → w < dN D → 1 ≤ dL D w ∧ dL D w ≤ 12) ∧ ∀ w, 0 ≤ w → w < dN D → ∀ k, 0 ≤ k → k < dL D w → dk D (dP D (12 * w + k))
def dSx (D : vD) (m : vm_M) (th : Nat) : Prop := m th 6 = dN D ∧ (∀ k, 0 ≤ k → k < 676 → m (th + 2) k = dK D k) ∧ (∀ w, 0 ≤ w → w < dN D → m (th + 3) w = dL D w) ∧ ∀ w, 0 ≤ w → w < dN D → ∀ k, 0 ≤ k → k < dL D w → m (th + 4) (12 * w + k) = dP D (12 * w + k)
def dSm (D : vD) (m : vm_M) : Prop := m 100 8 = dN D ∧ (∀ k, 0 ≤ k → k < 676 → m 100 (9 + k) = dK D k) ∧ (∀ w, 0 ≤ w → w < dN D → m 100 (685 + w) = dL D w) ∧ ∀ w, 0 ≤ w → w < dN D → ∀ k, 0 ≤ k → k < dL D w → m 100 (715 + (12 * w + k)) = dP D (12 * w + k)
theorem vcd1_bd {p k : Int} (hp : p ≤ 30) (hk : k ≤ 9) : -9 ≤ vcd1 p k ∧ vcd1 p k ≤ 39 := by
  unfold vcd1
  split <;> omega
theorem vcd_bd {D : vD} (hD : dOA D) (hO : dOS D) {a b g : Int} (ha : dk D a) (hb : dk D b) (hg : g ≤ dC D) : -9 ≤ vcd D a b g ∧ vcd D a b g ≤ 39 := by
  have h1 := vpd_ok hD ha hb hg
  have h2 := hD.2.1
  have h3 := hO.1 (26 * a + b) (by have := ha.1; have := hb.1; omega) (by have := ha.2.1; have := hb.2.1; omega)
  exact vcd1_bd (by omega) h3.2
/-- what a letter adds to its word's width -/
def vwk (D : vD) (g w k : Int) : Int := dW D (dP D (12 * w + k)) + (if k = 0 then 0 else vcd D (dP D (12 * w + (k - 1))) (dP D (12 * w + k)) g)
def vws (D : vD) (g w : Int) (n : Nat) : Int := vs (vwk D g w) n
def vone (z : Int) : Int := if 1 ≤ z then z else 1
def vww (D : vD) (g w : Int) : Int := vone (vws D g w (dL D w).toNat)
theorem vwk_bd {D : vD} (hD : dOA D) (hO : dOS D) {g w k : Int} (hw : 0 ≤ w ∧ w < dN D) (hk : 0 ≤ k ∧ k < dL D w) (hg : g ≤ dC D) : -9 ≤ vwk D g w k ∧ vwk D g w k ≤ 99 := by
  have h1 := hO.2.2.2.2 w hw.1 hw.2 k hk.1 hk.2
  have h2 := hD.2.2.1 _ h1.1 h1.2.1
  unfold vwk
  by_cases h0 : k = 0
  · rw [if_pos h0]; omega
  · rw [if_neg h0]
    have h3 := hO.2.2.2.2 w hw.1 hw.2 (k - 1) (by omega) (by omega)
    have h4 := vcd_bd hD hO h3 h1 hg
    omega
theorem vws_bd {D : vD} (hD : dOA D) (hO : dOS D) {g w : Int} (hw : 0 ≤ w ∧ w < dN D) (hg : g ≤ dC D) (n : Nat) (hn : (n : Int) ≤ dL D w) : -108 ≤ vws D g w n ∧ vws D g w n ≤ 1188 := by
  have h1 := vs_bd (f := vwk D g w) (lo := -9) (hi := 99) n (fun i h1 h2 => vwk_bd hD hO hw ⟨h1, by omega⟩ hg)
  have h2 := (hO.2.2.2.1 w hw.1 hw.2).2
  unfold vws
  omega
theorem vww_bd {D : vD} (hD : dOA D) (hO : dOS D) {g w : Int} (hw : 0 ≤ w ∧ w < dN D) (hg : g ≤ dC D) : 1 ≤ vww D g w ∧ vww D g w ≤ 1188 := by
  have h1 := vws_bd hD hO hw hg (dL D w).toNat (by have := hO.2.2.2.1 w hw.1 hw.2; omega)
  unfold vww vone
  split <;> omega
section XW
variable {D : vD} {m : vm_M}
theorem sx_corrected {Q : Int → vm_M → Prop} {th : Nat} (h_th : vm_is th 4 = true) (hO : dOS D) (hS : dSx D m th) {a b p : Int} (ha : 0 ≤ a ∧ a < 26) (hb : 0 ≤ b ∧ b < 26) (hp : -1000 ≤ p ∧ p ≤ 1000) (h : Q (vcd1 p (dK D (26 * a + b))) m) : vm_C 57 [vm_r th, vm_i a, vm_i b, vm_i p] m (vm_qi Q) := by
  have h1 := hO.1 (26 * a + b) (by omega) (by omega)
  have h2 := hS.2.1 (26 * a + b) (by omega) (by omega)
  refine ru4_corrected_0 h_th (ru4_correctionOf_0 h_th ⟨by omega, ?_⟩)
  rw [show a * 26 + b = 26 * a + b by omega, h2]
  refine ⟨by omega, ?_⟩
  unfold vcd1 at h
  by_cases hq : -9 < p + dK D (26 * a + b)
  · rw [if_pos hq]; rw [if_pos (by omega)] at h; exact h
  · rw [if_neg hq]
    by_cases hq2 : -9 ≤ p + dK D (26 * a + b)
    · rw [if_pos hq2] at h; rw [show (-9 : Int) = p + dK D (26 * a + b) by omega]; exact h
    · rw [if_neg hq2] at h; exact h
theorem sx_dist {Q : Int → vm_M → Prop} (hD : dOA D) (hO : dOS D) (hA : dAx D m 3) (hS : dSx D m 9) {a b g : Int} (ha : dk D a) (hb : dk D b) (hg : g ≤ dC D) (h : Q (vcd D a b g) m) : vm_C 124 [vm_r 0, vm_i a, vm_i b, vm_i g] m (vm_qi Q) := by
  have h1 := vpd_ok hD ha hb hg
  have h2 := hD.2.1
  exact ru10_pairDistance_0 (sx_free rfl hD hA ha hb hg ⟨by omega, h1.1⟩ (sx_corrected rfl hO hS ⟨ha.1, ha.2.1⟩ ⟨hb.1, hb.2.1⟩ (by omega) h))
end XW
