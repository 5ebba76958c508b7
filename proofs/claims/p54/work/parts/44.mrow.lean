/-! ===== rows on the board: the mathematics ===== -/
def eBg (D : vD) (E : Int → Int) (g : Int) : vB := (vww D g, dN D, E 4, E 5, E 0)
theorem eBg_ok {D : vD} {E : Int → Int} (hD : dOA D) (hO : dOS D) (hE : dOE D E) {g : Int} (hg : g ≤ dC D) : bOK (eBg D E g) :=
  ⟨hO.2.1, hO.2.2.1, fun w a b => vww_bd hD hO ⟨a, b⟩ hg, hE.2.2.2.2.1.1, hE.2.2.2.2.1.2, hE.2.2.2.2.2.1.1, hE.2.2.2.2.2.1.2, hE.1.1, hE.1.2⟩
/-- the width of the row of the words from f up to t, for the gap g -/
def yw (D : vD) (E : Int → Int) (f t g : Int) : Int := rwd (bR (eBg D E g)) f t
def yfg0 (D : vD) (E : Int → Int) (f t : Int) : Nat → Int → Int
  | 0, g => g
  | n + 1, g => if E 3 < g ∧ E 0 < yw D E f t g then yfg0 D E f t n (g - 1) else g
def yfg (D : vD) (E : Int → Int) (f t : Int) : Int := yfg0 D E f t 30 (dC D)
def ylack (E : Int → Int) (w : Int) : Int := if w < E 0 then E 0 - w else 0
/-- the gap of a row, its width, space, how many spaces are wider, start -/
def yG (D : vD) (E : Int → Int) (f t : Int) : Int := if E 7 = 0 then E 3 else yfg D E f t
def yw0 (D : vD) (E : Int → Int) (f t : Int) : Int := yw D E f t (yG D E f t)
def yL (D : vD) (E : Int → Int) (f t : Int) : Int := if ¬ E 7 = 0 ∧ 0 < t - f - 1 then ylack E (yw0 D E f t) else 0
def yW (D : vD) (E : Int → Int) (f t : Int) : Int := yw0 D E f t + yL D E f t
def yS (D : vD) (E : Int → Int) (f t : Int) : Int := if 0 < t - f - 1 then E 4 * E 5 + yL D E f t / (t - f - 1) else E 4 * E 5
def yX (D : vD) (E : Int → Int) (f t : Int) : Int := if 0 < t - f - 1 then yL D E f t % (t - f - 1) else 0
def y0 (D : vD) (E : Int → Int) (f t : Int) : Int := ylack E (yW D E f t) / 2
/-- a word's step on the board; its place -/
def yu (D : vD) (E : Int → Int) (f t w : Int) : Int := vww D (yG D E f t) w * E 5 + yS D E f t + (if w - f < yX D E f t then 1 else 0)
def yp (D : vD) (E : Int → Int) (f t w : Int) : Int := y0 D E f t + (vpi (yu D E f t) w - vpi (yu D E f t) f)
/-- the distance behind a letter, for a gap -/
def yd (D : vD) (g w k : Int) : Int := vcd D (dP D (12 * w + k)) (dP D (12 * w + (k + 1))) g
/-- places of letters in their word -/
def yq (D : vD) (E : Int → Int) (g w : Int) (k : Int) : Int := vpi (fun j => (dW D (dP D (12 * w + j)) + yd D g w j) * E 5) k
section YM
variable {D : vD} {E : Int → Int}
theorem yw_bd (hD : dOA D) (hO : dOS D) (hE : dOE D E) {f t g : Int} (hf : 0 ≤ f) (hft : f < t) (ht : t ≤ dN D) (hg : g ≤ dC D) : 1 ≤ yw D E f t g ∧ yw D E f t g ≤ 347490 :=
  rwd_bd (bR_ok (eBg_ok hD hO hE hg)) hf hft ht
theorem yfg0_ok {f t : Int} : ∀ (n : Nat) (g : Int), E 3 ≤ g → g ≤ E 3 + n → E 3 ≤ yfg0 D E f t n g ∧ yfg0 D E f t n g ≤ g
  | 0, g, h1, h2 => ⟨h1, Int.le_refl _⟩
  | n + 1, g, h1, h2 => by
    unfold yfg0
    by_cases hq : E 3 < g ∧ E 0 < yw D E f t g
    · rw [if_pos hq]
      have := yfg0_ok (f := f) (t := t) n (g - 1) (by omega) (by omega)
      omega
    · rw [if_neg hq]; omega
theorem yfg_bd (hD : dOA D) (hE : dOE D E) {f t : Int} : E 3 ≤ yfg D E f t ∧ yfg D E f t ≤ dC D := by
  have h1 := hE.2.2.2.1
  have h2 := hD.2.1
  exact yfg0_ok 30 (dC D) h1.2 (by omega)
theorem yG_bd (hD : dOA D) (hE : dOE D E) {f t : Int} : E 3 ≤ yG D E f t ∧ yG D E f t ≤ dC D := by
  have h1 := hE.2.2.2.1
  unfold yG
  split
  · omega
  · exact yfg_bd hD hE
theorem yL_bd (hD : dOA D) (hO : dOS D) (hE : dOE D E) {f t : Int} (hf : 0 ≤ f) (hft : f < t) (ht : t ≤ dN D) : 0 ≤ yL D E f t ∧ yL D E f t ≤ 9998 := by
  have h1 := yw_bd hD hO hE hf hft ht (yG_bd (f := f) (t := t) hD hE).2
  have h2 := hE.1
  unfold yL
  split
  · unfold ylack yw0
    split <;> omega
  · omega
theorem yW_bd (hD : dOA D) (hO : dOS D) (hE : dOE D E) {f t : Int} (hf : 0 ≤ f) (hft : f < t) (ht : t ≤ dN D) : 1 ≤ yW D E f t ∧ yW D E f t ≤ 357490 := by
  have h1 := yw_bd hD hO hE hf hft ht (yG_bd (f := f) (t := t) hD hE).2
  have h2 := yL_bd hD hO hE hf hft ht
  unfold yW yw0
  omega
theorem yP_bd (hE : dOE D E) : 0 ≤ E 4 * E 5 ∧ E 4 * E 5 ≤ 891 := by
  have := vmul_bd (a := E 4) (b := E 5) (A := 99) (B := 9) hE.2.2.2.2.1 ⟨by have := hE.2.2.2.2.2.1; omega, hE.2.2.2.2.2.1.2⟩
  omega
theorem yS_bd (hD : dOA D) (hO : dOS D) (hE : dOE D E) {f t : Int} (hf : 0 ≤ f) (hft : f < t) (ht : t ≤ dN D) : 0 ≤ yS D E f t ∧ yS D E f t ≤ 10890 := by
  have h1 := yP_bd hE
  have h2 := yL_bd hD hO hE hf hft ht
  unfold yS
  by_cases hq : 0 < t - f - 1
  · rw [if_pos hq]
    have a := Int.ediv_nonneg h2.1 (Int.le_of_lt hq)
    have b : yL D E f t / (t - f - 1) ≤ yL D E f t := Int.ediv_le_self _ h2.1
    omega
  · rw [if_neg hq]; omega
theorem yX_bd (hD : dOA D) (hO : dOS D) (hE : dOE D E) {f t : Int} (hf : 0 ≤ f) (hft : f < t) (ht : t ≤ dN D) : 0 ≤ yX D E f t ∧ yX D E f t ≤ 30 ∧ (0 < t - f - 1 → yX D E f t < t - f - 1) := by
  have h3 := hO.2.2.1
  unfold yX
  by_cases hq : 0 < t - f - 1
  · rw [if_pos hq]
    have a := Int.emod_nonneg (yL D E f t) (show t - f - 1 ≠ 0 by omega)
    have b := Int.emod_lt_of_pos (yL D E f t) hq
    omega
  · rw [if_neg hq]; omega
theorem y0_bd (hD : dOA D) (hO : dOS D) (hE : dOE D E) {f t : Int} (hf : 0 ≤ f) (hft : f < t) (ht : t ≤ dN D) : 0 ≤ y0 D E f t ∧ y0 D E f t ≤ 4999 := by
  have h1 := yW_bd hD hO hE hf hft ht
  have h2 := hE.1
  unfold y0 ylack
  split <;> omega
theorem ywz_bd (hD : dOA D) (hO : dOS D) (hE : dOE D E) {g w : Int} (hw : 0 ≤ w ∧ w < dN D) (hg : g ≤ dC D) : 1 ≤ vww D g w * E 5 ∧ vww D g w * E 5 ≤ 10692 := by
  have h1 := vww_bd hD hO hw hg
  have h2 := hE.2.2.2.2.2.1
  have a := vmul_bd (a := vww D g w) (b := E 5) (A := 1188) (B := 9) ⟨by omega, h1.2⟩ ⟨by omega, h2.2⟩
  have b : 1 * 1 ≤ vww D g w * E 5 := Int.mul_le_mul h1.1 h2.1 (by decide) (by omega)
  omega
theorem yu_bd (hD : dOA D) (hO : dOS D) (hE : dOE D E) {f t w : Int} (hf : 0 ≤ f) (hft : f < t) (ht : t ≤ dN D) (hw : 0 ≤ w ∧ w < dN D) : 1 ≤ yu D E f t w ∧ yu D E f t w ≤ 21583 := by
  have a := ywz_bd hD hO hE hw (yG_bd (f := f) (t := t) hD hE).2
  have b := yS_bd hD hO hE hf hft ht
  unfold yu
  split <;> omega
theorem yp_f {f t : Int} : yp D E f t f = y0 D E f t := by unfold yp; omega
theorem yp_s {f t w : Int} (hw : 0 ≤ w) : yp D E f t (w + 1) = yp D E f t w + yu D E f t w := by unfold yp; rw [vpi_s hw]; omega
theorem yp_bd (hD : dOA D) (hO : dOS D) (hE : dOE D E) {f t : Int} (hf : 0 ≤ f) (hft : f < t) (ht : t ≤ dN D) : ∀ n : Nat, f + n ≤ t → 0 ≤ yp D E f t (f + n) ∧ yp D E f t (f + n) ≤ 4999 + 21583 * n := by
  intro n
  induction n with
  | zero =>
    intro _
    have := y0_bd hD hO hE hf hft ht
    rw [show f + ((0 : Nat) : Int) = f by omega, yp_f]
    omega
  | succ n ih =>
    intro hn
    have i := ih (by omega)
    have u := yu_bd hD hO hE (w := f + n) hf hft ht ⟨by omega, by omega⟩
    rw [show f + ((n + 1 : Nat) : Int) = f + n + 1 by omega, yp_s (by omega)]
    omega
theorem yp_bd2 (hD : dOA D) (hO : dOS D) (hE : dOE D E) {f t w : Int} (hf : 0 ≤ f) (hft : f < t) (ht : t ≤ dN D) (hw : f ≤ w ∧ w ≤ t) : 0 ≤ yp D E f t w ∧ yp D E f t w ≤ 700000 := by
  have h := yp_bd hD hO hE hf hft ht (w - f).toNat (by omega)
  have h3 := hO.2.2.1
  rw [show f + ((w - f).toNat : Int) = w by omega] at h
  omega
theorem yd_bd (hD : dOA D) (hO : dOS D) {g w k : Int} (hw : 0 ≤ w ∧ w < dN D) (hk : 0 ≤ k ∧ k + 1 < dL D w) (hg : g ≤ dC D) : -9 ≤ yd D g w k ∧ yd D g w k ≤ 39 :=
  vcd_bd hD hO (hO.2.2.2.2 w hw.1 hw.2 k hk.1 (by omega)) (hO.2.2.2.2 w hw.1 hw.2 (k + 1) (by omega) hk.2) hg
theorem yq_t_bd (hD : dOA D) (hO : dOS D) (hE : dOE D E) {g w k : Int} (hw : 0 ≤ w ∧ w < dN D) (hk : 0 ≤ k ∧ k + 1 < dL D w) (hg : g ≤ dC D) : -81 ≤ (dW D (dP D (12 * w + k)) + yd D g w k) * E 5 ∧ (dW D (dP D (12 * w + k)) + yd D g w k) * E 5 ≤ 891 := by
  have h1 := hO.2.2.2.2 w hw.1 hw.2 k hk.1 (by omega)
  have h2 := hD.2.2.1 _ h1.1 h1.2.1
  have h3 := yd_bd hD hO hw hk hg
  have h4 := hE.2.2.2.2.2.1
  have a := vmul_bd (a := dW D (dP D (12 * w + k)) + yd D g w k + 9) (b := E 5) (A := 108) (B := 9) ⟨by omega, by omega⟩ ⟨by omega, h4.2⟩
  have b := vmul_bd (a := 99 - (dW D (dP D (12 * w + k)) + yd D g w k)) (b := E 5) (A := 108) (B := 9) ⟨by omega, by omega⟩ ⟨by omega, h4.2⟩
  rw [Int.add_mul] at a
  rw [Int.sub_mul] at b
  omega
theorem yq_bd (hD : dOA D) (hO : dOS D) (hE : dOE D E) {g w : Int} (hw : 0 ≤ w ∧ w < dN D) (hg : g ≤ dC D) {k : Int} (hk : 0 ≤ k ∧ k < dL D w) : -972 ≤ yq D E g w k ∧ yq D E g w k ≤ 10692 := by
  have h1 := (hO.2.2.2.1 w hw.1 hw.2).2
  have := vs_bd (f := fun j => (dW D (dP D (12 * w + j)) + yd D g w j) * E 5) (lo := -81) (hi := 891) k.toNat (fun i i1 i2 => yq_t_bd hD hO hE hw ⟨i1, by omega⟩ hg)
  unfold yq vpi
  omega
theorem yq_0 {g w : Int} : yq D E g w 0 = 0 := rfl
theorem yq_s {g w k : Int} (hk : 0 ≤ k) : yq D E g w (k + 1) = yq D E g w k + (dW D (dP D (12 * w + k)) + yd D g w k) * E 5 := vpi_s hk
end YM
