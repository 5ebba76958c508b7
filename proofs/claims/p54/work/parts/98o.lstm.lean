/-! ===== what stands in the rows: mathematics ===== -/
theorem fl_sum {a b : Int} (ha : 0 ≤ a ∧ a ≤ 1000000) (hb : 0 ≤ b ∧ b ≤ 1000000) : FP.dadd (FP.i2d (Int32.ofInt a)) (FP.i2d (Int32.ofInt b)) = FP.i2d (Int32.ofInt (a + b)) := by
  have e : ∀ x : Int32, FP.i2d x = FP.l2d x.toInt64 := FP.Core.i2d_l2d
  have hs : ∀ z : Int, 0 ≤ z → z ≤ 2000000 → (Int32.ofInt z).toInt64.toInt = z := fun z h0 h1 => by
    rw [Int32.toInt_toInt64]
    exact Int32.toInt_ofInt_of_le (by omega) (by omega)
  have h1 := hs a ha.1 (by omega)
  have h2 := hs b hb.1 (by omega)
  have h3 := hs (a + b) (by omega) (by omega)
  rw [e, e, e]
  have h : FP.dadd (FP.l2d (Int32.ofInt a).toInt64) (FP.l2d (Int32.ofInt b).toInt64) = FP.l2d ((Int32.ofInt a).toInt64 + (Int32.ofInt b).toInt64) := FP.Core.dadd_l2d (by unfold FP.Core.Small53; omega) (by unfold FP.Core.Small53; omega)
  rw [h]
  congr 1
  apply Int64.toInt_inj.mp
  rw [FP.Core.int64_add (by omega) (by omega), h1, h2, h3]
theorem fl_i2d0 : FP.i2d (Int32.ofInt 0) = 0 := by decide +kernel
theorem fl_n0 {a : Int} (ha : 0 ≤ a ∧ a ≤ 1000000) : vf_n64 (FP.i2d (Int32.ofInt a)) := by
  obtain ⟨s, c, q, h, -⟩ := fl_i2d (z := a) ⟨ha.1, by omega⟩
  exact fl_n64 (by rw [h]; intro x; cases x)
section SM
variable {D : vD} {E : Int → Int}
theorem yro_is (hO : OC D E) {w : Int} {r : Nat} (hr : r < eQ D E) (h1 : eF D E r ≤ w) (h2 : w < eF D E (r + 1)) : ∀ (n k : Nat), k + n = eQ D E → k ≤ r → yro D E w n k = r
  | 0, k, hk, hkr => by omega
  | n + 1, k, hk, hkr => by
    show (if w < eF D E (k + 1) then (k : Int) else yro D E w n (k + 1)) = r
    by_cases q : k = r
    · rw [q, if_pos h2]
    · have := eF_up hO.1 hO.2.1 hO.2.2 (r := k + 1) (r - (k + 1)) (by omega)
      rw [show k + 1 + (r - (k + 1)) = r by omega] at this
      rw [if_neg (by omega)]
      exact yro_is hO hr h1 h2 n (k + 1) (by omega) (by omega)
theorem vloc_is (hS : dOS D) {f w k : Int} (hf : 0 ≤ f) (hw : w < dN D) (hk : 0 ≤ k ∧ k < dL D w) : ∀ (n : Nat) (w0 : Int), f ≤ w0 → w0 ≤ w → w - w0 ≤ n → vloc D n w0 (vcl D f w - vcl D f w0 + k) = (w, k)
  | 0, w0, h1, h2, h3 => by
    have : w0 = w := by omega
    subst this
    show (w0, vcl D f w0 - vcl D f w0 + k) = (w0, k)
    rw [show vcl D f w0 - vcl D f w0 + k = k by omega]
  | n + 1, w0, h1, h2, h3 => by
    unfold vloc
    by_cases q : w0 = w
    · subst q
      rw [if_pos (by omega), show vcl D f w0 - vcl D f w0 + k = k by omega]
    · have s := vcl_s (D := D) (f := f) (w := w0) (by omega)
      have m := vcl_mono hS hf (show f ≤ w0 + 1 by omega) (show w0 + 1 ≤ w by omega) (by omega)
      rw [if_neg (by omega)]
      have := vloc_is hS hf hw hk n (w0 + 1) (by omega) (by omega) (by omega)
      rwa [show vcl D f w - vcl D f w0 + k - dL D w0 = vcl D f w - vcl D f (w0 + 1) + k by omega]
theorem vlc_is (hS : dOS D) {f w k : Int} (hf : 0 ≤ f) (hfw : f ≤ w) (hw : w < dN D) (hk : 0 ≤ k ∧ k < dL D w) : vlc D f (vcl D f w + k) = (w, k) := by
  have := vloc_is hS hf hw hk 30 f (Int.le_refl _) hfw (by have := hS.2.2.1; omega)
  rw [vcl_f] at this
  rwa [show vcl D f w - 0 + k = vcl D f w + k by omega] at this
/-- the next letter of a word -/
theorem vlc_next (hS : dOS D) {f t i : Int} (hf : 0 ≤ f) (hft : f < t) (ht : t ≤ dN D) (hi : 0 ≤ i) (h : yn D f t i) : i + 1 < vcl D f t ∧ vlc D f (i + 1) = ((vlc D f i).1, (vlc D f i).2 + 1) := by
  obtain ⟨a1, a2, a3, a4, a5⟩ := vlc_ok hS hf hft ht hi h.1
  have h2 := h.2
  have s := vcl_s (D := D) (f := f) (w := (vlc D f i).1) (by omega)
  have m := vcl_mono hS hf (show f ≤ (vlc D f i).1 + 1 by omega) (show (vlc D f i).1 + 1 ≤ t by omega) ht
  refine ⟨by omega, ?_⟩
  have := vlc_is hS hf a1 (by omega) (k := (vlc D f i).2 + 1) ⟨by omega, h2⟩
  rwa [show vcl D f (vlc D f i).1 + ((vlc D f i).2 + 1) = i + 1 by omega] at this
theorem ya_next (hS : dOS D) {f t i : Int} (hf : 0 ≤ f) (hft : f < t) (ht : t ≤ dN D) (hi : 0 ≤ i) (h : yn D f t i) : ya D f (i + 1) = yb D f i := by
  unfold ya yb
  rw [(vlc_next hS hf hft ht hi h).2]
theorem ypl_next (hS : dOS D) {f t i : Int} (hf : 0 ≤ f) (hft : f < t) (ht : t ≤ dN D) (hi : 0 ≤ i) (h : yn D f t i) : ypl D E f t (i + 1) = ypl D E f t i + (dW D (ya D f i) + ydi D E f t i) * E 5 := by
  have a := vlc_ok hS hf hft ht hi h.1
  unfold ypl
  rw [(vlc_next hS hf hft ht hi h).2]
  show yp D E f t (vlc D f i).1 + yq D E (yG D E f t) (vlc D f i).1 ((vlc D f i).2 + 1) = _
  rw [yq_s a.2.2.1]
  show _ = yp D E f t (vlc D f i).1 + yq D E (yG D E f t) (vlc D f i).1 (vlc D f i).2 + (dW D (dP D (12 * (vlc D f i).1 + (vlc D f i).2)) + yd D (yG D E f t) (vlc D f i).1 (vlc D f i).2) * E 5
  omega
theorem ypl_0 (hS : dOS D) {f t : Int} (hf : 0 ≤ f) (hft : f < t) (ht : t ≤ dN D) : 0 < vcl D f t ∧ ypl D E f t 0 = y0 D E f t := by
  have l := hS.2.2.2.1 f hf (by omega)
  have s := vcl_s (D := D) (f := f) (w := f) hf
  have m := vcl_mono hS hf (show f ≤ f + 1 by omega) (show f + 1 ≤ t by omega) ht
  rw [vcl_f] at s
  refine ⟨by omega, ?_⟩
  have := vlc_is hS hf (Int.le_refl f) (by omega) (k := 0) ⟨Int.le_refl _, by omega⟩
  rw [vcl_f] at this
  have : vlc D f 0 = (f, 0) := this
  unfold ypl
  rw [this]
  show yp D E f t f + yq D E (yG D E f t) f 0 = _
  rw [yp_f, yq_0]
  omega
/-- the optical gap behind a letter is that of the pair at its distance -/
theorem ydi_is {f t i : Int} : ydi D E f t i = vcd D (ya D f i) (yb D f i) (yG D E f t) := rfl
theorem vs_all0 {f : Int → Int} : ∀ (n : Nat), (∀ i : Int, 0 ≤ i → i < n → 0 ≤ f i) → vs f n ≤ 0 → ∀ i : Int, 0 ≤ i → i < n → f i = 0
  | 0, _, _, i, h0, h1 => by omega
  | n + 1, hf, h, i, h0, h1 => by
    have e : vs f (n + 1) = vs f n + f n := rfl
    have hn := hf n (by omega) (by omega)
    have hb : 0 ≤ vs f n := by
      have : ∀ m : Nat, m ≤ n → 0 ≤ vs f m := fun m => by
        induction m with
        | zero => intro _; exact Int.le_refl _
        | succ m ih =>
          intro hm
          have a := ih (by omega)
          have b := hf m (by omega) (by omega)
          show 0 ≤ vs f m + f m
          omega
      exact this n (Nat.le_refl _)
    by_cases q : i = n
    · rw [q]; omega
    · exact vs_all0 n (fun i a b => hf i a (by omega)) (by omega) i h0 (by omega)
theorem ygp_ge (hO : OC D E) {f t i : Int} (hf : 0 ≤ f) (hft : f < t) (ht : t ≤ dN D) (hi : 0 ≤ i) (h : yn D f t i) (hz : vs (vnz D) 676 ≤ 0) : yG D E f t ≤ ygp D E f t i := by
  obtain ⟨hD, hS, hE⟩ := hO
  have ka := ya_ok hS hf hft ht hi h.1
  have kb := yb_ok hS hf hft ht hi h
  have g := (yG_bd hD hE (f := f) (t := t)).2
  have a0 := ka.1
  have a1 := ka.2.1
  have b0 := kb.1
  have b1 := kb.2.1
  have hv := vs_all0 (f := vnz D) 676 (fun i _ _ => vnz_bd.1) hz (26 * ya D f i + yb D f i) (by omega) (by omega)
  have hk : dK D (26 * ya D f i + yb D f i) = 0 := by
    unfold vnz at hv
    split at hv
    · assumption
    · omega
  have p := vpd_ok hD ka kb g
  have e : vcd D (ya D f i) (yb D f i) (yG D E f t) = vpd D (ya D f i) (yb D f i) (yG D E f t) := by
    unfold vcd vcd1
    rw [hk, if_pos (by omega)]
    omega
  unfold ygp
  rw [ydi_is, e]
  exact p.2.2.1
/-- a filled row is no wider than the board, if that can be -/
theorem yfg_le {f t : Int} (h : yw D E f t (E 3) ≤ E 0) : ∀ (n : Nat) (g : Int), E 3 ≤ g → g ≤ E 3 + n → yw D E f t (yfg0 D E f t n g) ≤ E 0
  | 0, g, h1, h2 => by
    rw [show yfg0 D E f t 0 g = g from rfl, show g = E 3 by omega]
    exact h
  | n + 1, g, h1, h2 => by
    unfold yfg0
    by_cases q : E 3 < g ∧ E 0 < yw D E f t g
    · rw [if_pos q]
      exact yfg_le h n (g - 1) (by omega) (by omega)
    · rw [if_neg q]
      by_cases q2 : E 3 < g
      · have : ¬ E 0 < yw D E f t g := fun c => q ⟨q2, c⟩
        omega
      · rw [show g = E 3 by omega]
        exact h
/-- its width with words of its own gap -/
def lpl (D : vD) (E : Int → Int) (f t : Int) : Int := rwd (bR (eB D E)) f t
theorem yW_plain (h7 : E 7 = 0) {f t : Int} : yW D E f t = lpl D E f t := by
  unfold yW yL yw0 yG
  rw [if_pos h7, if_neg (fun c => c.1 h7), Int.add_zero]
  rfl
theorem yW_full (hO : OC D E) (h7 : ¬ E 7 = 0) {f t : Int} (h1 : f + 1 < t) (hp : lpl D E f t ≤ E 0) : yW D E f t = E 0 := by
  have b := hO.2.2.2.2.2.1
  have c := hO.1.2.1
  have hw := yfg_le (f := f) (t := t) (show yw D E f t (E 3) ≤ E 0 from hp) 30 (dC D) b.2 (by omega)
  unfold yW yL yw0 yG
  rw [if_neg h7, if_pos ⟨h7, by omega⟩]
  have hw : yw D E f t (yfg D E f t) ≤ E 0 := hw
  unfold ylack
  split <;> omega
/-- the first words of a row -/
def lpw (D : vD) (E : Int → Int) (f t w : Int) : Int := E 4 * (t - f - 1) * E 5 + (vpi (vww D (E 3)) w - vpi (vww D (E 3)) f) * E 5
theorem lpw_f {f t : Int} : lpw D E f t f = E 4 * (t - f - 1) * E 5 := by
  unfold lpw
  rw [Int.sub_self, Int.zero_mul, Int.add_zero]
theorem lpw_s {f t w : Int} (hw : 0 ≤ w) : lpw D E f t (w + 1) = lpw D E f t w + vww D (E 3) w * E 5 := by
  unfold lpw
  rw [vpi_s hw, show vpi (vww D (E 3)) w + vww D (E 3) w - vpi (vww D (E 3)) f = vpi (vww D (E 3)) w - vpi (vww D (E 3)) f + vww D (E 3) w by omega, Int.add_mul]
  omega
theorem lpw_t {f t : Int} : lpw D E f t t = lpl D E f t := by
  unfold lpl lpw
  rw [← bR_w]
  show _ = (vpi (vww D (E 3)) t - vpi (vww D (E 3)) f + (t - f - 1) * E 4) * E 5
  rw [Int.add_mul, Int.mul_comm (E 4) (t - f - 1)]
  omega
theorem lpw_bd (hO : OC D E) {f t w : Int} (hf : 0 ≤ f) (hft : f < t) (ht : t ≤ dN D) (hw : f ≤ w ∧ w ≤ t) : 0 ≤ lpw D E f t w ∧ lpw D E f t w ≤ 1000000 := by
  obtain ⟨hD, hS, hE⟩ := hO
  have hB := eB_ok hD hS hE
  have p := yP_bd hE
  have e4 := hE.2.2.2.2.1
  have e5 := hE.2.2.2.2.2.1
  have hN := hS.2.2.1
  have m1 := vmul_bd (a := E 4) (b := t - f - 1) (A := 99) (B := 29) e4 ⟨by omega, by omega⟩
  have m2 := vmul_bd (a := E 4 * (t - f - 1)) (b := E 5) (A := 2871) (B := 9) ⟨m1.1, by omega⟩ ⟨by omega, e5.2⟩
  have go : ∀ n : Nat, f + n ≤ t → 0 ≤ vpi (vww D (E 3)) (f + n) - vpi (vww D (E 3)) f ∧ vpi (vww D (E 3)) (f + n) - vpi (vww D (E 3)) f ≤ 1188 * n := fun n => by
    induction n with
    | zero => intro _; rw [show f + ((0 : Nat) : Int) = f by omega]; omega
    | succ n ih =>
      intro hn
      have i := ih (by omega)
      have b := vww_bd hD hS (g := E 3) (w := f + n) ⟨by omega, by omega⟩ hE.2.2.2.1.2
      rw [show f + ((n + 1 : Nat) : Int) = f + n + 1 by omega, vpi_s (by omega)]
      omega
  have g := go (w - f).toNat (by omega)
  rw [show f + ((w - f).toNat : Int) = w by omega] at g
  have m3 := vmul_bd (a := vpi (vww D (E 3)) w - vpi (vww D (E 3)) f) (b := E 5) (A := 35640) (B := 9) ⟨g.1, by omega⟩ ⟨by omega, e5.2⟩
  unfold lpw
  omega
theorem lpl_s {f t : Int} (ht : 0 ≤ t) : lpl D E f (t + 1) = lpl D E f t + E 4 * E 5 + vww D (E 3) t * E 5 := by
  unfold lpl
  rw [← bR_w, ← bR_w]
  show (vpi (vww D (E 3)) (t + 1) - vpi (vww D (E 3)) f + (t + 1 - f - 1) * E 4) * E 5 = (vpi (vww D (E 3)) t - vpi (vww D (E 3)) f + (t - f - 1) * E 4) * E 5 + E 4 * E 5 + vww D (E 3) t * E 5
  rw [vpi_s ht, show t + 1 - f - 1 = t - f - 1 + 1 by omega, Int.add_mul (t - f - 1) 1 (E 4), Int.one_mul, show vpi (vww D (E 3)) t + vww D (E 3) t - vpi (vww D (E 3)) f + ((t - f - 1) * E 4 + E 4) = vpi (vww D (E 3)) t - vpi (vww D (E 3)) f + (t - f - 1) * E 4 + E 4 + vww D (E 3) t by omega, Int.add_mul, Int.add_mul]
/-- early rows take what fits -/
theorem early_full (hO : OC D E) (h6 : E 6 = 0) {r : Nat} (hr : r + 1 < eQ D E) : E 0 < lpl D E (eF D E r) (eF D E (r + 1) + 1) := by
  have hR := bR_ok (eB_ok hO.1 hO.2.1 hO.2.2)
  have q := eQ_ok hO.1 hO.2.1 hO.2.2
  have a := q.2.2.2.1 r (by omega)
  have b := q.2.2.2.1 (r + 1) hr
  have e : ∀ r, eF D E r = gF (bR (eB D E)) r := fun r => by unfold eF bF; rw [if_pos h6]
  rw [e, e] at a
  rw [e, e] at b
  have hN : rN (bR (eB D E)) = dN D := rfl
  have g := gend_ok hR (f := gF (bR (eB D E)) r) a.1 (by omega)
  rw [e, e]
  rw [gF_s r (by omega)] at b ⊢
  exact g.2.2.2 (by omega)
/-- least and greatest gap of the first letters of a row, as the law goes -/
noncomputable def lyl (D : vD) (E : Int → Int) (f t : Int) (n : Nat) : Int := if (yun D E f t n).1 = -2 then 1000 else (yun D E f t n).1
noncomputable def lyg (D : vD) (E : Int → Int) (f t : Int) (n : Nat) : Int := if (yun D E f t n).1 = -2 then -1 else (yun D E f t n).2
theorem lyl_s (hD : dOA D) {f t : Int} {n : Nat} (h : yn D f t n) : lyl D E f t (n + 1) = (if ygp D E f t n < lyl D E f t n then ygp D E f t n else lyl D E f t n) ∧ lyg D E f t (n + 1) = (if lyg D E f t n < ygp D E f t n then ygp D E f t n else lyg D E f t n) := by
  have g := ygp_bd (D := D) (E := E) hD (f := f) (t := t) (i := (n : Int))
  have e : yun D E f t (n + 1) = (if (yun D E f t n).1 = -2 then ygp D E f t n else if ygp D E f t n < (yun D E f t n).1 then ygp D E f t n else (yun D E f t n).1, if (yun D E f t n).2 < ygp D E f t n then ygp D E f t n else (yun D E f t n).2) := by
    show vif _ _ _ = _
    rw [vif_t h]
  unfold lyl lyg
  rw [e]
  dsimp only
  rcases yun_bd (E := E) hD (f := f) (t := t) n with q | ⟨q1, q2, q3, q4⟩
  · rw [q]
    dsimp only
    generalize ygp D E f t n = u3 at *
    refine ⟨?_, ?_⟩ <;> ((repeat' split) <;> omega)
  · rw [if_neg (by omega)]
    generalize (yun D E f t n).1 = u1 at *
    generalize (yun D E f t n).2 = u2 at *
    generalize ygp D E f t n = u3 at *
    refine ⟨?_, ?_⟩ <;> ((repeat' split) <;> omega)
theorem lyl_n {f t : Int} {n : Nat} (h : ¬ yn D f t n) : lyl D E f t (n + 1) = lyl D E f t n ∧ lyg D E f t (n + 1) = lyg D E f t n := by
  have e : yun D E f t (n + 1) = yun D E f t n := by
    show vif _ _ _ = _
    rw [vif_f h]
  unfold lyl lyg
  rw [e]
  exact ⟨rfl, rfl⟩
theorem lyg_bd (hD : dOA D) {f t : Int} (n : Nat) : (-1 ≤ lyg D E f t n ∧ lyg D E f t n ≤ 30) ∧ (0 ≤ lyl D E f t n ∧ lyl D E f t n ≤ 1000) ∧ (lyg D E f t n < 0 ↔ (yun D E f t n).1 = -2) ∧ (0 ≤ lyg D E f t n → lyg D E f t n - lyl D E f t n = (yun D E f t n).2 - (yun D E f t n).1) := by
  unfold lyl lyg
  rcases yun_bd (E := E) hD (f := f) (t := t) n with q | ⟨q1, q2, q3, q4⟩
  · rw [q]
    dsimp only
    rw [if_pos rfl, if_pos rfl]
    omega
  · rw [if_neg (by omega), if_neg (by omega)]
    omega
/-- the height of the first rows -/
def lht (E : Int → Int) (r : Nat) : Int := if r = 0 then 0 else (r : Int) * 6 * E 5 + ((r : Int) - 1) * E 2
theorem lht_s (E : Int → Int) (r : Nat) : lht E (r + 1) = lht E r + (6 * E 5 + (if r = 0 then 0 else E 2)) := by
  unfold lht
  rw [if_neg (by omega)]
  by_cases q : r = 0
  · subst q
    rw [if_pos rfl, if_pos rfl]
    show ((1 : Nat) : Int) * 6 * E 5 + (((1 : Nat) : Int) - 1) * E 2 = _
    rw [show (((1 : Nat) : Int) - 1) = 0 by decide, Int.zero_mul]
    omega
  · rw [if_neg q, if_neg q, show ((r + 1 : Nat) : Int) * 6 = (r : Int) * 6 + 6 by omega, Int.add_mul, show ((r + 1 : Nat) : Int) - 1 = (r : Int) - 1 + 1 by omega, Int.add_mul, Int.one_mul]
    omega
theorem lht_bd (hE : dOE D E) {r : Nat} (hr : r ≤ 12) : 0 ≤ lht E r ∧ lht E r ≤ 2000 := by
  have e5 := hE.2.2.2.2.2.1
  have e2 := hE.2.2.1
  unfold lht
  split
  · omega
  · have m1 := vmul_bd (a := (r : Int) * 6) (b := E 5) (A := 72) (B := 9) ⟨by omega, by omega⟩ ⟨by omega, e5.2⟩
    have m2 := vmul_bd (a := (r : Int) - 1) (b := E 2) (A := 11) (B := 99) ⟨by omega, by omega⟩ e2
    omega
/-- what the first rows cost -/
def lco (D : vD) (E : Int → Int) (r : Nat) : Int := vs (bsq (bR (eB D E)) (E 6)) (min r (eQ D E - 1))
theorem lco_bd (hO : OC D E) (r : Nat) : 0 ≤ lco D E r ∧ lco D E r ≤ 1199520048 := by
  have hR := bR_ok (eB_ok hO.1 hO.2.1 hO.2.2)
  have := bcost_bd hR (E 6) (min r (eQ D E - 1)) (by unfold eQ; omega)
  unfold lco
  omega
theorem lco_s {r : Nat} (hr : r + 1 < eQ D E) : lco D E (r + 1) = lco D E r + vsq (E 0) (lpl D E (eF D E r) (eF D E (r + 1))) := by
  unfold lco
  rw [Nat.min_eq_left (by omega), Nat.min_eq_left (by omega)]
  show vs _ r + bsq (bR (eB D E)) (E 6) (r : Int) = _
  unfold bsq
  rw [Int.toNat_natCast]
  rfl
theorem lco_e {r : Nat} (hr : r < eQ D E) (h : eQ D E ≤ r + 1) : lco D E (r + 1) = lco D E r := by
  unfold lco
  rw [Nat.min_eq_right (by omega), Nat.min_eq_right (by omega)]
/-- is one of the first rows too wide -/
def lfw (D : vD) (E : Int → Int) (r : Nat) (v : Int) : Prop := (v = 1 ∧ ∀ j, j < r → lpl D E (eF D E j) (eF D E (j + 1)) ≤ E 0) ∨ (v = 0 ∧ ∃ j, j < r ∧ E 0 < lpl D E (eF D E j) (eF D E (j + 1)))
theorem lfw_s {r : Nat} {v : Int} (h : lfw D E r v) (x : Int) (hx : x = if v = 0 then 0 else if E 0 < lpl D E (eF D E r) (eF D E (r + 1)) then 0 else 1) : lfw D E (r + 1) x := by
  rcases h with ⟨h1, h2⟩ | ⟨h1, j, h2, h3⟩
  · rw [if_neg (by omega)] at hx
    by_cases q : E 0 < lpl D E (eF D E r) (eF D E (r + 1))
    · rw [if_pos q] at hx
      exact Or.inr ⟨hx, r, by omega, q⟩
    · rw [if_neg q] at hx
      refine Or.inl ⟨hx, fun j hj => ?_⟩
      by_cases e : j = r
      · rw [e]; omega
      · exact h2 j (by omega)
  · rw [if_pos h1] at hx
    exact Or.inr ⟨hx, j, by omega, h3⟩
theorem lfw_e {v : Int} (hQ : 0 < eQ D E) (h : lfw D E (eQ D E) v) : a_fits D E = if v = 0 then 0 else if E 1 < lht E (eQ D E) then 0 else 1 := by
  have eh : bht (bR (eB D E)) (E 6) (E 5) (E 2) = lht E (eQ D E) := by
    unfold bht lht
    rw [if_neg (show ¬ bQ (bR (eB D E)) (E 6) = 0 by unfold eQ at hQ; omega), if_neg (by omega)]
    rfl
  unfold a_fits
  rcases h with ⟨h1, h2⟩ | ⟨h1, j, h2, h3⟩
  · rw [if_neg (by omega)]
    by_cases q : E 1 < lht E (eQ D E)
    · rw [if_pos q, vif_f (fun c => by have := c.2.2; rw [eh] at this; omega)]
    · rw [if_neg q, vif_t ⟨Or.inl hQ, fun ⟨j, j1, j2⟩ => by have := h2 j j1; have j2 : E 0 < lpl D E (eF D E j) (eF D E (j + 1)) := j2; omega, by rw [eh]; omega⟩]
  · rw [if_pos h1, vif_f (fun c => c.2.1 ⟨j, h2, h3⟩)]
theorem lht_a (hQ : 0 < eQ D E) : a_height D E = lht E (eQ D E) := by
  unfold a_height bht lht
  rw [if_neg (show ¬ bQ (bR (eB D E)) (E 6) = 0 by unfold eQ at hQ; omega), if_neg (by omega)]
  rfl
theorem lco_a (hQ : 0 < eQ D E) : a_cost D E = lco D E (eQ D E) := by
  unfold a_cost lco bcost
  rw [if_neg (by omega), Nat.min_eq_right (by omega)]
  rfl
theorem ar {r : Nat} (hr : r < eQ D E) (w : Int) : a_row D E (r : Int) w = (if w = 0 then eF D E r else if w = 1 then eF D E (r + 1) - eF D E r else if w = 2 then vcl D (eF D E r) (eF D E (r + 1)) else if w = 3 then yG D E (eF D E r) (eF D E (r + 1)) else if w = 4 then yW D E (eF D E r) (eF D E (r + 1)) else if w = 5 then y0 D E (eF D E r) (eF D E (r + 1)) else if w = 6 then ylack E (yW D E (eF D E r) (eF D E (r + 1))) else if w = 7 then (if eF D E (r + 1) - eF D E r = 1 then -2 else yS D E (eF D E r) (eF D E (r + 1))) else if w = 8 then (if eF D E (r + 1) - eF D E r = 1 then -2 else yS D E (eF D E r) (eF D E (r + 1)) + (if 0 < yX D E (eF D E r) (eF D E (r + 1)) then 1 else 0)) else -1) := by
  unfold a_row
  rw [vif_t ⟨by omega, by omega⟩]
  unfold yf yt
  rw [Int.toNat_natCast]
end SM
