/-! ===== letters of a row ===== -/
def vloc (D : vD) : Nat → Int → Int → Int × Int
  | 0, w, i => (w, i)
  | n + 1, w, i => if i < dL D w then (w, i) else vloc D n (w + 1) (i - dL D w)
def vlc (D : vD) (f i : Int) : Int × Int := vloc D 30 f i
theorem vloc_ok {D : vD} {f t : Int} (hf : 0 ≤ f) : ∀ (n : Nat) (w l : Int), f ≤ w → w ≤ t → t - w ≤ n → 0 ≤ l → l + vcl D f w < vcl D f t → f ≤ (vloc D n w l).1 ∧ (vloc D n w l).1 < t ∧ 0 ≤ (vloc D n w l).2 ∧ (vloc D n w l).2 < dL D (vloc D n w l).1 ∧ l + vcl D f w = vcl D f (vloc D n w l).1 + (vloc D n w l).2
  | 0, w, l, h1, h2, h3, h4, h5 => by
    have : w = t := by omega
    subst this
    omega
  | n + 1, w, l, h1, h2, h3, h4, h5 => by
    unfold vloc
    by_cases hq : l < dL D w
    · rw [if_pos hq]
      have hwt : w ≠ t := fun q => by rw [q] at h5; omega
      show f ≤ w ∧ w < t ∧ 0 ≤ l ∧ l < dL D w ∧ l + vcl D f w = vcl D f w + l
      exact ⟨h1, by omega, h4, hq, by omega⟩
    · rw [if_neg hq]
      have hwt : w ≠ t := fun q => by rw [q] at h5; omega
      have hs := vcl_s (D := D) (f := f) (w := w) (by omega)
      have := vloc_ok (D := D) (f := f) (t := t) hf n (w + 1) (l - dL D w) (by omega) (by omega) (by omega) (by omega) (by omega)
      omega
section RL
variable {D : vD} {E : Int → Int} {m : vm_M}
theorem vlc_ok (hO : dOS D) {f t i : Int} (hf : 0 ≤ f) (hft : f < t) (ht : t ≤ dN D) (hi : 0 ≤ i) (h : i < vcl D f t) : f ≤ (vlc D f i).1 ∧ (vlc D f i).1 < t ∧ 0 ≤ (vlc D f i).2 ∧ (vlc D f i).2 < dL D (vlc D f i).1 ∧ i = vcl D f (vlc D f i).1 + (vlc D f i).2 := by
  have h3 := hO.2.2.1
  have := vloc_ok (D := D) (f := f) (t := t) hf 30 f i (Int.le_refl _) (by omega) (by omega) hi (by rw [vcl_f]; omega)
  rw [vcl_f, Int.add_zero] at this
  exact this
/-- has letter i a next one in its word -/
def yn (D : vD) (f t i : Int) : Prop := i < vcl D f t ∧ (vlc D f i).2 + 1 < dL D (vlc D f i).1
/-- the letter, the next one, their distance -/
def ya (D : vD) (f i : Int) : Int := dP D (12 * (vlc D f i).1 + (vlc D f i).2)
def yb (D : vD) (f i : Int) : Int := dP D (12 * (vlc D f i).1 + ((vlc D f i).2 + 1))
def ydi (D : vD) (E : Int → Int) (f t i : Int) : Int := yd D (yG D E f t) (vlc D f i).1 (vlc D f i).2
def ygp (D : vD) (E : Int → Int) (f t i : Int) : Int := vog D (ya D f i) (yb D f i) (ydi D E f t i)
noncomputable def ygi (D : vD) (E : Int → Int) (f t i : Int) : Int := vif (yn D f t i) (ygp D E f t i) (-2)
def ypl (D : vD) (E : Int → Int) (f t i : Int) : Int := yp D E f t (vlc D f i).1 + yq D E (yG D E f t) (vlc D f i).1 (vlc D f i).2
def yop (D : vD) (f i b : Int) : Prop := dS D (12 * ya D f i + (6 * 1 + b)) = -1 ∨ dS D (12 * yb D f i + (6 * 0 + b)) = -1
def ywh (D : vD) (E : Int → Int) (f t i b : Int) : Int := dS D (12 * ya D f i + (6 * 1 + b)) + dS D (12 * yb D f i + (6 * 0 + b)) + ydi D E f t i
theorem ya_ok (hO : dOS D) {f t i : Int} (hf : 0 ≤ f) (hft : f < t) (ht : t ≤ dN D) (hi : 0 ≤ i) (h : i < vcl D f t) : dk D (ya D f i) := by
  have h1 := vlc_ok hO hf hft ht hi h
  exact hO.2.2.2.2 _ (by omega) (by omega) _ h1.2.2.1 h1.2.2.2.1
theorem yb_ok (hO : dOS D) {f t i : Int} (hf : 0 ≤ f) (hft : f < t) (ht : t ≤ dN D) (hi : 0 ≤ i) (h : yn D f t i) : dk D (yb D f i) := by
  have h1 := vlc_ok hO hf hft ht hi h.1
  have h2 := h.2
  exact hO.2.2.2.2 _ (by omega) (by omega) _ (by omega) h2
theorem ydi_bd (hD : dOA D) (hO : dOS D) (hE : dOE D E) {f t i : Int} (hf : 0 ≤ f) (hft : f < t) (ht : t ≤ dN D) (hi : 0 ≤ i) (h : yn D f t i) : -9 ≤ ydi D E f t i ∧ ydi D E f t i ≤ 39 := by
  have h1 := vlc_ok hO hf hft ht hi h.1
  exact yd_bd hD hO ⟨by omega, by omega⟩ ⟨h1.2.2.1, h.2⟩ (yG_bd hD hE).2
theorem ygp_bd (hD : dOA D) {f t i : Int} : 0 ≤ ygp D E f t i ∧ ygp D E f t i ≤ 30 := by
  have h := vbd_bd hD (a := ya D f i) (b := yb D f i) (d := ydi D E f t i) 6 (Nat.le_refl _)
  unfold ygp vog
  omega
theorem ywh_bd (hD : dOA D) (hO : dOS D) (hE : dOE D E) {f t i b : Int} (hf : 0 ≤ f) (hft : f < t) (ht : t ≤ dN D) (hi : 0 ≤ i) (h : yn D f t i) (hb : 0 ≤ b ∧ b < 6) : -11 ≤ ywh D E f t i b ∧ ywh D E f t i b ≤ 57 := by
  have h1 := hD.2.2.2 _ (ya_ok hO hf hft ht hi h.1) (6 * 1 + b) (by omega) (by omega)
  have h2 := hD.2.2.2 _ (yb_ok hO hf hft ht hi h) (6 * 0 + b) (by omega) (by omega)
  have h3 := ydi_bd hD hO hE hf hft ht hi h
  unfold ywh
  omega
theorem sx_spot {Q : Int → vm_M → Prop} (hO : dOS D) (hS : dSx D m 9) {r : Nat} {f t i : Int} (hr : r < 12) (hf : 0 ≤ f) (hft : f < t) (ht : t ≤ dN D) (h1 : m 70 r = f) (h2 : m 70 ((r : Int) + 1) = t) (hi : 0 ≤ i ∧ i ≤ 2147483647) (h : i < vcl D f t → Q (12 * (vlc D f i).1 + (vlc D f i).2) m) (h0 : ¬ i < vcl D f t → Q (-1) m) : vm_C 43 [vm_r 77, vm_i r, vm_i i] m (vm_qi Q) := by
  have hN := hO.2.2.1
  have go : ∀ (n : Nat) (w l : Int), f ≤ w → w + n = t → 0 ≤ l → l + vcl D f w = i → (∀ k : Nat, n ≤ k → k ≤ 30 → k + (w - f) = 30 → vloc D k w l = vlc D f i) → ku3_spotOf_13 r i l w m Q := by
    intro n
    induction n with
    | zero =>
      intro w l hw hn hl hi2 _
      have hw : w = t := by omega
      subst hw
      refine ru3_spotOf_13 ⟨by omega, fun _ => h0 (by omega), fun c => by rw [h2] at c; omega⟩
    | succ n ih =>
      intro w l hw hn hl hi2 hv
      have hlen := hO.2.2.2.1 w (by omega) (by omega)
      have el : m 12 w = dL D w := hS.2.2.1 w (by omega) (by omega)
      have hcs := vcl_s (D := D) (f := f) (w := w) (by omega)
      have hcb := vcl_bd2 hO hf hw (show w ≤ dN D by omega)
      have hcm := vcl_mono hO hf (show f ≤ w + 1 by omega) (show w + 1 ≤ t by omega) ht
      obtain ⟨k, hk⟩ : ∃ k : Nat, (k : Int) + 1 + (w - f) = 30 := ⟨(29 - (w - f)).toNat, by omega⟩
      have hvk := hv (k + 1) (by omega) (by omega) (by omega)
      have hvk' : (if l < dL D w then (w, l) else vloc D k (w + 1) (l - dL D w)) = vlc D f i := hvk
      refine ru3_spotOf_13 ⟨by omega, fun c => by rw [h2] at c; omega, fun _ => ⟨by omega, ?_⟩⟩
      rw [el]
      refine ⟨fun c => ⟨by omega, ih (w + 1) (l - dL D w) (by omega) (by omega) (by omega) (by omega) (fun k2 a b c2 => ?_)⟩, fun c => ⟨by omega, ?_⟩⟩
      · rw [if_neg (by omega)] at hvk'
        rw [show k2 = k by omega]
        exact hvk'
      · rw [if_pos (by omega)] at hvk'
        have := h (by omega)
        rw [← hvk'] at this
        rw [show w * 12 + l = 12 * w + l by omega]
        exact this
  refine ru3_spotOf_0 ⟨by omega, ?_⟩
  rw [h1]
  refine go (t - f).toNat f i (Int.le_refl _) (by omega) hi.1 (by rw [vcl_f]; omega) (fun k a b c => ?_)
  rw [show k = 30 by omega]
  rfl
/-- what x keeps of a row -/
def vRx (D : vD) (E : Int → Int) (f t : Int) (r : Nat) (m : vm_M) : Prop := r < 12 ∧ m 70 r = f ∧ m 70 ((r : Int) + 1) = t ∧ vRr D E f t r m ∧ vRp D E f t m
theorem sx_next {Q : Int → vm_M → Prop} (hO : dOS D) (hS : dSx D m 9) {w k : Int} (hw : 0 ≤ w ∧ w < dN D) (hk : 0 ≤ k ∧ k < dL D w) (h1 : k + 1 < dL D w → Q 1 m) (h0 : ¬ k + 1 < dL D w → Q 0 m) : vm_C 44 [vm_r 77, vm_i (12 * w + k)] m (vm_qi Q) := by
  have hN := hO.2.2.1
  have hlen := hO.2.2.2.1 w hw.1 hw.2
  have el : m 12 w = dL D w := hS.2.2.1 w hw.1 hw.2
  have e1 : (12 * w + k) / 12 = w := by omega
  have e2 : (12 * w + k) % 12 = k := by omega
  refine ru3_hasNext_0 ?_
  rw [e1, e2, el]
  exact ⟨⟨⟨by omega, by decide⟩, by omega, ⟨by omega, by decide⟩, by omega⟩, fun c => h0 (by omega), fun c => h1 (by omega)⟩
theorem sx_gapB {Q : Int → vm_M → Prop} (hO : OC D E) (hA : dAx D m 3) (hS : dSx D m 9) {r : Nat} {f t i : Int} (hf : 0 ≤ f) (hft : f < t) (ht : t ≤ dN D) (hR : vRx D E f t r m) (hi : 0 ≤ i ∧ i ≤ 2147483647) (h : Q (ygi D E f t i) m) : vm_C 45 [vm_r 77, vm_i r, vm_i i] m (vm_qi Q) := by
  obtain ⟨hD, hOS, hE⟩ := hO
  have hN := hOS.2.2.1
  refine ru3_gapBehind_0 (sx_spot hOS hS hR.1 hf hft ht hR.2.1 hR.2.2.1 hi (fun q => ?_) (fun q => ⟨fun _ => ?_, fun c => absurd rfl c⟩))
  · obtain ⟨a1, a2, a3, a4, a5⟩ := vlc_ok hOS hf hft ht hi.1 q
    have hl := hOS.2.2.2.1 (vlc D f i).1 (by omega) (by omega)
    refine ⟨fun c => by omega, fun _ => sx_next hOS hS ⟨by omega, by omega⟩ ⟨a3, a4⟩ (fun n => ⟨fun _ => ⟨by omega, ?_⟩, fun c => by omega⟩) (fun n => ⟨fun c => absurd rfl c, fun _ => ?_⟩)⟩
    · have hn : yn D f t i := ⟨q, n⟩
      have e1 : m 13 (12 * (vlc D f i).1 + (vlc D f i).2) = ya D f i := hS.2.2.2 _ (by omega) (by omega) _ a3 a4
      have e2 : m 13 (12 * (vlc D f i).1 + (vlc D f i).2 + 1) = yb D f i := by
        rw [Int.add_assoc]; exact hS.2.2.2 _ (by omega) (by omega) _ (by omega) n
      have e3 : m 84 (12 * (vlc D f i).1 + (vlc D f i).2) = ydi D E f t i := (hR.2.2.2.2 _ a1 a2).2 _ a3 n
      have hb := ydi_bd hD hOS hE hf hft ht hi.1 hn
      rw [e1, e2, e3]
      unfold ygi at h
      rw [vif_t hn] at h
      exact sx_og rfl hD hA (ya_ok hOS hf hft ht hi.1 q) (yb_ok hOS hf hft ht hi.1 hn) ⟨by omega, by omega⟩ h
    · unfold ygi at h
      rw [vif_f (fun k => n k.2)] at h; exact h
  · unfold ygi at h
    rw [vif_f (fun k => q k.1)] at h; exact h
/-- does letter i touch the next one -/
def ytc (D : vD) (E : Int → Int) (f t i : Int) : Prop := yn D f t i ∧ ∃ b, 0 ≤ b ∧ b < 6 ∧ ¬ yop D f i b ∧ ywh D E f t i b ≤ 0
/-- does letter i hold place x -/
def yho (D : vD) (E : Int → Int) (f t i x : Int) : Prop := ypl D E f t i ≤ x ∧ x < ypl D E f t i + dW D (ya D f i) * E 5
theorem yz_bd (hD : dOA D) (hE : dOE D E) {a : Int} (ha : dk D a) : 1 ≤ dW D a * E 5 ∧ dW D a * E 5 ≤ 540 := by
  have h1 := hD.2.2.1 a ha.1 ha.2.1
  have h2 := ha.2.2
  have h3 := hE.2.2.2.2.2.1
  have a := vmul_bd (a := dW D a) (b := E 5) (A := 60) (B := 9) ⟨by omega, by omega⟩ ⟨by omega, h3.2⟩
  have b : 1 * 1 ≤ dW D _ * E 5 := Int.mul_le_mul h2 h3.1 (by decide) (by omega)
  omega
theorem ypl_bd (hD : dOA D) (hO : dOS D) (hE : dOE D E) {f t i : Int} (hf : 0 ≤ f) (hft : f < t) (ht : t ≤ dN D) (hi : 0 ≤ i) (hv : i < vcl D f t) : -972 ≤ ypl D E f t i ∧ ypl D E f t i ≤ 800000 := by
  obtain ⟨a1, a2, a3, a4, a5⟩ := vlc_ok hO hf hft ht hi hv
  have h1 := yp_bd2 hD hO hE hf hft ht (w := (vlc D f i).1) ⟨a1, by omega⟩
  have h2 := yq_bd hD hO hE (w := (vlc D f i).1) ⟨by omega, by omega⟩ (yG_bd (f := f) (t := t) hD hE).2 (k := (vlc D f i).2) ⟨a3, a4⟩
  unfold ypl
  omega
/-! the model's letters -/
end RL
