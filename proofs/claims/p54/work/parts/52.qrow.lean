/-! ===== questions about rows ===== -/
def yv (D : vD) (E : Int → Int) (row : Int) : Prop := 0 ≤ row ∧ row < (eQ D E : Int)
def yf (D : vD) (E : Int → Int) (row : Int) : Int := eF D E row.toNat
def yt (D : vD) (E : Int → Int) (row : Int) : Int := eF D E (row.toNat + 1)
theorem vm_w32_of {z : Int} (h : vm_32 z) : vm_w32 z = z := vm_ti h
section QR
variable {D : vD} {E : Int → Int} {m : vm_M}
theorem yv_ok (hO : OC D E) {row : Int} (h : yv D E row) : 0 ≤ yf D E row ∧ yf D E row < yt D E row ∧ yt D E row ≤ dN D ∧ row.toNat < 12 ∧ (row.toNat : Int) = row := by
  have hq := eQ_ok hO.1 hO.2.1 hO.2.2
  have h1 := hq.2.2.2.1 row.toNat (by have := h.2; have := h.1; omega)
  have h2 := h.1
  have h3 := h.2
  unfold yf yt
  omega
theorem vRx_of (hO : OC D E) (hL : vLd D E m) {row : Int} (h : yv D E row) : vRx D E (yf D E row) (yt D E row) row.toNat m := by
  have hq := eQ_ok hO.1 hO.2.1 hO.2.2
  have h2 := h.1
  have h3 := h.2
  have hr : row.toNat < eQ D E := by omega
  have e1 := hL.2.2.1.2 row.toNat (Nat.le_of_lt hr) (by unfold eQ at hr; omega)
  have e2 := hL.2.2.1.2 (row.toNat + 1) hr (by unfold eQ at hr; omega)
  rw [show ((row.toNat + 1 : Nat) : Int) = (row.toNat : Int) + 1 by omega] at e2
  have e3 := hL.2.2.2 row.toNat hr
  exact ⟨by omega, e1, e2, e3.1, e3.2⟩
theorem sx_hasRow {Q : Int → vm_M → Prop} (hL : vLd D E m) {row : Int} (h1 : yv D E row → Q 1 m) (h0 : ¬ yv D E row → Q 0 m) : vm_C 15 [vm_r 67, vm_i row] m (vm_qi Q) := by
  have e : m 67 8 = (eQ D E : Int) := hL.2.2.1.1
  refine ru1_hasRow_0 rfl ⟨fun c => h0 (fun k => by have := k.1; omega), fun c => ⟨fun c2 => h0 (fun k => by rw [e] at c2; have := k.2; omega), fun c2 => h1 ⟨by omega, by rw [e] at c2; omega⟩⟩⟩
/-- x has laid out: a row -/
theorem sx_rowq {Q : Int → vm_M → Prop} (hO : OC D E) (hX : XC D E m) {row : Int} (h1 : ∀ m', vfr vSX m m' → XC D E m' → vLd D E m' → yv D E row → Q 1 m') (h0 : ∀ m', vfr vSX m m' → XC D E m' → ¬ yv D E row → Q 0 m') : vm_C 137 [vm_r 0] m (vm_qv (fun m1 => vm_C 15 [vm_r 67, vm_i row] m1 (vm_qi Q))) :=
  sx_layOut hO hX (fun m' f x l _ => sx_hasRow l (fun k => h1 m' f x l k) (fun k => h0 m' f x k))
theorem s_letterAt (c : OC D E) (hX : XC D E m) {row i : Int} (hi : vm_32 i) {Q : Int → vm_M → Prop} (h : ∀ m', vfr vSX m m' → XC D E m' → Q (vif (yv D E row ∧ 0 ≤ i) (if i < vcl D (yf D E row) (yt D E row) then ya D (yf D E row) i else -2) (-1)) m') : vm_C 129 [vm_r 0, vm_i row, vm_i i] m (vm_qi Q) := by
  refine ru10_letterAt_0 (sx_rowq c hX (fun m' f x l k => ⟨fun z => by omega, fun _ => ⟨fun q => ?_, fun q => ?_⟩⟩) (fun m' f x k => ⟨fun _ => ?_, fun z => absurd rfl z⟩))
  · have h := h m' f x
    rw [vif_t ⟨k, q⟩] at h
    obtain ⟨a1, a2, a3, a4, a5⟩ := yv_ok c k
    have R := vRx_of c l k
    have := sx_spot (Q := fun z3 m3 => ((¬ z3 = (-1) →
              ((0 ≤ z3 ∧ z3 < 360)) ∧
              Q (m3 13 z3) m3) ∧ (¬ ¬ z3 = (-1) →
              Q (-2) m3))) c.2.1 x.2.1 R.1 a1 a2 a3 R.2.1 R.2.2.1 (i := i) ⟨q, hi.2⟩ (fun v => ?_) (fun v => ⟨fun z => absurd rfl z, fun _ => by rw [if_neg v] at h; exact h⟩)
    · rw [a5] at this; exact this
    · obtain ⟨b1, b2, b3, b4, b5⟩ := vlc_ok c.2.1 a1 a2 a3 q v
      have hl := c.2.1.2.2.2.1 (vlc D (yf D E row) i).1 (by omega) (by omega)
      have hN := c.2.1.2.2.1
      refine ⟨fun _ => ⟨by omega, ?_⟩, fun z => by omega⟩
      have e : m' 13 (12 * (vlc D (yf D E row) i).1 + (vlc D (yf D E row) i).2) = ya D (yf D E row) i := x.2.1.2.2.2 _ (by omega) (by omega) _ b3 b4
      rw [if_pos v] at h
      rw [e]; exact h
  · have h := h m' f x
    rw [vif_f (fun z => q z.2)] at h; exact h
  · have h := h m' f x
    rw [vif_f (fun z => k z.1)] at h; exact h
theorem s_place (c : OC D E) (hX : XC D E m) {row i : Int} (hi : vm_32 i) {Q : Int → vm_M → Prop} (h : ∀ m', vfr vSX m m' → XC D E m' → Q (vif (yv D E row ∧ 0 ≤ i) (if i < vcl D (yf D E row) (yt D E row) then ypl D E (yf D E row) (yt D E row) i + 1000 else -2) (-1)) m') : vm_C 130 [vm_r 0, vm_i row, vm_i i] m (vm_qi Q) := by
  refine ru10_place_0 (sx_rowq c hX (fun m' f x l k => ⟨fun z => by omega, fun _ => ⟨fun q => ?_, fun q => ?_⟩⟩) (fun m' f x k => ⟨fun _ => ?_, fun z => absurd rfl z⟩))
  · have h := h m' f x
    rw [vif_t ⟨k, q⟩] at h
    obtain ⟨a1, a2, a3, a4, a5⟩ := yv_ok c k
    have R := vRx_of c l k
    have := sx_spot (Q := fun z3 m3 => ((¬ z3 = (-1) →
              ((0 ≤ z3 ∧ z3 < 360) ∧ (vm_32 ((m3 83 z3) + 1000))) ∧
              Q ((m3 83 z3) + 1000) m3) ∧ (¬ ¬ z3 = (-1) →
              Q (-2) m3))) c.2.1 x.2.1 R.1 a1 a2 a3 R.2.1 R.2.2.1 (i := i) ⟨q, hi.2⟩ (fun v => ?_) (fun v => ⟨fun z => absurd rfl z, fun _ => by rw [if_neg v] at h; exact h⟩)
    · rw [a5] at this; exact this
    · obtain ⟨b1, b2, b3, b4, b5⟩ := vlc_ok c.2.1 a1 a2 a3 q v
      have hl := c.2.1.2.2.2.1 (vlc D (yf D E row) i).1 (by omega) (by omega)
      have hN := c.2.1.2.2.1
      have e : m' 83 (12 * (vlc D (yf D E row) i).1 + (vlc D (yf D E row) i).2) = ypl D E (yf D E row) (yt D E row) i := (R.2.2.2.2 _ b1 b2).1 _ b3 b4
      have hb := ypl_bd c.1 c.2.1 c.2.2 a1 a2 a3 q v
      rw [if_pos v] at h
      rw [e]
      exact ⟨fun _ => ⟨by omega, h⟩, fun z => by omega⟩
  · have h := h m' f x
    rw [vif_f (fun z => q z.2)] at h; exact h
  · have h := h m' f x
    rw [vif_f (fun z => k z.1)] at h; exact h
theorem s_gap (c : OC D E) (hX : XC D E m) {row i : Int} (hi : vm_32 i) {Q : Int → vm_M → Prop} (h : ∀ m', vfr vSX m m' → XC D E m' → Q (vif (yv D E row ∧ 0 ≤ i) (ygi D E (yf D E row) (yt D E row) i) (-1)) m') : vm_C 131 [vm_r 0, vm_i row, vm_i i] m (vm_qi Q) := by
  refine ru10_gap_0 (sx_rowq c hX (fun m' f x l k => ⟨fun z => by omega, fun _ => ⟨fun q => ?_, fun q => ?_⟩⟩) (fun m' f x k => ⟨fun _ => ?_, fun z => absurd rfl z⟩))
  · have h := h m' f x
    rw [vif_t ⟨k, q⟩] at h
    obtain ⟨a1, a2, a3, a4, a5⟩ := yv_ok c k
    have R := vRx_of c l k
    have := sx_gapB (Q := Q) c x.1 x.2.1 a1 a2 a3 R (i := i) ⟨q, hi.2⟩ h
    rw [a5] at this; exact this
  · have h := h m' f x
    rw [vif_f (fun z => q z.2)] at h; exact h
  · have h := h m' f x
    rw [vif_f (fun z => k z.1)] at h; exact h
theorem sx_lettersIn {Q : Int → vm_M → Prop} (hO : dOS D) (hS : dSx D m 9) {r : Nat} {f t : Int} (hr : r < 12) (hf : 0 ≤ f) (hft : f < t) (ht : t ≤ dN D) (h1 : m 70 r = f) (h2 : m 70 ((r : Int) + 1) = t) (h : Q (vcl D f t) m) : vm_C 41 [vm_r 77, vm_i r] m (vm_qi Q) := by
  have hN := hO.2.2.1
  have go : ∀ (n : Nat) (w : Int), f ≤ w → w + n = t → ku4_countLetters_5 9 f t (vcl D f w) w m Q := by
    intro n
    induction n with
    | zero =>
      intro w hw hn
      have hw : w = t := by omega
      subst hw
      exact ru4_countLetters_5 rfl ⟨fun _ => h, fun c => by omega⟩
    | succ n ih =>
      intro w hw hn
      have el : m 12 w = dL D w := hS.2.2.1 w (by omega) (by omega)
      have hl := hO.2.2.2.1 w (by omega) (by omega)
      have hb := vcl_bd2 hO hf hw (by omega)
      have i1 := ih (w + 1) (by omega) (by omega)
      rw [vcl_s (by omega)] at i1
      refine ru4_countLetters_5 rfl ⟨fun c => by omega, fun _ => ?_⟩
      have el : m (9 + 3) w = dL D w := el
      rw [el]
      exact ⟨by omega, i1⟩
  refine ru3_lettersIn_0 ⟨by omega, ?_⟩
  rw [h1, h2]
  have := go (t - f).toNat f (Int.le_refl _) (by omega)
  rw [vcl_f] at this
  exact ru4_countLetters_0 rfl this
noncomputable def yun (D : vD) (E : Int → Int) (f t : Int) : Nat → Int × Int
  | 0 => (-2, -2)
  | n + 1 => vif (yn D f t n) (if (yun D E f t n).1 = -2 then ygp D E f t n else if ygp D E f t n < (yun D E f t n).1 then ygp D E f t n else (yun D E f t n).1, if (yun D E f t n).2 < ygp D E f t n then ygp D E f t n else (yun D E f t n).2) (yun D E f t n)
theorem yun_bd (hD : dOA D) {f t : Int} : ∀ n, yun D E f t n = (-2, -2) ∨ (0 ≤ (yun D E f t n).1 ∧ (yun D E f t n).1 ≤ 30 ∧ 0 ≤ (yun D E f t n).2 ∧ (yun D E f t n).2 ≤ 30)
  | 0 => Or.inl rfl
  | n + 1 => by
    have i := yun_bd hD (f := f) (t := t) n
    have g := ygp_bd (E := E) hD (f := f) (t := t) (i := (n : Int))
    unfold yun
    by_cases hq : yn D f t n
    · rw [vif_t hq]
      right
      dsimp only
      rcases i with i | i
      · rw [i]; dsimp only; rw [if_pos rfl, if_pos (by omega)]; omega
      · repeat' split
        all_goals omega
    · rw [vif_f hq]; exact i
theorem s_uneven (c : OC D E) (hX : XC D E m) {row : Int} {Q : Int → vm_M → Prop} (h : ∀ m', vfr vSX m m' → XC D E m' → Q (vif (yv D E row) (if (yun D E (yf D E row) (yt D E row) (vcl D (yf D E row) (yt D E row)).toNat).1 = -2 then -2 else (yun D E (yf D E row) (yt D E row) (vcl D (yf D E row) (yt D E row)).toNat).2 - (yun D E (yf D E row) (yt D E row) (vcl D (yf D E row) (yt D E row)).toNat).1) (-1)) m') : vm_C 132 [vm_r 0, vm_i row] m (vm_qi Q) := by
  refine ru10_uneven_0 (sx_rowq c hX (fun m' f x l k => ⟨fun _ => ?_, fun z => by omega⟩) (fun m' f x k => ⟨fun z => absurd rfl z, fun _ => ?_⟩))
  · have h := h m' f x
    rw [vif_t k] at h
    obtain ⟨a1, a2, a3, a4, a5⟩ := yv_ok c k
    have R := vRx_of c l k
    have hcb := vcl_bd2 c.2.1 a1 (Int.le_of_lt a2) a3
    have this : vm_C 41 [vm_r 77, vm_i ((row.toNat : Nat) : Int)] m' (vm_qi (fun z3 m3 => ku10_uneven_36 row (-2) (-2) z3 0 none m3 Q)) := by
      refine sx_lettersIn c.2.1 x.2.1 R.1 a1 a2 a3 R.2.1 R.2.2.1 ?_
      generalize yf D E row = ff at *
      generalize yt D E row = tt at *
      have go : ∀ (n j : Nat) (w6 : Option vm_V), (j : Int) + n = vcl D ff tt → ku10_uneven_36 row (yun D E ff tt j).1 (yun D E ff tt j).2 (vcl D ff tt) j w6 m' Q := by
        intro n
        induction n with
        | zero =>
          intro j w6 hj
          have e : (vcl D ff tt).toNat = j := by omega
          have hb := yun_bd (E := E) c.1 (f := ff) (t := tt) j
          rw [e] at h
          refine ru10_uneven_36 ⟨fun _ => ⟨fun z => ⟨?_, by rw [if_neg z] at h; exact h⟩, fun z => by rw [if_pos (Classical.not_not.mp z)] at h; exact h⟩, fun z => by omega⟩
          rcases hb with hb | hb
          · rw [hb]; decide
          · omega
        | succ n ih =>
          intro j w6 hj
          have i1 := fun w6 => ih (j + 1) w6 (by omega)
          have hg := ygp_bd (E := E) c.1 (f := ff) (t := tt) (i := (j : Int))
          unfold yun at i1
          refine ru10_uneven_36 ⟨fun z => by omega, fun _ => ?_⟩
          have := sx_gapB (Q := fun z1 m1 => ((z1 = (-2) →
        ((vm_32 ((j : Int) + 1))) ∧
        ku10_uneven_36 row (yun D E ff tt j).1 (yun D E ff tt j).2 (vcl D ff tt) ((j : Int) + 1) (some (vm_i z1)) m1 Q) ∧ (¬ z1 = (-2) →
        ((¬ (yun D E ff tt j).1 = (-2) →
          ((vm_32 ((j : Int) + 1))) ∧
          ku10_uneven_36 row (if z1 < (yun D E ff tt j).1 then z1 else (yun D E ff tt j).1) (if (yun D E ff tt j).2 < z1 then z1 else (yun D E ff tt j).2) (vcl D ff tt) ((j : Int) + 1) (some (vm_i z1)) m1 Q) ∧ (¬ ¬ (yun D E ff tt j).1 = (-2) →
          ((vm_32 ((j : Int) + 1))) ∧
          ku10_uneven_36 row z1 (if (yun D E ff tt j).2 < z1 then z1 else (yun D E ff tt j).2) (vcl D ff tt) ((j : Int) + 1) (some (vm_i z1)) m1 Q))))) c x.1 x.2.1 a1 a2 a3 R (i := (j : Int)) ⟨by omega, by omega⟩ ?_
          · rw [a5] at this; exact this
          · unfold ygi
            by_cases hn : yn D ff tt j
            · rw [vif_t hn]
              have i2 := i1 (some (vm_i (ygp D E ff tt j)))
              rw [vif_t hn] at i2
              refine ⟨fun z => by omega, fun _ => ⟨fun z => ⟨by omega, ?_⟩, fun z => ⟨by omega, ?_⟩⟩⟩
              · rw [if_neg z] at i2; exact i2
              · rw [if_pos (Classical.not_not.mp z)] at i2; exact i2
            · rw [vif_f hn]
              have i2 := i1 (some (vm_i (-2)))
              rw [vif_f hn] at i2
              exact ⟨fun _ => ⟨by omega, i2⟩, fun z => absurd rfl z⟩
      exact go (vcl D ff tt).toNat 0 none (by omega)
    rw [a5] at this
    exact this
  · have h := h m' f x
    rw [vif_f k] at h; exact h
end QR
