/-! ===== pairs: the model's optical gap, distances ===== -/
theorem vcmp_lt {a b : Int} : (if a < b then (-1 : Int) else if a = b then 0 else 1) < 0 ↔ a < b := by
  repeat' split
  all_goals omega
theorem vcmp_gt {a b : Int} : 0 < (if a < b then (-1 : Int) else if a = b then 0 else 1) ↔ b < a := by
  repeat' split
  all_goals omega
theorem vcmp_ge {a b : Int} : 0 ≤ (if a < b then (-1 : Int) else if a = b then 0 else 1) ↔ b ≤ a := by
  repeat' split
  all_goals omega
theorem vcmp_le {a b : Int} : (if a < b then (-1 : Int) else if a = b then 0 else 1) ≤ 0 ↔ a ≤ b := by
  repeat' split
  all_goals omega
section XP2
variable {D : vD} {th : Nat} {m : vm_M}
theorem sx_knows {Q : Int → vm_M → Prop} (h_th : vm_is th 0 = true) (hA : dAx D m th) {a : Int} (h1 : dk D a → Q 1 m) (h0 : ¬ dk D a → Q 0 m) : vm_C 3 [vm_r th, vm_i a] m (vm_qi Q) := by
  refine ru0_knows_0 h_th ⟨fun c => h0 (fun k => ?_), fun c => ⟨fun c2 => h0 (fun k => ?_), fun c2 => ⟨by omega, fun c3 => h0 (fun k => ?_), fun c3 => h1 ⟨by omega, by omega, ?_⟩⟩⟩⟩
  · have := k.1; omega
  · have := k.2.1; omega
  · have := k.2.2; rw [hA.2.1 a (by omega) (by omega)] at c3; omega
  · rw [hA.2.1 a (by omega) (by omega)] at c3; omega
end XP2
/-- the least distance from d on, of n, at which the gap is reached -/
def vpd0 (og : Int → Int) (g : Int) : Nat → Int → Int
  | 0, d => d
  | n + 1, d => if g ≤ og d then d else vpd0 og g n (d + 1)
def vpd (D : vD) (a b g : Int) : Int := vpd0 (vog D a b) g 60 (-9)
theorem vpd0_ok {og : Int → Int} {g : Int} : ∀ (n : Nat) (d : Int) (e : Int), d ≤ e → e < d + n → g ≤ og e → d ≤ vpd0 og g n d ∧ vpd0 og g n d ≤ e ∧ g ≤ og (vpd0 og g n d) ∧ ∀ x, d ≤ x → x < vpd0 og g n d → og x < g
  | 0, d, e, h1, h2, _ => by omega
  | n + 1, d, e, h1, h2, h3 => by
    unfold vpd0
    by_cases hq : g ≤ og d
    · rw [if_pos hq]
      exact ⟨by omega, h1, hq, fun x hx1 hx2 => by omega⟩
    · rw [if_neg hq]
      have hne : d ≠ e := fun q => hq (by rw [q]; exact h3)
      obtain ⟨i1, i2, i3, i4⟩ := vpd0_ok n (d + 1) e (by omega) (by omega) h3
      refine ⟨by omega, i2, i3, fun x hx1 hx2 => ?_⟩
      by_cases hx : x = d
      · rw [hx]; omega
      · exact i4 x (by omega) hx2
theorem vog_cap {D : vD} (hD : dOA D) {a b : Int} (ha : dk D a) (hb : dk D b) : vog D a b (dC D) = dC D := by
  have h : vs (vbd D a b (dC D)) 6 = vs (fun _ => dC D) 6 := by
    refine vs_cg 6 (fun i h1 h2 => ?_)
    have hr := hD.2.2.2 a ha (6 + i) (by omega) (by omega)
    have hl := hD.2.2.2 b hb i (by omega) (by omega)
    have hC := hD.1
    unfold vbd
    generalize dS D (12 * a + (6 + i)) = r at *
    generalize dS D (12 * b + i) = l at *
    unfold vband
    repeat' split
    all_goals omega
  unfold vog
  rw [h]
  simp only [vs]
  omega
theorem vpd_ok {D : vD} (hD : dOA D) {a b g : Int} (ha : dk D a) (hb : dk D b) (hg : g ≤ dC D) : -9 ≤ vpd D a b g ∧ vpd D a b g ≤ dC D ∧ g ≤ vog D a b (vpd D a b g) ∧ ∀ x, -9 ≤ x → x < vpd D a b g → vog D a b x < g := by
  have h1 := hD.1
  have h2 := hD.2.1
  exact vpd0_ok 60 (-9) (dC D) (by omega) (by omega) (by rw [vog_cap hD ha hb]; exact hg)
/-- with its correction -/
def vcd1 (p k : Int) : Int := if -9 ≤ p + k then p + k else -9
def vcd (D : vD) (a b g : Int) : Int := vcd1 (vpd D a b g) (dK D (26 * a + b))
section XP3
variable {D : vD} {th : Nat} {m : vm_M}
theorem sx_free4 {Q : Int → vm_M → Prop} (h_th : vm_is th 0 = true) (hD : dOA D) (hA : dAx D m th) {a b g d0 : Int} (ha : dk D a) (hb : dk D b) (hg : g ≤ dC D) (h : Q (vpd D a b g) m) : ∀ (n : Nat) (d : Int), -9 ≤ d → d + n = vpd D a b g → ku0_freeDistance_4 th a b g d0 d m Q := by
  have hC0 := hD.1
  have hC := hD.2.1
  obtain ⟨p1, p2, p3, p4⟩ := vpd_ok hD ha hb hg
  intro n
  induction n with
  | zero =>
    intro d hd he
    have he : d = vpd D a b g := by omega
    subst he
    refine ru0_freeDistance_4 h_th ⟨fun _ => h, fun c => sx_og h_th hD hA ha hb (by omega) ⟨fun _ => h, fun c2 => absurd p3 c2⟩⟩
  | succ n ih =>
    intro d hd he
    have h5 := p4 d hd (by omega)
    refine ru0_freeDistance_4 h_th ⟨fun c => by rw [hA.1] at c; omega, fun c => sx_og h_th hD hA ha hb (by omega) ⟨fun c2 => by omega, fun c2 => ⟨by omega, ih (d + 1) (by omega) (by omega)⟩⟩⟩
theorem sx_free {Q : Int → vm_M → Prop} (h_th : vm_is th 0 = true) (hD : dOA D) (hA : dAx D m th) {a b g d0 : Int} (ha : dk D a) (hb : dk D b) (hg : g ≤ dC D) (hd : -9 ≤ d0 ∧ d0 ≤ vpd D a b g) (h : Q (vpd D a b g) m) : vm_C 11 [vm_r th, vm_i a, vm_i b, vm_i g, vm_i d0] m (vm_qi Q) :=
  ru0_freeDistance_0 h_th (sx_free4 h_th hD hA ha hb hg h (vpd D a b g - d0).toNat d0 hd.1 (by omega))
end XP3
