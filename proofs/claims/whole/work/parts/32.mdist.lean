/-! ===== pairs: the model's optical gap, distances ===== -/
theorem vcmp_lt {a b : Int} : (if a < b then (-1 : Int) else if a = b then 0 else 1) < 0 ↔ a < b := by
  repeat' split
  all_goals omega
theorem vcmp_gt {a b : Int} : 0 < (if a < b then (-1 : Int) else if a = b then 0 else 1) ↔ b < a := by
  repeat' split
  all_goals omega
theorem vcmp_ge {a b : Int} : 0 ≤ (if a < b then (-1 : Int) else if a = b then 0 else 1) ↔ b ≤ a := by
  repeat' split
  all_goals omega
theorem vcmp_le {a b : Int} : (if a < b then (-1 : Int) else if a = b then 0 else 1) ≤ 0 ↔ a ≤ b := by
  repeat' split
  all_goals omega
theorem sm_in {m : vm_M} {Q : Int → vm_M → Prop} {v lo hi : Int} (h1 : lo ≤ v ∧ v ≤ hi → Q 1 m) (h0 : ¬ (lo ≤ v ∧ v ≤ hi) → Q 0 m) : vm_C 164 [vm_l v, vm_l lo, vm_l hi] m (vm_qi Q) := by
  refine ru11_in_0 ⟨fun c => ?_, fun c => ⟨fun c2 => ?_, fun c2 => ?_⟩⟩
  · rw [vcmp_lt] at c; exact h0 (by omega)
  · rw [vcmp_lt] at c; rw [vcmp_gt] at c2; exact h0 (by omega)
  · rw [vcmp_lt] at c; rw [vcmp_gt] at c2; exact h1 (by omega)
section XP2
variable {D : vD} {th : Nat} {m : vm_M}
theorem sx_knows {Q : Int → vm_M → Prop} (h_th : vm_is th 0 = true) (hA : dAx D m th) {a : Int} (h1 : dk D a → Q 1 m) (h0 : ¬ dk D a → Q 0 m) : vm_C 3 [vm_r th, vm_i a] m (vm_qi Q) := by
  refine ru0_knows_0 h_th ⟨fun c => h0 (fun k => ?_), fun c => ⟨fun c2 => h0 (fun k => ?_), fun c2 => ⟨by omega, fun c3 => h0 (fun k => ?_), fun c3 => h1 ⟨by omega, by omega, ?_⟩⟩⟩⟩
  · have := k.1; omega
  · have := k.2.1; omega
  · have := k.2.2; rw [hA.2.1 a (by omega) (by omega)] at c3; omega
  · rw [hA.2.1 a (by omega) (by omega)] at c3; omega
theorem sm_isLetter {Q : Int → vm_M → Prop} (hA : dAm D m) {a : Int} (h1 : dk D a → Q 1 m) (h0 : ¬ dk D a → Q 0 m) : vm_C 165 [vm_r 96, vm_i a] m (vm_qi Q) := by
  refine ru11_isLetter_0 (sm_in (fun c => ?_) (fun c => ?_))
  · refine ⟨fun q => absurd q (by decide), fun _ => ⟨fun c2 => h0 (fun k => ?_), fun c2 => h1 ⟨by omega, by omega, ?_⟩⟩⟩
    · exact c2 ((hA.2.1 a (by omega) (by omega)).mpr k.2.2)
    · exact (hA.2.1 a (by omega) (by omega)).mp (Classical.not_not.mp c2)
  · exact ⟨fun _ => h0 (fun k => c ⟨k.1, by have := k.2.1; omega⟩), fun q => absurd rfl q⟩
theorem sm_inset {Q : Int → vm_M → Prop} {a s i : Int} (ha : 0 ≤ a ∧ a < 26) (hs : s = 0 ∨ s = 1) (hi : 0 ≤ i ∧ i < 6) (h : Q (m 99 (12 * a + (6 * s + i))) m) : vm_C 166 [vm_r 96, vm_i a, vm_i s, vm_i i] m (vm_qi Q) := by
  refine ru11_insetOf_0 ⟨by omega, ?_⟩
  rw [show 12 * a + 6 * s + i = 12 * a + (6 * s + i) by omega]; exact h
theorem sm_inBand {Q : Int → vm_M → Prop} (hD : dOA D) (hA : dAm D m) {a b d : Int} (ha : dk D a) (hb : dk D b) (hd : -1000 ≤ d ∧ d ≤ 1000) {i : Int} (hi : 0 ≤ i ∧ i < 6) (h : Q (vbd D a b d i) m) : vm_C 170 [vm_r 96, vm_i a, vm_i b, vm_i d, vm_i i] m (vm_qi Q) := by
  have hC0 := hD.1
  have hC := hD.2.1
  have hr := hD.2.2.2 a ha (6 + i) (by omega) (by omega)
  have hl := hD.2.2.2 b hb i (by omega) (by omega)
  have er := hA.2.2.2 a ha (6 + i) (by omega) (by omega)
  have el := hA.2.2.2 b hb i (by omega) (by omega)
  refine ru11_inBand_0 (sm_inset ⟨ha.1, ha.2.1⟩ (Or.inr rfl) hi (sm_inset ⟨hb.1, hb.2.1⟩ (Or.inl rfl) hi ?_))
  rw [show (6 * (1 : Int) + i) = 6 + i by omega, show (6 * (0 : Int) + i) = i by omega, er, el, hA.1]
  unfold vbd at h
  generalize dS D (12 * a + (6 + i)) = r at *
  generalize dS D (12 * b + i) = l at *
  unfold vband at h
  refine ⟨by omega, fun c => ?_, fun c => ⟨fun c2 => ?_, fun c2 => ⟨fun c3 => ⟨fun c4 => ?_, fun c4 => ?_⟩, fun c3 => ?_⟩⟩⟩
  · rw [if_pos (Or.inl c)] at h; exact h
  · rw [if_pos (Or.inr c2)] at h; exact h
  · rw [if_neg (by omega), if_neg (by omega), if_neg (by omega)] at h; exact h
  · rw [if_neg (by omega), if_neg (by omega), if_pos (by omega)] at h; exact h
  · rw [if_neg (by omega), if_pos (by omega)] at h; exact h
theorem sm_og6 {Q : Int → vm_M → Prop} (hD : dOA D) (hA : dAm D m) {a b d : Int} (ha : dk D a) (hb : dk D b) (hd : -1000 ≤ d ∧ d ≤ 1000) (h : Q (vog D a b d) m) : ∀ (n j : Nat), j + n = 6 → ku11_opticalGap_6 a b d (vs (vbd D a b d) j) j m Q := by
  intro n
  induction n with
  | zero =>
    intro j hj
    have hb := vbd_bd hD (a := a) (b := b) (d := d) j (by omega)
    refine ru11_opticalGap_6 ⟨fun _ => ⟨⟨hb.1, by decide⟩, ?_⟩, fun c => absurd (show (6 : Int) ≤ (j : Int) by omega) c⟩
    rw [show j = 6 by omega]
    exact h
  | succ n ih =>
    intro j hj
    have h1 := vbd_bd hD (a := a) (b := b) (d := d) j (by omega)
    have h2 := vband_bd (C := dC D) (r := dS D (12 * a + (6 + (j : Int)))) (l := dS D (12 * b + (j : Int))) (d := d) hD.1
    have hC := hD.2.1
    refine ru11_opticalGap_6 ⟨fun c => absurd c (by omega), fun _ => sm_inBand hD hA ha hb hd (by omega) ⟨?_, ih (j + 1) (by omega)⟩⟩
    unfold vbd at h1 ⊢
    omega
theorem sm_og {Q : Int → vm_M → Prop} (hD : dOA D) (hA : dAm D m) {a b d : Int} (ha : dk D a) (hb : dk D b) (hd : -1000 ≤ d ∧ d ≤ 1000) (h : Q (vog D a b d) m) : vm_C 171 [vm_r 96, vm_i a, vm_i b, vm_i d] m (vm_qi Q) :=
  ru11_opticalGap_0 (sm_og6 hD hA ha hb hd h 6 0 rfl)
end XP2
/-- the least distance from d on, of n, at which the gap is reached -/
def vpd0 (og : Int → Int) (g : Int) : Nat → Int → Int
  | 0, d => d
  | n + 1, d => if g ≤ og d then d else vpd0 og g n (d + 1)
def vpd (D : vD) (a b g : Int) : Int := vpd0 (vog D a b) g 60 (-9)
theorem vpd0_ok {og : Int → Int} {g : Int} : ∀ (n : Nat) (d : Int) (e : Int), d ≤ e → e < d + n → g ≤ og e → d ≤ vpd0 og g n d ∧ vpd0 og g n d ≤ e ∧ g ≤ og (vpd0 og g n d) ∧ ∀ x, d ≤ x → x < vpd0 og g n d → og x < g
  | 0, d, e, h1, h2, _ => by omega
  | n + 1, d, e, h1, h2, h3 => by
    unfold vpd0
    by_cases hq : g ≤ og d
    · rw [if_pos hq]
      exact ⟨by omega, h1, hq, fun x hx1 hx2 => by omega⟩
    · rw [if_neg hq]
      have hne : d ≠ e := fun q => hq (by rw [q]; exact h3)
      obtain ⟨i1, i2, i3, i4⟩ := vpd0_ok n (d + 1) e (by omega) (by omega) h3
      refine ⟨by omega, i2, i3, fun x hx1 hx2 => ?_⟩
      by_cases hx : x = d
      · rw [hx]; omega
      · exact i4 x (by omega) hx2
theorem vog_cap {D : vD} (hD : dOA D) {a b : Int} (ha : dk D a) (hb : dk D b) : vog D a b (dC D) = dC D := by
  have h : vs (vbd D a b (dC D)) 6 = vs (fun _ => dC D) 6 := by
    refine vs_cg 6 (fun i h1 h2 => ?_)
    have hr := hD.2.2.2 a ha (6 + i) (by omega) (by omega)
    have hl := hD.2.2.2 b hb i (by omega) (by omega)
    have hC := hD.1
    unfold vbd
    generalize dS D (12 * a + (6 + i)) = r at *
    generalize dS D (12 * b + i) = l at *
    unfold vband
    repeat' split
    all_goals omega
  unfold vog
  rw [h]
  simp only [vs]
  omega
theorem vpd_ok {D : vD} (hD : dOA D) {a b g : Int} (ha : dk D a) (hb : dk D b) (hg : g ≤ dC D) : -9 ≤ vpd D a b g ∧ vpd D a b g ≤ dC D ∧ g ≤ vog D a b (vpd D a b g) ∧ ∀ x, -9 ≤ x → x < vpd D a b g → vog D a b x < g := by
  have h1 := hD.1
  have h2 := hD.2.1
  exact vpd0_ok 60 (-9) (dC D) (by omega) (by omega) (by rw [vog_cap hD ha hb]; exact hg)
/-- with its correction -/
def vcd1 (p k : Int) : Int := if -9 ≤ p + k then p + k else -9
def vcd (D : vD) (a b g : Int) : Int := vcd1 (vpd D a b g) (dK D (26 * a + b))
section XP3
variable {D : vD} {th : Nat} {m : vm_M}
theorem sx_free4 {Q : Int → vm_M → Prop} (h_th : vm_is th 0 = true) (hD : dOA D) (hA : dAx D m th) {a b g d0 : Int} (ha : dk D a) (hb : dk D b) (hg : g ≤ dC D) (h : Q (vpd D a b g) m) : ∀ (n : Nat) (d : Int), -9 ≤ d → d + n = vpd D a b g → ku0_freeDistance_4 th a b g d0 d m Q := by
  have hC0 := hD.1
  have hC := hD.2.1
  obtain ⟨p1, p2, p3, p4⟩ := vpd_ok hD ha hb hg
  intro n
  induction n with
  | zero =>
    intro d hd he
    have he : d = vpd D a b g := by omega
    subst he
    refine ru0_freeDistance_4 h_th ⟨fun _ => h, fun c => sx_og h_th hD hA ha hb (by omega) ⟨fun _ => h, fun c2 => absurd p3 c2⟩⟩
  | succ n ih =>
    intro d hd he
    have h5 := p4 d hd (by omega)
    refine ru0_freeDistance_4 h_th ⟨fun c => by rw [hA.1] at c; omega, fun c => sx_og h_th hD hA ha hb (by omega) ⟨fun c2 => by omega, fun c2 => ⟨by omega, ih (d + 1) (by omega) (by omega)⟩⟩⟩
theorem sx_free {Q : Int → vm_M → Prop} (h_th : vm_is th 0 = true) (hD : dOA D) (hA : dAx D m th) {a b g d0 : Int} (ha : dk D a) (hb : dk D b) (hg : g ≤ dC D) (hd : -9 ≤ d0 ∧ d0 ≤ vpd D a b g) (h : Q (vpd D a b g) m) : vm_C 11 [vm_r th, vm_i a, vm_i b, vm_i g, vm_i d0] m (vm_qi Q) :=
  ru0_freeDistance_0 h_th (sx_free4 h_th hD hA ha hb hg h (vpd D a b g - d0).toNat d0 hd.1 (by omega))
theorem sm_plain4 {Q : Int → vm_M → Prop} (hD : dOA D) (hA : dAm D m) {a b g : Int} (ha : dk D a) (hb : dk D b) (hg : g ≤ dC D) (h : Q (vpd D a b g) m) : ∀ (n : Nat) (d : Int), -9 ≤ d → d + n = vpd D a b g → ku11_plainDistance_4 a b g d m Q := by
  have hC0 := hD.1
  have hC := hD.2.1
  obtain ⟨p1, p2, p3, p4⟩ := vpd_ok hD ha hb hg
  intro n
  induction n with
  | zero =>
    intro d hd he
    have he : d = vpd D a b g := by omega
    subst he
    refine ru11_plainDistance_4 (sm_og hD hA ha hb (by omega) ⟨fun _ => h, fun c2 => absurd p3 c2⟩)
  | succ n ih =>
    intro d hd he
    have h5 := p4 d hd (by omega)
    refine ru11_plainDistance_4 (sm_og hD hA ha hb (by omega) ⟨fun c2 => by omega, fun c2 => ⟨by omega, ih (d + 1) (by omega) (by omega)⟩⟩)
theorem sm_plain {Q : Int → vm_M → Prop} (hD : dOA D) (hA : dAm D m) {a b g : Int} (ha : dk D a) (hb : dk D b) (hg : g ≤ dC D) (h : Q (vpd D a b g) m) : vm_C 173 [vm_r 96, vm_i a, vm_i b, vm_i g] m (vm_qi Q) := by
  have h1 := vpd_ok hD ha hb hg
  exact ru11_plainDistance_0 (sm_plain4 hD hA ha hb hg h (vpd D a b g + 9).toNat (-9) (by omega) (by omega))
theorem sm_distW {Q : Int → vm_M → Prop} (hD : dOA D) (hA : dAm D m) {a b g k : Int} (ha : dk D a) (hb : dk D b) (hg : g ≤ dC D) (hk : -9 ≤ k ∧ k ≤ 9) (h : Q (vcd1 (vpd D a b g) k) m) : vm_C 174 [vm_r 96, vm_i a, vm_i b, vm_i g, vm_i k] m (vm_qi Q) := by
  have h1 := vpd_ok hD ha hb hg
  have h2 := hD.2.1
  unfold vcd1 at h
  refine ru11_distanceWith_0 (sm_plain hD hA ha hb hg ⟨by omega, fun c => ?_, fun c => ?_⟩)
  · rw [if_pos c] at h; exact h
  · rw [if_neg c] at h; exact h
end XP3
