/-! ===== questions about pairs ===== -/
/-- the best pair of the first k -/
noncomputable def vex (D : vD) (g G : Int) : Nat → Int × Int
  | 0 => (-2, 0)
  | n + 1 => vif (dk D ((n : Int) / 26) ∧ dk D ((n : Int) % 26) ∧ ((vex D g G n).1 = -2 ∨ (G = 0 ∧ vcd D ((n : Int) / 26) ((n : Int) % 26) g < (vex D g G n).2) ∨ (¬ G = 0 ∧ (vex D g G n).2 < vcd D ((n : Int) / 26) ((n : Int) % 26) g))) ((n : Int), vcd D ((n : Int) / 26) ((n : Int) % 26) g) (vex D g G n)
theorem vex_bd {D : vD} {g G : Int} : ∀ n, (vex D g G n).1 = -2 ∨ 0 ≤ (vex D g G n).1
  | 0 => Or.inl rfl
  | n + 1 => by
    have i := vex_bd (D := D) (g := g) (G := G) n
    unfold vex
    generalize hP : (dk D ((n : Int) / 26) ∧ dk D ((n : Int) % 26) ∧ ((vex D g G n).1 = -2 ∨ (G = 0 ∧ vcd D ((n : Int) / 26) ((n : Int) % 26) g < (vex D g G n).2) ∨ (¬ G = 0 ∧ (vex D g G n).2 < vcd D ((n : Int) / 26) ((n : Int) % 26) g))) = P
    by_cases hq : P
    · rw [vif_t hq]; right; dsimp only; omega
    · rw [vif_f hq]; exact i
section QP
variable {D : vD} {E : Int → Int} {m : vm_M}
theorem s_gapAt (c : OC D E) (hX : XC D E m) {a b d : Int} {Q : Int → vm_M → Prop} (h : ∀ m', vfr vSX m m' → XC D E m' → Q (vif (dk D a ∧ dk D b ∧ -9 ≤ d ∧ d ≤ 99) (vog D a b d) (-1)) m') : vm_C 118 [vm_r 0, vm_i a, vm_i b, vm_i d] m (vm_qi Q) := by
  have c9 := c
  obtain ⟨hD, hO, hE⟩ := c9
  have h := h m vfr.rf hX
  refine ru10_gapAt_0 (sx_knows rfl hX.1 (fun k => ⟨fun q => by omega, fun _ => sx_knows rfl hX.1 (fun k2 => ⟨fun q => by omega, fun _ => ⟨fun q => ?_, fun q => ⟨fun q2 => ?_, fun q2 => ?_⟩⟩⟩) (fun k2 => ⟨fun _ => ?_, fun q => absurd rfl q⟩)⟩) (fun k => ⟨fun _ => ?_, fun q => absurd rfl q⟩))
  · rw [vif_f (fun k => by omega)] at h; exact h
  · rw [vif_t ⟨k, k2, by omega, q2⟩] at h
    exact sx_og rfl hD hX.1 k k2 ⟨by omega, by omega⟩ h
  · rw [vif_f (fun k => by omega)] at h; exact h
  · rw [vif_f (fun q => k2 q.2.1)] at h; exact h
  · rw [vif_f (fun q => k q.1)] at h; exact h
theorem s_distance (c : OC D E) (hX : XC D E m) {a b g : Int} {Q : Int → vm_M → Prop} (h : ∀ m', vfr vSX m m' → XC D E m' → Q (vif (dk D a ∧ dk D b ∧ 0 ≤ g ∧ g ≤ dC D) (vcd D a b g + 9) (-1)) m') : vm_C 119 [vm_r 0, vm_i a, vm_i b, vm_i g] m (vm_qi Q) := by
  have c9 := c
  obtain ⟨hD, hO, hE⟩ := c9
  have h := h m vfr.rf hX
  refine ru10_distance_0 (sx_knows rfl hX.1 (fun k => ⟨fun q => by omega, fun _ => sx_knows rfl hX.1 (fun k2 => ⟨fun q => by omega, fun _ => ⟨fun q => ?_, fun q => ⟨fun q2 => ?_, fun q2 => ?_⟩⟩⟩) (fun k2 => ⟨fun _ => ?_, fun q => absurd rfl q⟩)⟩) (fun k => ⟨fun _ => ?_, fun q => absurd rfl q⟩))
  · rw [vif_f (fun k => by omega)] at h; exact h
  · rw [hX.1.1] at q2
    rw [vif_t ⟨k, k2, by omega, q2⟩] at h
    have hb := vcd_bd hD hO k k2 q2
    refine sx_dist hD hO hX.1 hX.2.1 k k2 q2 ⟨by omega, ?_⟩
    rw [show vcd D a b g - -9 = vcd D a b g + 9 by omega]; exact h
  · rw [hX.1.1] at q2
    rw [vif_f (fun k => by omega)] at h; exact h
  · rw [vif_f (fun q => k2 q.2.1)] at h; exact h
  · rw [vif_f (fun q => k q.1)] at h; exact h
theorem sx_corrOf {Q : Int → vm_M → Prop} {th : Nat} (h_th : vm_is th 4 = true) (hS : dSx D m th) {a b : Int} (ha : 0 ≤ a ∧ a < 26) (hb : 0 ≤ b ∧ b < 26) (h : Q (dK D (26 * a + b)) m) : vm_C 56 [vm_r th, vm_i a, vm_i b] m (vm_qi Q) := by
  have h2 := hS.2.1 (26 * a + b) (by omega) (by omega)
  refine ru4_correctionOf_0 h_th ⟨by omega, ?_⟩
  rw [show a * 26 + b = 26 * a + b by omega, h2]
  exact h
theorem s_correction (c : OC D E) (hX : XC D E m) {a b : Int} {Q : Int → vm_M → Prop} (h : ∀ m', vfr vSX m m' → XC D E m' → Q (vif (dk D a ∧ dk D b) (dK D (26 * a + b) + 9) (-1)) m') : vm_C 120 [vm_r 0, vm_i a, vm_i b] m (vm_qi Q) := by
  have c9 := c
  obtain ⟨hD, hO, hE⟩ := c9
  have h := h m vfr.rf hX
  refine ru10_correction_0 (sx_knows rfl hX.1 (fun k => ⟨fun q => by omega, fun _ => sx_knows rfl hX.1 (fun k2 => ⟨fun _ => ?_, fun q => by omega⟩) (fun k2 => ⟨fun q => absurd rfl q, fun _ => ?_⟩)⟩) (fun k => ⟨fun _ => ?_, fun q => absurd rfl q⟩))
  · rw [vif_t ⟨k, k2⟩] at h
    have hb := hO.1 (26 * a + b) (by have := k.1; have := k2.1; omega) (by have := k.2.1; have := k2.2.1; omega)
    exact sx_corrOf rfl hX.2.1 ⟨k.1, k.2.1⟩ ⟨k2.1, k2.2.1⟩ ⟨by omega, h⟩
  · rw [vif_f (fun q => k2 q.2)] at h; exact h
  · rw [vif_f (fun q => k q.1)] at h; exact h
theorem s_extreme (c : OC D E) (hX : XC D E m) {g : Int} {Q : Int → vm_M → Prop} (h : ∀ m', vfr vSX m m' → XC D E m' → Q (vex D (E 3) g 676).1 m') : vm_C 121 [vm_r 0, vm_i g] m (vm_qi Q) := by
  have c9 := c
  obtain ⟨hD, hO, hE⟩ := c9
  have hG := hE.2.2.2.1
  have h := h m vfr.rf hX
  have go : ∀ (n k : Nat) (w5 w6 w7 w8 : Option vm_V), k + n = 676 → ku10_extreme_8 g (vex D (E 3) g k).1 (vex D (E 3) g k).2 k w5 w6 w7 w8 m Q := by
    intro n
    induction n with
    | zero =>
      intro k w5 w6 w7 w8 hk
      have hk : k = 676 := by omega
      subst hk
      exact ru10_extreme_8 ⟨fun _ => h, fun q => by omega⟩
    | succ n ih =>
      intro k w5 w6 w7 w8 hk
      have i1 : ∀ w5 w6 w7 w8, ku10_extreme_8 g (vex D (E 3) g (k + 1)).1 (vex D (E 3) g (k + 1)).2 ((k : Int) + 1) w5 w6 w7 w8 m Q := fun w5 w6 w7 w8 => ih (k + 1) w5 w6 w7 w8 (by omega)
      unfold vex at i1
      refine ru10_extreme_8 ⟨fun q => by omega, fun _ => ⟨by omega, sx_knows rfl hX.1 (fun ka => ⟨fun q => by omega, fun _ => sx_knows rfl hX.1 (fun kb => ⟨fun q => by omega, fun _ => ?_⟩) (fun kb => ⟨fun _ => ⟨by omega, ?_⟩, fun q => absurd rfl q⟩)⟩) (fun ka => ⟨fun _ => ⟨by omega, ?_⟩, fun q => absurd rfl q⟩)⟩⟩
      · have e3 : m 10 3 = E 3 := hX.2.2.1.2.2.2.1
        rw [e3]
        refine sx_dist hD hO hX.1 hX.2.1 ka kb hG.2 ?_
        generalize vcd D ((k : Int) / 26) ((k : Int) % 26) (E 3) = d at *
        generalize vex D (E 3) g k = s at *
        have new : (s.1 = -2 ∨ (g = 0 ∧ d < s.2) ∨ (¬ g = 0 ∧ s.2 < d)) → ∀ w5 w6 w7 w8, ku10_extreme_8 g k d ((k : Int) + 1) w5 w6 w7 w8 m Q := fun q w5 w6 w7 w8 => by
          have := i1 w5 w6 w7 w8
          rw [vif_t ⟨ka, kb, q⟩] at this; exact this
        have old : ¬ (s.1 = -2 ∨ (g = 0 ∧ d < s.2) ∨ (¬ g = 0 ∧ s.2 < d)) → ∀ w5 w6 w7 w8, ku10_extreme_8 g s.1 s.2 ((k : Int) + 1) w5 w6 w7 w8 m Q := fun q w5 w6 w7 w8 => by
          have := i1 w5 w6 w7 w8
          rw [vif_f (fun r => q r.2.2)] at this; exact this
        refine ⟨fun g0 => ⟨fun q => ⟨fun q2 => ⟨by omega, new (by omega) _ _ _ _⟩, fun q2 => ⟨fun _ => ⟨by omega, old (by omega) _ _ _ _⟩, fun z => absurd rfl z⟩⟩, fun q => ⟨fun q2 => ⟨by omega, new (by omega) _ _ _ _⟩, fun q2 => ⟨fun z => by omega, fun _ => ⟨by omega, new (by omega) _ _ _ _⟩⟩⟩⟩, fun g0 => ⟨fun q => ⟨fun q2 => ⟨by omega, new (by omega) _ _ _ _⟩, fun q2 => ⟨fun _ => ⟨by omega, old (by omega) _ _ _ _⟩, fun z => absurd rfl z⟩⟩, fun q => ⟨fun q2 => ⟨by omega, new (by omega) _ _ _ _⟩, fun q2 => ⟨fun z => by omega, fun _ => ⟨by omega, new (by omega) _ _ _ _⟩⟩⟩⟩⟩
      · have := i1 (some (vm_i ((k : Int) / 26))) (some (vm_i ((k : Int) % 26))) w7 w8
        rw [vif_f (fun r => kb r.2.1)] at this; exact this
      · have := i1 (some (vm_i ((k : Int) / 26))) (some (vm_i ((k : Int) % 26))) w7 w8
        rw [vif_f (fun r => ka r.1)] at this; exact this
  exact ru10_extreme_0 (go 676 0 none none none none rfl)
noncomputable def valk (D : vD) (a s b : Int) : Int := vif (b ≠ a ∧ dk D b ∧ vsame D a s b s) 1 0
theorem vif_01 {P : Prop} : 0 ≤ vif P (1 : Int) 0 ∧ vif P (1 : Int) 0 ≤ 1 := by
  by_cases h : P
  · rw [vif_t h]; omega
  · rw [vif_f h]; omega
theorem sx_hasWord {Q : Int → vm_M → Prop} (hS : dSx D m 9) {i : Int} (h1 : 0 ≤ i ∧ i < dN D → Q 1 m) (h0 : ¬ (0 ≤ i ∧ i < dN D) → Q 0 m) : vm_C 59 [vm_r 9, vm_i i] m (vm_qi Q) := by
  refine ru4_hasWord_0 rfl ⟨fun q => h0 (by omega), fun q => ⟨fun q2 => h0 (by rw [hS.1] at q2; omega), fun q2 => h1 (by rw [hS.1] at q2; omega)⟩⟩
theorem s_spelled (c : OC D E) (hX : XC D E m) {i k : Int} {Q : Int → vm_M → Prop} (h : ∀ m', vfr vSX m m' → XC D E m' → Q (vif ((0 ≤ i ∧ i < dN D) ∧ 0 ≤ k) (if k < dL D i then dP D (12 * i + k) else -2) (-1)) m') : vm_C 126 [vm_r 0, vm_i i, vm_i k] m (vm_qi Q) := by
  have c9 := c
  obtain ⟨hD, hO, hE⟩ := c9
  have hN := hO.2.2.1
  have h := h m vfr.rf hX
  refine ru10_spelled_0 (sx_hasWord hX.2.1 (fun q => ⟨fun z => by omega, fun _ => ⟨fun q2 => ⟨by omega, ?_⟩, fun q2 => ?_⟩⟩) (fun q => ⟨fun _ => ?_, fun z => absurd rfl z⟩))
  · rw [vif_t ⟨q, q2⟩] at h
    have hl := hO.2.2.2.1 i q.1 q.2
    have el : m 12 i = dL D i := hX.2.1.2.2.1 i q.1 q.2
    rw [el]
    refine ⟨fun q3 => by rw [if_neg (by omega)] at h; exact h, fun q3 => ⟨by omega, ?_⟩⟩
    rw [if_pos (by omega)] at h
    have ep : m 13 (12 * i + k) = dP D (12 * i + k) := hX.2.1.2.2.2 i q.1 q.2 k q2 (by omega)
    rw [show i * 12 + k = 12 * i + k by omega, ep]; exact h
  · rw [vif_f (fun z => q2 z.2)] at h; exact h
  · rw [vif_f (fun z => q z.1)] at h; exact h
end QP
