/-! ===== questions about pairs ===== -/
/-- the best pair of the first k -/
noncomputable def vex (D : vD) (g G : Int) : Nat → Int × Int
  | 0 => (-2, 0)
  | n + 1 => vif (dk D ((n : Int) / 26) ∧ dk D ((n : Int) % 26) ∧ ((vex D g G n).1 = -2 ∨ (G = 0 ∧ vcd D ((n : Int) / 26) ((n : Int) % 26) g < (vex D g G n).2) ∨ (¬ G = 0 ∧ (vex D g G n).2 < vcd D ((n : Int) / 26) ((n : Int) % 26) g))) ((n : Int), vcd D ((n : Int) / 26) ((n : Int) % 26) g) (vex D g G n)
theorem vex_bd {D : vD} {g G : Int} : ∀ n, (vex D g G n).1 = -2 ∨ 0 ≤ (vex D g G n).1
  | 0 => Or.inl rfl
  | n + 1 => by
    have i := vex_bd (D := D) (g := g) (G := G) n
    unfold vex
    generalize hP : (dk D ((n : Int) / 26) ∧ dk D ((n : Int) % 26) ∧ ((vex D g G n).1 = -2 ∨ (G = 0 ∧ vcd D ((n : Int) / 26) ((n : Int) % 26) g < (vex D g G n).2) ∨ (¬ G = 0 ∧ (vex D g G n).2 < vcd D ((n : Int) / 26) ((n : Int) % 26) g))) = P
    by_cases hq : P
    · rw [vif_t hq]; right; dsimp only; omega
    · rw [vif_f hq]; exact i
section QP
variable {D : vD} {E : Int → Int} {m : vm_M}
theorem q_gapAt (c : CC D E m) {a b d : Int} {G : Int → Int → vm_M → Prop} (h : ∀ z m', vfr vSQ m m' → CC D E m' → G z z m') : vm_C 118 [vm_r 0, vm_i a, vm_i b, vm_i d] m (vm_qi (fun z1 m1 => vP m m1 ∧ vm_C 243 [vm_r 96, vm_i a, vm_i b, vm_i d] m1 (vm_qi (fun z2 m2 => G z1 z2 m2)))) := by
  obtain ⟨hD, hO, hE⟩ := c.1
  refine qpair c (vif (dk D a ∧ dk D b ∧ -9 ≤ d ∧ d ≤ 99) (vog D a b d) (-1)) (fun Q m hX h => ?_) (fun Q m hM h => ?_) h
  · have h := h m vfr.rf hX
    refine ru10_gapAt_0 (sx_knows rfl hX.1 (fun k => ⟨fun q => by omega, fun _ => sx_knows rfl hX.1 (fun k2 => ⟨fun q => by omega, fun _ => ⟨fun q => ?_, fun q => ⟨fun q2 => ?_, fun q2 => ?_⟩⟩⟩) (fun k2 => ⟨fun _ => ?_, fun q => absurd rfl q⟩)⟩) (fun k => ⟨fun _ => ?_, fun q => absurd rfl q⟩))
    · rw [vif_f (fun k => by omega)] at h; exact h
    · rw [vif_t ⟨k, k2, by omega, q2⟩] at h
      exact sx_og rfl hD hX.1 k k2 ⟨by omega, by omega⟩ h
    · rw [vif_f (fun k => by omega)] at h; exact h
    · rw [vif_f (fun q => k2 q.2.1)] at h; exact h
    · rw [vif_f (fun q => k q.1)] at h; exact h
  · have h := h m vfr.rf
    refine ru11_gapAt_0 (sm_isLetter hM.1 (fun k => ⟨fun q => by omega, fun _ => sm_isLetter hM.1 (fun k2 => ⟨fun q => by omega, fun _ => sm_in (fun q => ⟨fun z => by omega, fun _ => ?_⟩) (fun q => ⟨fun _ => ?_, fun z => absurd rfl z⟩)⟩) (fun k2 => ⟨fun _ => ?_, fun q => absurd rfl q⟩)⟩) (fun k => ⟨fun _ => ?_, fun q => absurd rfl q⟩))
    · rw [vif_t ⟨k, k2, q⟩] at h
      exact sm_og hD hM.1 k k2 ⟨by omega, by omega⟩ h
    · rw [vif_f (fun k => q k.2.2)] at h; exact h
    · rw [vif_f (fun q => k2 q.2.1)] at h; exact h
    · rw [vif_f (fun q => k q.1)] at h; exact h
theorem q_distance (c : CC D E m) {a b g : Int} {G : Int → Int → vm_M → Prop} (h : ∀ z m', vfr vSQ m m' → CC D E m' → G z z m') : vm_C 119 [vm_r 0, vm_i a, vm_i b, vm_i g] m (vm_qi (fun z1 m1 => vP m m1 ∧ vm_C 244 [vm_r 96, vm_i a, vm_i b, vm_i g] m1 (vm_qi (fun z2 m2 => G z1 z2 m2)))) := by
  obtain ⟨hD, hO, hE⟩ := c.1
  refine qpair c (vif (dk D a ∧ dk D b ∧ 0 ≤ g ∧ g ≤ dC D) (vcd D a b g + 9) (-1)) (fun Q m hX h => ?_) (fun Q m hM h => ?_) h
  · have h := h m vfr.rf hX
    refine ru10_distance_0 (sx_knows rfl hX.1 (fun k => ⟨fun q => by omega, fun _ => sx_knows rfl hX.1 (fun k2 => ⟨fun q => by omega, fun _ => ⟨fun q => ?_, fun q => ⟨fun q2 => ?_, fun q2 => ?_⟩⟩⟩) (fun k2 => ⟨fun _ => ?_, fun q => absurd rfl q⟩)⟩) (fun k => ⟨fun _ => ?_, fun q => absurd rfl q⟩))
    · rw [vif_f (fun k => by omega)] at h; exact h
    · rw [hX.1.1] at q2
      rw [vif_t ⟨k, k2, by omega, q2⟩] at h
      have hb := vcd_bd hD hO k k2 q2
      refine sx_dist hD hO hX.1 hX.2.1 k k2 q2 ⟨by omega, ?_⟩
      rw [show vcd D a b g - -9 = vcd D a b g + 9 by omega]; exact h
    · rw [hX.1.1] at q2
      rw [vif_f (fun k => by omega)] at h; exact h
    · rw [vif_f (fun q => k2 q.2.1)] at h; exact h
    · rw [vif_f (fun q => k q.1)] at h; exact h
  · have h := h m vfr.rf
    refine ru11_distance_0 (sm_isLetter hM.1 (fun k => ⟨fun q => by omega, fun _ => sm_isLetter hM.1 (fun k2 => ⟨fun q => by omega, fun _ => sm_in (fun q => ⟨fun z => by omega, fun _ => ?_⟩) (fun q => ⟨fun _ => ?_, fun z => absurd rfl z⟩)⟩) (fun k2 => ⟨fun _ => ?_, fun q => absurd rfl q⟩)⟩) (fun k => ⟨fun _ => ?_, fun q => absurd rfl q⟩))
    · rw [hM.1.1] at q
      rw [vif_t ⟨k, k2, q⟩] at h
      have hb := vcd_bd hD hO k k2 q.2
      exact sm_dist hD hO hM.1 hM.2.1 k k2 q.2 ⟨by omega, h⟩
    · rw [hM.1.1] at q
      rw [vif_f (fun k => q k.2.2)] at h; exact h
    · rw [vif_f (fun q => k2 q.2.1)] at h; exact h
    · rw [vif_f (fun q => k q.1)] at h; exact h
theorem sx_corrOf {Q : Int → vm_M → Prop} {th : Nat} (h_th : vm_is th 4 = true) (hS : dSx D m th) {a b : Int} (ha : 0 ≤ a ∧ a < 26) (hb : 0 ≤ b ∧ b < 26) (h : Q (dK D (26 * a + b)) m) : vm_C 56 [vm_r th, vm_i a, vm_i b] m (vm_qi Q) := by
  have h2 := hS.2.1 (26 * a + b) (by omega) (by omega)
  refine ru4_correctionOf_0 h_th ⟨by omega, ?_⟩
  rw [show a * 26 + b = 26 * a + b by omega, h2]
  exact h
theorem q_correction (c : CC D E m) {a b : Int} {G : Int → Int → vm_M → Prop} (h : ∀ z m', vfr vSQ m m' → CC D E m' → G z z m') : vm_C 120 [vm_r 0, vm_i a, vm_i b] m (vm_qi (fun z1 m1 => vP m m1 ∧ vm_C 245 [vm_r 96, vm_i a, vm_i b] m1 (vm_qi (fun z2 m2 => G z1 z2 m2)))) := by
  obtain ⟨hD, hO, hE⟩ := c.1
  refine qpair c (vif (dk D a ∧ dk D b) (dK D (26 * a + b) + 9) (-1)) (fun Q m hX h => ?_) (fun Q m hM h => ?_) h
  · have h := h m vfr.rf hX
    refine ru10_correction_0 (sx_knows rfl hX.1 (fun k => ⟨fun q => by omega, fun _ => sx_knows rfl hX.1 (fun k2 => ⟨fun _ => ?_, fun q => by omega⟩) (fun k2 => ⟨fun q => absurd rfl q, fun _ => ?_⟩)⟩) (fun k => ⟨fun _ => ?_, fun q => absurd rfl q⟩))
    · rw [vif_t ⟨k, k2⟩] at h
      have hb := hO.1 (26 * a + b) (by have := k.1; have := k2.1; omega) (by have := k.2.1; have := k2.2.1; omega)
      exact sx_corrOf rfl hX.2.1 ⟨k.1, k.2.1⟩ ⟨k2.1, k2.2.1⟩ ⟨by omega, h⟩
    · rw [vif_f (fun q => k2 q.2)] at h; exact h
    · rw [vif_f (fun q => k q.1)] at h; exact h
  · have h := h m vfr.rf
    refine ru11_correction_0 (sm_isLetter hM.1 (fun k => ⟨fun q => by omega, fun _ => sm_isLetter hM.1 (fun k2 => ⟨fun q => by omega, fun _ => ?_⟩) (fun k2 => ⟨fun _ => ?_, fun q => absurd rfl q⟩)⟩) (fun k => ⟨fun _ => ?_, fun q => absurd rfl q⟩))
    · rw [vif_t ⟨k, k2⟩] at h
      have hb := hO.1 (26 * a + b) (by have := k.1; have := k2.1; omega) (by have := k.2.1; have := k2.2.1; omega)
      exact sm_corr hM.2.1 ⟨k.1, k.2.1⟩ ⟨k2.1, k2.2.1⟩ ⟨by omega, h⟩
    · rw [vif_f (fun q => k2 q.2)] at h; exact h
    · rw [vif_f (fun q => k q.1)] at h; exact h
theorem q_extreme (c : CC D E m) {g : Int} {G : Int → Int → vm_M → Prop} (h : ∀ z m', vfr vSQ m m' → CC D E m' → G z z m') : vm_C 121 [vm_r 0, vm_i g] m (vm_qi (fun z1 m1 => vP m m1 ∧ vm_C 246 [vm_r 96, vm_i g] m1 (vm_qi (fun z2 m2 => G z1 z2 m2)))) := by
  obtain ⟨hD, hO, hE⟩ := c.1
  have hG := hE.2.2.2.1
  refine qpair c (vex D (E 3) g 676).1 (fun Q m hX h => ?_) (fun Q m hM h => ?_) h
  · have h := h m vfr.rf hX
    have go : ∀ (n k : Nat) (w5 w6 w7 w8 : Option vm_V), k + n = 676 → ku10_extreme_8 g (vex D (E 3) g k).1 (vex D (E 3) g k).2 k w5 w6 w7 w8 m Q := by
      intro n
      induction n with
      | zero =>
        intro k w5 w6 w7 w8 hk
        have hk : k = 676 := by omega
        subst hk
        exact ru10_extreme_8 ⟨fun _ => h, fun q => by omega⟩
      | succ n ih =>
        intro k w5 w6 w7 w8 hk
        have i1 : ∀ w5 w6 w7 w8, ku10_extreme_8 g (vex D (E 3) g (k + 1)).1 (vex D (E 3) g (k + 1)).2 ((k : Int) + 1) w5 w6 w7 w8 m Q := fun w5 w6 w7 w8 => ih (k + 1) w5 w6 w7 w8 (by omega)
        unfold vex at i1
        refine ru10_extreme_8 ⟨fun q => by omega, fun _ => ⟨by omega, sx_knows rfl hX.1 (fun ka => ⟨fun q => by omega, fun _ => sx_knows rfl hX.1 (fun kb => ⟨fun q => by omega, fun _ => ?_⟩) (fun kb => ⟨fun _ => ⟨by omega, ?_⟩, fun q => absurd rfl q⟩)⟩) (fun ka => ⟨fun _ => ⟨by omega, ?_⟩, fun q => absurd rfl q⟩)⟩⟩
        · have e3 : m 10 3 = E 3 := hX.2.2.1.2.2.2.1
          rw [e3]
          refine sx_dist hD hO hX.1 hX.2.1 ka kb hG.2 ?_
          generalize vcd D ((k : Int) / 26) ((k : Int) % 26) (E 3) = d at *
          generalize vex D (E 3) g k = s at *
          have new : (s.1 = -2 ∨ (g = 0 ∧ d < s.2) ∨ (¬ g = 0 ∧ s.2 < d)) → ∀ w5 w6 w7 w8, ku10_extreme_8 g k d ((k : Int) + 1) w5 w6 w7 w8 m Q := fun q w5 w6 w7 w8 => by
            have := i1 w5 w6 w7 w8
            rw [vif_t ⟨ka, kb, q⟩] at this; exact this
          have old : ¬ (s.1 = -2 ∨ (g = 0 ∧ d < s.2) ∨ (¬ g = 0 ∧ s.2 < d)) → ∀ w5 w6 w7 w8, ku10_extreme_8 g s.1 s.2 ((k : Int) + 1) w5 w6 w7 w8 m Q := fun q w5 w6 w7 w8 => by
            have := i1 w5 w6 w7 w8
            rw [vif_f (fun r => q r.2.2)] at this; exact this
          refine ⟨fun g0 => ⟨fun q => ⟨fun q2 => ⟨by omega, new (by omega) _ _ _ _⟩, fun q2 => ⟨fun _ => ⟨by omega, old (by omega) _ _ _ _⟩, fun z => absurd rfl z⟩⟩, fun q => ⟨fun q2 => ⟨by omega, new (by omega) _ _ _ _⟩, fun q2 => ⟨fun z => by omega, fun _ => ⟨by omega, new (by omega) _ _ _ _⟩⟩⟩⟩, fun g0 => ⟨fun q => ⟨fun q2 => ⟨by omega, new (by omega) _ _ _ _⟩, fun q2 => ⟨fun _ => ⟨by omega, old (by omega) _ _ _ _⟩, fun z => absurd rfl z⟩⟩, fun q => ⟨fun q2 => ⟨by omega, new (by omega) _ _ _ _⟩, fun q2 => ⟨fun z => by omega, fun _ => ⟨by omega, new (by omega) _ _ _ _⟩⟩⟩⟩⟩
        · have := i1 (some (vm_i ((k : Int) / 26))) (some (vm_i ((k : Int) % 26))) w7 w8
          rw [vif_f (fun r => kb r.2.1)] at this; exact this
        · have := i1 (some (vm_i ((k : Int) / 26))) (some (vm_i ((k : Int) % 26))) w7 w8
          rw [vif_f (fun r => ka r.1)] at this; exact this
    exact ru10_extreme_0 (go 676 0 none none none none rfl)
  · have h := h m vfr.rf
    have go : ∀ (n k : Nat) (w5 : Option vm_V), k + n = 676 → ku11_extreme_8 g (vex D (E 3) g k).1 (vex D (E 3) g k).2 k w5 m Q := by
      intro n
      induction n with
      | zero =>
        intro k w5 hk
        have hk : k = 676 := by omega
        subst hk
        exact ru11_extreme_8 ⟨fun _ => h, fun q => by omega⟩
      | succ n ih =>
        intro k w5 hk
        have i1 : ∀ w5, ku11_extreme_8 g (vex D (E 3) g (k + 1)).1 (vex D (E 3) g (k + 1)).2 ((k : Int) + 1) w5 m Q := fun w5 => ih (k + 1) w5 (by omega)
        have hb := vex_bd (D := D) (g := E 3) (G := g) k
        unfold vex at i1
        refine ru11_extreme_8 ⟨fun q => by omega, fun _ => ⟨by omega, sm_isLetter hM.1 (fun ka => ⟨fun q => by omega, fun _ => ⟨by omega, sm_isLetter hM.1 (fun kb => ⟨fun _ => ⟨by omega, ?_⟩, fun q => by omega⟩) (fun kb => ⟨fun q => absurd rfl q, fun _ => ⟨by omega, ?_⟩⟩)⟩⟩) (fun ka => ⟨fun _ => ⟨by omega, ?_⟩, fun q => absurd rfl q⟩)⟩⟩
        · have e3 : m 100 3 = E 3 := hM.2.2.2.2.2.1
          rw [e3]
          refine sm_dist hD hO hM.1 hM.2.1 ka kb hG.2 ?_
          generalize vcd D ((k : Int) / 26) ((k : Int) % 26) (E 3) = d at *
          generalize vex D (E 3) g k = s at *
          have new : (s.1 = -2 ∨ (g = 0 ∧ d < s.2) ∨ (¬ g = 0 ∧ s.2 < d)) → ∀ w5, ku11_extreme_8 g k d ((k : Int) + 1) w5 m Q := fun q w5 => by
            have := i1 w5
            rw [vif_t ⟨ka, kb, q⟩] at this; exact this
          have old : ¬ (s.1 = -2 ∨ (g = 0 ∧ d < s.2) ∨ (¬ g = 0 ∧ s.2 < d)) → ∀ w5, ku11_extreme_8 g s.1 s.2 ((k : Int) + 1) w5 m Q := fun q w5 => by
            have := i1 w5
            rw [vif_f (fun r => q r.2.2)] at this; exact this
          exact ⟨fun q => ⟨by omega, new (by omega) _⟩, fun q => ⟨fun g0 => ⟨fun q2 => ⟨by omega, old (by omega) _⟩, fun q2 => ⟨by omega, new (by omega) _⟩⟩, fun g0 => ⟨fun q2 => ⟨by omega, old (by omega) _⟩, fun q2 => ⟨by omega, new (by omega) _⟩⟩⟩⟩
        · have := i1 w5
          rw [vif_f (fun r => kb r.2.1)] at this; exact this
        · have := i1 w5
          rw [vif_f (fun r => ka r.1)] at this; exact this
    exact ru11_extreme_0 (go 676 0 none rfl)
theorem sm_alike {Q : Int → vm_M → Prop} (hA : dAm D m) {a b s t : Int} (ha : dk D a) (hb : dk D b) (hs : s = 0 ∨ s = 1) (ht : t = 0 ∨ t = 1) (h1 : vsame D a s b t → Q 1 m) (h0 : ¬ vsame D a s b t → Q 0 m) : vm_C 247 [vm_r 96, vm_i a, vm_i s, vm_i b, vm_i t] m (vm_qi Q) := by
  have g0 : ¬ vsame D a s b t → ∀ (n : Nat) (j : Int), j + n = 6 → 0 ≤ j → ku11_areAlike_6 a s b t 0 j m Q := by
    intro hn n
    induction n with
    | zero => intro j hj hj0; exact ru11_areAlike_6 ⟨fun _ => ⟨Or.inl rfl, h0 hn⟩, fun q => by omega⟩
    | succ n ih => intro j hj hj0; exact ru11_areAlike_6 ⟨fun q => by omega, fun _ => ⟨fun _ => ⟨by omega, ih (j + 1) (by omega) (by omega)⟩, fun q => absurd rfl q⟩⟩
  have g1 : ∀ (n : Nat) (j : Int), j + n = 6 → 0 ≤ j → (∀ i, 0 ≤ i → i < j → dS D (12 * a + (6 * s + i)) = dS D (12 * b + (6 * t + i))) → ku11_areAlike_6 a s b t 1 j m Q := by
    intro n
    induction n with
    | zero => intro j hj hj0 hi; exact ru11_areAlike_6 ⟨fun _ => ⟨Or.inr rfl, h1 (fun i a b => hi i a (by omega))⟩, fun q => by omega⟩
    | succ n ih =>
      intro j hj hj0 hi
      refine ru11_areAlike_6 ⟨fun q => by omega, fun _ => ⟨fun q => by omega, fun _ => sm_inset ⟨ha.1, ha.2.1⟩ hs ⟨hj0, by omega⟩ (sm_inset ⟨hb.1, hb.2.1⟩ ht ⟨hj0, by omega⟩ ?_)⟩⟩
      rw [hA.2.2.2 a ha (6 * s + j) (by omega) (by omega), hA.2.2.2 b hb (6 * t + j) (by omega) (by omega)]
      refine ⟨fun q => ⟨by omega, g0 (fun k => q (k j hj0 (by omega))) n (j + 1) (by omega) (by omega)⟩, fun q => ⟨by omega, ih (j + 1) (by omega) (by omega) (fun i a b => ?_)⟩⟩
      by_cases hq : i = j
      · rw [hq]; exact Classical.not_not.mp q
      · exact hi i a (by omega)
  exact ru11_areAlike_0 (g1 6 0 (by omega) (Int.le_refl _) (fun i a b => by omega))
theorem q_mirrored (c : CC D E m) {a : Int} {G : Int → Int → vm_M → Prop} (h : ∀ z m', vfr vSQ m m' → CC D E m' → G z z m') : vm_C 122 [vm_r 0, vm_i a] m (vm_qi (fun z1 m1 => vP m m1 ∧ vm_C 248 [vm_r 96, vm_i a] m1 (vm_qi (fun z2 m2 => G z1 z2 m2)))) := by
  refine qpair c (vif (dk D a ∧ vsame D a 0 a 1) 1 0) (fun Q m hX h => ?_) (fun Q m hM h => ?_) h
  · have h := h m vfr.rf hX
    refine ru10_mirrored_0 (sx_knows rfl hX.1 (fun k => ⟨fun _ => ?_, fun q => by omega⟩) (fun k => ⟨fun q => absurd rfl q, fun _ => ?_⟩))
    · have go : ∀ (n : Nat) (j : Int), j + n = 6 → 0 ≤ j → (∀ i, 0 ≤ i → i < j → dS D (12 * a + (6 * 0 + i)) = dS D (12 * a + (6 * 1 + i))) → ku10_mirrored_15 a j m Q := by
        intro n
        induction n with
        | zero =>
          intro j hj hj0 hi
          refine ru10_mirrored_15 ⟨fun _ => ?_, fun q => by omega⟩
          rw [vif_t ⟨k, fun i a b => hi i a (by omega)⟩] at h; exact h
        | succ n ih =>
          intro j hj hj0 hi
          refine ru10_mirrored_15 ⟨fun q => by omega, fun _ => sx_inset rfl ⟨k.1, k.2.1⟩ (Or.inl rfl) ⟨hj0, by omega⟩ (sx_inset rfl ⟨k.1, k.2.1⟩ (Or.inr rfl) ⟨hj0, by omega⟩ ?_)⟩
          rw [hX.1.2.2 a k (6 * 0 + j) (by omega) (by omega), hX.1.2.2 a k (6 * 1 + j) (by omega) (by omega)]
          refine ⟨fun q => ⟨by omega, ih (j + 1) (by omega) (by omega) (fun i a b => ?_)⟩, fun q => ?_⟩
          · by_cases hq : i = j
            · rw [hq]; exact q
            · exact hi i a (by omega)
          · rw [vif_f (fun z => q (z.2 j hj0 (by omega)))] at h; exact h
      exact go 6 0 (by omega) (Int.le_refl _) (fun i a b => by omega)
    · rw [vif_f (fun q => k q.1)] at h; exact h
  · have h := h m vfr.rf
    refine ru11_mirrored_0 (sm_isLetter hM.1 (fun k => ⟨fun q => by omega, fun _ => sm_alike hM.1 k k (Or.inl rfl) (Or.inr rfl) (fun q => ⟨fun z => by omega, fun _ => ?_⟩) (fun q => ⟨fun _ => ?_, fun z => absurd rfl z⟩)⟩) (fun k => ⟨fun _ => ?_, fun q => absurd rfl q⟩))
    · rw [vif_t ⟨k, q⟩] at h; exact h
    · rw [vif_f (fun z => q z.2)] at h; exact h
    · rw [vif_f (fun z => k z.1)] at h; exact h
noncomputable def valk (D : vD) (a s b : Int) : Int := vif (b ≠ a ∧ dk D b ∧ vsame D a s b s) 1 0
theorem vif_01 {P : Prop} : 0 ≤ vif P (1 : Int) 0 ∧ vif P (1 : Int) 0 ≤ 1 := by
  by_cases h : P
  · rw [vif_t h]; omega
  · rw [vif_f h]; omega
theorem q_alike (c : CC D E m) {a s : Int} (hs : s = 0 ∨ s = 1) {G : Int → Int → vm_M → Prop} (h : ∀ z m', vfr vSQ m m' → CC D E m' → G z z m') : vm_C 123 [vm_r 0, vm_i a, vm_i s] m (vm_qi (fun z1 m1 => vP m m1 ∧ vm_C 249 [vm_r 96, vm_i a, vm_i s] m1 (vm_qi (fun z2 m2 => G z1 z2 m2)))) := by
  refine qpair c (vif (dk D a) (vs (valk D a s) 26) (-1)) (fun Q m hX h => ?_) (fun Q m hM h => ?_) h
  · have h := h m vfr.rf hX
    refine ru10_alike_0 (sx_knows rfl hX.1 (fun k => ⟨fun _ => ?_, fun q => by omega⟩) (fun k => ⟨fun q => absurd rfl q, fun _ => ?_⟩))
    · rw [vif_t k] at h
      have go : ∀ (n j : Nat), j + n = 26 → ku10_alike_18 a s (vs (valk D a s) j) j m Q := by
        intro n
        induction n with
        | zero =>
          intro j hj
          have hj : j = 26 := by omega
          subst hj
          exact ru10_alike_18 ⟨fun _ => h, fun q => by omega⟩
        | succ n ih =>
          intro j hj
          have b := vs_bd (f := valk D a s) (lo := 0) (hi := 1) j (fun i _ _ => vif_01)
          have i1 := ih (j + 1) (by omega)
          have es : vs (valk D a s) (j + 1) = vs (valk D a s) j + vif ((j : Int) ≠ a ∧ dk D j ∧ vsame D a s j s) 1 0 := rfl
          rw [es, show ((j + 1 : Nat) : Int) = (j : Int) + 1 by omega] at i1
          have hold : ¬ ((j : Int) ≠ a ∧ dk D j ∧ vsame D a s j s) → ku10_alike_18 a s (vs (valk D a s) j) ((j : Int) + 1) m Q := fun q => by rw [vif_f q, Int.add_zero] at i1; exact i1
          refine ru10_alike_18 ⟨fun q => by omega, fun _ => ⟨fun q => ⟨by omega, hold (fun z => z.1 q)⟩, fun q => sx_knows rfl hX.1 (fun kb => ⟨fun z => by omega, fun _ => ?_⟩) (fun kb => ⟨fun _ => ⟨by omega, hold (fun z => kb z.2.1)⟩, fun z => absurd rfl z⟩)⟩⟩
          have g3 : ∀ (n : Nat) (i : Int), i + n = 6 → 0 ≤ i → (∀ x, 0 ≤ x → x < i → dS D (12 * a + (6 * s + x)) = dS D (12 * (j : Int) + (6 * s + x))) → ku0_sameSide_3 3 a j s i m (fun z2 m2 =>
              ((z2 = 0 →
                ((vm_32 ((j : Int) + 1))) ∧
                ku10_alike_18 a s (vs (valk D a s) j) ((j : Int) + 1) m2 Q) ∧ (¬ z2 = 0 →
                ((vm_32 (vs (valk D a s) j + 1)) ∧ (vm_32 ((j : Int) + 1))) ∧
                ku10_alike_18 a s (vs (valk D a s) j + 1) ((j : Int) + 1) m2 Q))) := by
            intro n
            induction n with
            | zero =>
              intro i hi hi0 hx
              refine ru0_sameSide_3 rfl ⟨fun _ => ⟨fun z => by omega, fun _ => ⟨by omega, ?_⟩⟩, fun z => by omega⟩
              rw [vif_t ⟨q, kb, fun x a b => hx x a (by omega)⟩] at i1; exact i1
            | succ n ihn =>
              intro i hi hi0 hx
              refine ru0_sameSide_3 rfl ⟨fun z => by omega, fun _ => sx_inset rfl ⟨k.1, k.2.1⟩ hs ⟨hi0, by omega⟩ (sx_inset rfl ⟨kb.1, kb.2.1⟩ hs ⟨hi0, by omega⟩ ?_)⟩
              rw [hX.1.2.2 a k (6 * s + i) (by omega) (by omega), hX.1.2.2 j kb (6 * s + i) (by omega) (by omega)]
              refine ⟨fun z => ⟨by omega, ihn (i + 1) (by omega) (by omega) (fun x a b => ?_)⟩, fun z => ⟨fun _ => ⟨by omega, hold (fun y => z (y.2.2 i hi0 (by omega)))⟩, fun y => absurd rfl y⟩⟩
              by_cases hq : x = i
              · rw [hq]; exact z
              · exact hx x a (by omega)
          exact ru0_sameSide_0 rfl (g3 6 0 (by omega) (Int.le_refl _) (fun x a b => by omega))
      exact go 26 0 rfl
    · rw [vif_f k] at h; exact h
  · have h := h m vfr.rf
    have hgo : dk D a → Q (vs (valk D a s) 26) m → ku11_alike_26 a s s 0 0 m Q := by
      intro k h
      have go : ∀ (n j : Nat), j + n = 26 → ku11_alike_26 a s s (vs (valk D a s) j) j m Q := by
        intro n
        induction n with
        | zero =>
          intro j hj
          have hj : j = 26 := by omega
          subst hj
          exact ru11_alike_26 ⟨fun _ => h, fun q => by omega⟩
        | succ n ih =>
          intro j hj
          have b := vs_bd (f := valk D a s) (lo := 0) (hi := 1) j (fun i _ _ => vif_01)
          have i1 := ih (j + 1) (by omega)
          have es : vs (valk D a s) (j + 1) = vs (valk D a s) j + vif ((j : Int) ≠ a ∧ dk D j ∧ vsame D a s j s) 1 0 := rfl
          rw [es, show ((j + 1 : Nat) : Int) = (j : Int) + 1 by omega] at i1
          have hold : ¬ ((j : Int) ≠ a ∧ dk D j ∧ vsame D a s j s) → ku11_alike_26 a s s (vs (valk D a s) j + 0) ((j : Int) + 1) m Q := fun q => by rw [vif_f q] at i1; exact i1
          refine ru11_alike_26 ⟨fun q => by omega, fun _ => ⟨fun q => ⟨by omega, hold (fun z => z.1 q)⟩, fun q => sm_isLetter hM.1 (fun kb => ⟨fun z => by omega, fun _ => sm_alike hM.1 k kb hs hs (fun y => ⟨fun z => by omega, fun _ => ⟨by omega, ?_⟩⟩) (fun y => ⟨fun _ => ⟨by omega, hold (fun z => y z.2.2)⟩, fun z => absurd rfl z⟩)⟩) (fun kb => ⟨fun _ => ⟨by omega, hold (fun z => kb z.2.1)⟩, fun z => absurd rfl z⟩)⟩⟩
          rw [vif_t ⟨q, kb, y⟩] at i1; exact i1
      exact go 26 0 rfl
    refine ru11_alike_0 (sm_isLetter hM.1 (fun k => ⟨fun _ => ⟨fun q => ?_, fun q => ?_⟩, fun q => by omega⟩) (fun k => ⟨fun q => absurd rfl q, fun _ => ?_⟩))
    · rw [vif_t k] at h
      have := hgo k h
      rw [q] at this ⊢; exact this
    · rw [vif_t k] at h
      have := hgo k h
      rw [show s = 1 by omega] at this ⊢; exact this
    · rw [vif_f k] at h; exact h
theorem sx_hasWord {Q : Int → vm_M → Prop} (hS : dSx D m 9) {i : Int} (h1 : 0 ≤ i ∧ i < dN D → Q 1 m) (h0 : ¬ (0 ≤ i ∧ i < dN D) → Q 0 m) : vm_C 59 [vm_r 9, vm_i i] m (vm_qi Q) := by
  refine ru4_hasWord_0 rfl ⟨fun q => h0 (by omega), fun q => ⟨fun q2 => h0 (by rw [hS.1] at q2; omega), fun q2 => h1 (by rw [hS.1] at q2; omega)⟩⟩
theorem sm_isWord {Q : Int → vm_M → Prop} (hO : dOS D) (hS : dSm D m) {i : Int} (h1 : 0 ≤ i ∧ i < dN D → Q 1 m) (h0 : ¬ (0 ≤ i ∧ i < dN D) → Q 0 m) : vm_C 169 [vm_r 96, vm_i i] m (vm_qi Q) := by
  have hN := hO.2.2.1
  have hN0 := hO.2.1
  refine ru11_isWordOfText_0 ?_
  rw [hS.1]
  exact ⟨by omega, sm_in (fun q => ⟨Or.inr rfl, h1 (by omega)⟩) (fun q => ⟨Or.inl rfl, h0 (by omega)⟩)⟩
theorem q_spelled (c : CC D E m) {i k : Int} {G : Int → Int → vm_M → Prop} (h : ∀ z m', vfr vSQ m m' → CC D E m' → G z z m') : vm_C 126 [vm_r 0, vm_i i, vm_i k] m (vm_qi (fun z1 m1 => vP m m1 ∧ vm_C 253 [vm_r 96, vm_i i, vm_i k] m1 (vm_qi (fun z2 m2 => G z1 z2 m2)))) := by
  obtain ⟨hD, hO, hE⟩ := c.1
  have hN := hO.2.2.1
  refine qpair c (vif ((0 ≤ i ∧ i < dN D) ∧ 0 ≤ k) (if k < dL D i then dP D (12 * i + k) else -2) (-1)) (fun Q m hX h => ?_) (fun Q m hM h => ?_) h
  · have h := h m vfr.rf hX
    refine ru10_spelled_0 (sx_hasWord hX.2.1 (fun q => ⟨fun z => by omega, fun _ => ⟨fun q2 => ⟨by omega, ?_⟩, fun q2 => ?_⟩⟩) (fun q => ⟨fun _ => ?_, fun z => absurd rfl z⟩))
    · rw [vif_t ⟨q, q2⟩] at h
      have hl := hO.2.2.2.1 i q.1 q.2
      have el : m 12 i = dL D i := hX.2.1.2.2.1 i q.1 q.2
      rw [el]
      refine ⟨fun q3 => by rw [if_neg (by omega)] at h; exact h, fun q3 => ⟨by omega, ?_⟩⟩
      rw [if_pos (by omega)] at h
      have ep : m 13 (12 * i + k) = dP D (12 * i + k) := hX.2.1.2.2.2 i q.1 q.2 k q2 (by omega)
      rw [show i * 12 + k = 12 * i + k by omega, ep]; exact h
    · rw [vif_f (fun z => q2 z.2)] at h; exact h
    · rw [vif_f (fun z => q z.1)] at h; exact h
  · have h := h m vfr.rf
    refine ru11_spelled_0 (sm_isWord hO hM.2.1 (fun q => ⟨fun z => by omega, fun _ => ⟨fun q2 => sm_len hO hM.2.1 q ⟨fun q3 => ?_, fun q3 => sm_let hO hM.2.1 q ⟨q2, by omega⟩ ?_⟩, fun q2 => ?_⟩⟩) (fun q => ⟨fun _ => ?_, fun z => absurd rfl z⟩))
    · rw [vif_t ⟨q, q2⟩, if_neg (by omega)] at h; exact h
    · rw [vif_t ⟨q, q2⟩, if_pos (by omega)] at h; exact h
    · rw [vif_f (fun z => q2 z.2)] at h; exact h
    · rw [vif_f (fun z => q z.1)] at h; exact h
end QP
