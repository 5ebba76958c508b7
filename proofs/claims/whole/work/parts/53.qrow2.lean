/-! ===== more questions about rows ===== -/
noncomputable def ytn (D : vD) (E : Int → Int) (f t i : Int) : Int := vif (ytc D E f t i) 1 0
/-- the first letter from i on, of n, that holds x -/
noncomputable def yfi (D : vD) (E : Int → Int) (f t x : Int) : Nat → Int → Int
  | 0, _ => -2
  | n + 1, i => vif (yho D E f t i x) i (yfi D E f t x n (i + 1))
/-- the fullest or the emptiest of the first rows -/
def yws (D : vD) (E : Int → Int) (g : Int) : Nat → Int × Int
  | 0 => (-2, 0)
  | n + 1 => if (yws D E g n).1 = -2 ∨ (g = 0 ∧ yW D E (eF D E n) (eF D E (n + 1)) < (yws D E g n).2) ∨ (¬ g = 0 ∧ (yws D E g n).2 < yW D E (eF D E n) (eF D E (n + 1))) then ((n : Int), yW D E (eF D E n) (eF D E (n + 1))) else yws D E g n
theorem yws_bd {D : vD} {E : Int → Int} {g : Int} : ∀ n, (yws D E g n).1 = -2 ∨ 0 ≤ (yws D E g n).1
  | 0 => Or.inl rfl
  | n + 1 => by
    have i := yws_bd (D := D) (E := E) (g := g) n
    unfold yws
    split
    · right; dsimp only; omega
    · exact i
section QR2
variable {D : vD} {E : Int → Int} {m : vm_M}
theorem q_touches (c : CC D E m) {row : Int} {G : Int → Int → vm_M → Prop} (h : ∀ z m', vfr vSQ m m' → CC D E m' → G z z m') : vm_C 134 [vm_r 0, vm_i row] m (vm_qi (fun z1 m1 => vP m m1 ∧ vm_C 265 [vm_r 96, vm_i row] m1 (vm_qi (fun z2 m2 => G z1 z2 m2)))) := by
  refine qpair c (vif (yv D E row) (vs (ytn D E (yf D E row) (yt D E row)) (vcl D (yf D E row) (yt D E row)).toNat) (-1)) (fun Q m hX h => ?_) (fun Q m hM h => ?_) h
  · refine ru10_touches_0 (sx_rowq c.1 hX (fun m' f x l k => ⟨fun _ => ?_, fun z => by omega⟩) (fun m' f x k => ⟨fun z => absurd rfl z, fun _ => ?_⟩))
    · replace h := h m' f x
      rw [vif_t k] at h
      obtain ⟨a1, a2, a3, a4, a5⟩ := yv_ok c.1 k
      have R := vRx_of c.1 l k
      have hcb := vcl_bd2 c.1.2.1 a1 (Int.le_of_lt a2) a3
      generalize yf D E row = ff at *
      generalize yt D E row = tt at *
      obtain ⟨r, rfl⟩ : ∃ r : Nat, row = r := ⟨row.toNat, a5.symm⟩
      rw [Int.toNat_natCast] at R
      refine sx_lettersIn c.1.2.1 x.2.1 R.1 a1 a2 a3 R.2.1 R.2.2.1 ?_
      have go : ∀ (n j : Nat), (j : Int) + n = vcl D ff tt → ku10_touches_31 r (vs (ytn D E ff tt) j) (vcl D ff tt) j m' Q := by
        intro n
        induction n with
        | zero =>
          intro j hj
          have e : (vcl D ff tt).toNat = j := by omega
          rw [e] at h
          exact ru10_touches_31 ⟨fun _ => h, fun z => by omega⟩
        | succ n ih =>
          intro j hj
          have b := vs_bd (f := ytn D E ff tt) (lo := 0) (hi := 1) j (fun i _ _ => vif_01)
          have i1 := ih (j + 1) (by omega)
          have es : vs (ytn D E ff tt) (j + 1) = vs (ytn D E ff tt) j + vif (ytc D E ff tt j) 1 0 := rfl
          rw [es, show ((j + 1 : Nat) : Int) = (j : Int) + 1 by omega] at i1
          refine ru10_touches_31 ⟨fun z => by omega, fun _ => sx_spot c.1.2.1 x.2.1 R.1 a1 a2 a3 R.2.1 R.2.2.1 (i := (j : Int)) ⟨by omega, by omega⟩ (fun v => sx_touch c.1 x.1 x.2.1 a1 a2 a3 R (by omega) v (fun q => ⟨fun z => by omega, fun _ => ⟨by omega, ?_⟩⟩) (fun q => ⟨fun _ => ⟨by omega, ?_⟩, fun z => absurd rfl z⟩)) (fun v => by omega)⟩
          · rw [vif_t q] at i1; exact i1
          · rw [vif_f q, Int.add_zero] at i1; exact i1
      exact go (vcl D ff tt).toNat 0 (by omega)
    · replace h := h m' f x
      rw [vif_f k] at h; exact h
  · refine ru11_touches_0 (sm_rowAt c.1 hM (fun m' f hM' k e1 e2 R => ⟨fun _ => ?_, fun z => by omega⟩) (fun m' f k => ⟨fun z => absurd rfl z, fun _ => ?_⟩))
    · replace h := h m' f
      rw [vif_t k] at h
      obtain ⟨a1, a2, a3, a4, a5⟩ := yv_ok c.1 k
      have hcb := vcl_bd2 c.1.2.1 a1 (Int.le_of_lt a2) a3
      have hz := c.1.2.2.2.2.2.2.2.1
      generalize yf D E row = ff at *
      generalize yt D E row = tt at *
      have go : ∀ (n j : Nat) (w4 w5 : Option vm_V), (j : Int) + n = vcl D ff tt → ku11_touches_14 row (vs (ytn D E ff tt) j) j w4 w5 m' Q := by
        intro n
        induction n with
        | zero =>
          intro j w4 w5 hj
          have e : (vcl D ff tt).toNat = j := by omega
          rw [e] at h
          refine ru11_touches_14 ?_
          rw [R.2.2.2.2.2.1]
          exact ⟨fun _ => h, fun z => by omega⟩
        | succ n ih =>
          intro j w4 w5 hj
          have b := vs_bd (f := ytn D E ff tt) (lo := 0) (hi := 1) j (fun i _ _ => vif_01)
          have i1 := fun w4 w5 => ih (j + 1) w4 w5 (by omega)
          have es : vs (ytn D E ff tt) (j + 1) = vs (ytn D E ff tt) j + vif (ytc D E ff tt j) 1 0 := rfl
          rw [es, show ((j + 1 : Nat) : Int) = (j : Int) + 1 by omega] at i1
          refine ru11_touches_14 ?_
          rw [R.2.2.2.2.2.1]
          refine ⟨fun z => by omega, fun _ => ?_⟩
          have gb : ∀ (n : Nat) (y b : Int), 0 ≤ b → b + n = 6 → (y = 0 ∧ (∀ x, 0 ≤ x → x < b → ¬ (yn D ff tt j ∧ ¬ yop D ff j x ∧ ywh D E ff tt j x ≤ 0))) ∨ (y = 1 ∧ ytc D E ff tt j) → ku11_touches_28 row (vs (ytn D E ff tt) j) j y b m' Q := by
            intro n
            induction n with
            | zero =>
              intro y b hb hn hy
              refine ru11_touches_28 ⟨fun _ => ⟨fun z => ⟨by omega, ?_⟩, fun z => ⟨by omega, ?_⟩⟩, fun z => by omega⟩
              · rcases hy with ⟨-, hy⟩ | hy
                · have := i1 (some (vm_i y)) (some (vm_i b))
                  rw [vif_f (fun q => by
                    obtain ⟨b2, d1, d2, d3, d4⟩ := q.2
                    exact hy b2 d1 (by omega) ⟨q.1, d3, d4⟩)] at this
                  exact this
                · omega
              · rcases hy with hy | ⟨-, hy⟩
                · omega
                · have := i1 (some (vm_i y)) (some (vm_i b))
                  rw [vif_t hy] at this
                  exact this
            | succ n ihb =>
              intro y b hb hn hy
              refine ru11_touches_28 ⟨fun z => by omega, fun _ => sm_hasNext c.1 a1 a2 a3 R (by omega) (fun hx => ⟨fun z => by omega, fun _ => ⟨fun z => ⟨by omega, ?_⟩, fun z => sm_isOpen c.1 hM' a1 a2 a3 R (by omega) hx ⟨hb, by omega⟩ (fun o => ⟨fun _ => ⟨by omega, ?_⟩, fun q => by omega⟩) (fun o => ⟨fun q => absurd rfl q, fun _ => sm_white c.1 hM' a1 a2 a3 R (by omega) hx ⟨hb, by omega⟩ ⟨fun q => ⟨by omega, ?_⟩, fun q => ⟨by omega, ?_⟩⟩⟩)⟩⟩) (fun hx => ⟨fun _ => ⟨fun z => ⟨by omega, ?_⟩, fun z => ⟨by omega, ?_⟩⟩, fun q => absurd rfl q⟩)⟩
              · rcases hy with hy | ⟨-, hy⟩
                · omega
                · exact ihb 1 (b + 1) (by omega) (by omega) (Or.inr ⟨rfl, hy⟩)
              · rcases hy with ⟨-, hy⟩ | hy
                · refine ihb 0 (b + 1) (by omega) (by omega) (Or.inl ⟨rfl, fun x x1 x2 x3 => ?_⟩)
                  by_cases hq : x = b
                  · rw [hq] at x3; exact x3.2.1 o
                  · exact hy x x1 (by omega) x3
                · omega
              · rcases hy with ⟨-, hy⟩ | hy
                · refine ihb 0 (b + 1) (by omega) (by omega) (Or.inl ⟨rfl, fun x x1 x2 x3 => ?_⟩)
                  by_cases hq : x = b
                  · rw [hq] at x3
                    have := Int.mul_nonpos_of_nonpos_of_nonneg x3.2.2 (show 0 ≤ E 5 by omega)
                    omega
                  · exact hy x x1 (by omega) x3
                · omega
              · refine ihb 1 (b + 1) (by omega) (by omega) (Or.inr ⟨rfl, hx, b, hb, by omega, o, ?_⟩)
                rcases Int.lt_or_le 0 (ywh D E ff tt j b) with a | a
                · have := Int.mul_pos a (show 0 < E 5 by omega)
                  omega
                · exact a
              · rcases hy with ⟨-, hy⟩ | hy
                · have := i1 (some (vm_i y)) (some (vm_i b))
                  rw [vif_f (fun q => hx q.1)] at this
                  exact this
                · omega
              · rcases hy with hy | ⟨-, hy⟩
                · omega
                · exact absurd hy.1 hx
          exact gb 6 0 0 (Int.le_refl _) (by omega) (Or.inl ⟨rfl, fun x x1 x2 => by omega⟩)
      exact go (vcl D ff tt).toNat 0 none none (by omega)
    · replace h := h m' f
      rw [vif_f k] at h; exact h
theorem q_at (c : CC D E m) {row x : Int} {G : Int → Int → vm_M → Prop} (h : ∀ z m', vfr vSQ m m' → CC D E m' → G z z m') : vm_C 136 [vm_r 0, vm_i row, vm_i x] m (vm_qi (fun z1 m1 => vP m m1 ∧ vm_C 267 [vm_r 96, vm_i row, vm_i x] m1 (vm_qi (fun z2 m2 => G z1 z2 m2)))) := by
  refine qpair c (vif (yv D E row ∧ 0 ≤ x ∧ x ≤ 9999) (yfi D E (yf D E row) (yt D E row) x (vcl D (yf D E row) (yt D E row)).toNat 0) (-1)) (fun Q m hX h => ?_) (fun Q m hM h => ?_) h
  · refine ru10_at_0 (sx_rowq c.1 hX (fun m' f xc l k => ⟨fun z => by omega, fun _ => ?_⟩) (fun m' f xc k => ⟨fun _ => ?_, fun z => absurd rfl z⟩))
    · replace h := h m' f xc
      refine ⟨fun q => by rw [vif_f (fun z => by omega)] at h; exact h, fun q => ⟨fun q2 => ?_, fun q2 => by rw [vif_f (fun z => by omega)] at h; exact h⟩⟩
      rw [vif_t ⟨k, by omega, q2⟩] at h
      obtain ⟨a1, a2, a3, a4, a5⟩ := yv_ok c.1 k
      have R := vRx_of c.1 l k
      have hcb := vcl_bd2 c.1.2.1 a1 (Int.le_of_lt a2) a3
      generalize yf D E row = ff at *
      generalize yt D E row = tt at *
      obtain ⟨r, rfl⟩ : ∃ r : Nat, row = r := ⟨row.toNat, a5.symm⟩
      rw [Int.toNat_natCast] at R
      refine sx_lettersIn c.1.2.1 xc.2.1 R.1 a1 a2 a3 R.2.1 R.2.2.1 ?_
      have go : ∀ (n : Nat) (j : Int), 0 ≤ j → j + n = vcl D ff tt → yfi D E ff tt x n j = yfi D E ff tt x (vcl D ff tt).toNat 0 → ku10_at_40 r x (vcl D ff tt) j m' Q := by
        intro n
        induction n with
        | zero =>
          intro j hj0 hj hk
          rw [← hk] at h
          exact ru10_at_40 ⟨fun _ => h, fun z => by omega⟩
        | succ n ih =>
          intro j hj0 hj hk
          have hk : vif (yho D E ff tt j x) j (yfi D E ff tt x n (j + 1)) = yfi D E ff tt x (vcl D ff tt).toNat 0 := hk
          refine ru10_at_40 ⟨fun z => by omega, fun _ => sx_spot c.1.2.1 xc.2.1 R.1 a1 a2 a3 R.2.1 R.2.2.1 (i := j) ⟨by omega, by omega⟩ (fun v => sx_holds c.1 xc.1 xc.2.1 xc.2.2.1 a1 a2 a3 R (by omega) v (fun q => ⟨fun z => by omega, fun _ => ?_⟩) (fun q => ⟨fun _ => ⟨by omega, ?_⟩, fun z => absurd rfl z⟩)) (fun v => by omega)⟩
          · rw [vif_t q] at hk
            rw [← hk] at h; exact h
          · rw [vif_f q] at hk
            exact ih (j + 1) (by omega) (by omega) hk
      exact go (vcl D ff tt).toNat 0 (Int.le_refl _) (by omega) rfl
    · replace h := h m' f xc
      rw [vif_f (fun z => k z.1)] at h; exact h
  · refine ru11_at_0 (sm_rowAt c.1 hM (fun m' f hM' k e1 e2 R => ⟨fun z => by omega, fun _ => ?_⟩) (fun m' f k => ⟨fun _ => ?_, fun z => absurd rfl z⟩))
    · replace h := h m' f
      refine sm_in (fun q3 => ⟨fun _ => ?_, fun z => by omega⟩) (fun q3 => ⟨fun z => absurd rfl z, fun _ => by rw [vif_f (fun z => q3 z.2)] at h; exact h⟩)
      rw [vif_t ⟨k, q3⟩] at h
      obtain ⟨a1, a2, a3, a4, a5⟩ := yv_ok c.1 k
      have hcb := vcl_bd2 c.1.2.1 a1 (Int.le_of_lt a2) a3
      have e5 : m' 100 5 = E 5 := hM'.2.2.2.2.2.2.2.1
      generalize yf D E row = ff at *
      generalize yt D E row = tt at *
      have go : ∀ (n : Nat) (j : Int), 0 ≤ j → j + n = vcl D ff tt → yfi D E ff tt x n j = yfi D E ff tt x (vcl D ff tt).toNat 0 → ku11_at_24 row x j m' Q := by
        intro n
        induction n with
        | zero =>
          intro j hj0 hj hk
          rw [← hk] at h
          refine ru11_at_24 ?_
          rw [R.2.2.2.2.2.1]
          exact ⟨fun _ => h, fun z => by omega⟩
        | succ n ih =>
          intro j hj0 hj hk
          have hk : vif (yho D E ff tt j x) j (yfi D E ff tt x n (j + 1)) = yfi D E ff tt x (vcl D ff tt).toNat 0 := hk
          obtain ⟨c1, c2, c3, c4⟩ := sm_cells c.1 a1 a2 a3 R hj0 (by omega)
          have ka := ya_ok c.1.2.1 a1 a2 a3 hj0 (show j < vcl D ff tt by omega)
          have ka1 : 0 ≤ ya D ff j ∧ ya D ff j < 26 := ⟨ka.1, ka.2.1⟩
          have b1 := yz_bd c.1.1 c.1.2.2 ka
          have b2 := ypl_bd c.1.1 c.1.2.1 c.1.2.2 a1 a2 a3 hj0 (show j < vcl D ff tt by omega)
          have e98 : m' 98 (ya D ff j) = dW D (ya D ff j) := hM'.1.2.2.1 _ ka
          have hnext : ¬ yho D E ff tt j x → ku11_at_24 row x (j + 1) m' Q := fun q => by
            rw [vif_f q] at hk
            exact ih (j + 1) (by omega) (by omega) hk
          refine ru11_at_24 ?_
          rw [R.2.2.2.2.2.1, c2, c3, e98, e5]
          refine ⟨fun z => by omega, fun _ => ⟨by omega, fun q => ⟨by omega, hnext (fun z => by have := z.1; omega)⟩, fun q => ⟨by omega, fun q2 => ⟨by omega, hnext (fun z => by have := z.2; omega)⟩, fun q2 => ?_⟩⟩⟩
          rw [vif_t ⟨by omega, by omega⟩] at hk
          rw [← hk] at h; exact h
      exact go (vcl D ff tt).toNat 0 (Int.le_refl _) (by omega) rfl
    · replace h := h m' f
      rw [vif_f (fun z => k z.1)] at h; exact h
theorem q_widest (c : CC D E m) {g : Int} {G : Int → Int → vm_M → Prop} (h : ∀ z m', vfr vSQ m m' → CC D E m' → G z z m') : vm_C 135 [vm_r 0, vm_i g] m (vm_qi (fun z1 m1 => vP m m1 ∧ vm_C 266 [vm_r 96, vm_i g] m1 (vm_qi (fun z2 m2 => G z1 z2 m2)))) := by
  have hq := eQ_ok c.1.1 c.1.2.1 c.1.2.2
  refine qpair c (yws D E g (eQ D E)).1 (fun Q m hX h => ?_) (fun Q m hM h => ?_) h
  · refine ru10_widest_0 (sx_layOut c.1 hX (fun m' f x l _ => ?_))
    replace h := h m' f x
    have e8 : m' 67 8 = (eQ D E : Int) := l.2.2.1.1
    have go : ∀ (n k : Nat) (w5 w6 : Option vm_V), k + n = eQ D E → ku10_widest_12 g (yws D E g k).1 (yws D E g k).2 k w5 w6 m' Q := by
      intro n
      induction n with
      | zero =>
        intro k w5 w6 hk
        have hk : k = eQ D E := by omega
        rw [← hk] at h
        exact ru10_widest_12 ⟨fun _ => h, fun z => by rw [e8] at z; omega⟩
      | succ n ih =>
        intro k w5 w6 hk
        have i1 := fun w5 w6 => ih (k + 1) w5 w6 (by omega)
        unfold yws at i1
        have e79 : m' 79 (k : Int) = yW D E (eF D E k) (eF D E (k + 1)) := (l.2.2.2 k (by omega)).1.2.1
        refine ru10_widest_12 ⟨fun z => by rw [e8] at z; omega, fun _ => ⟨by omega, ?_⟩⟩
        rw [e79]
        generalize yW D E (eF D E k) (eF D E (k + 1)) = d at *
        generalize yws D E g k = s at *
        have new : (s.1 = -2 ∨ (g = 0 ∧ d < s.2) ∨ (¬ g = 0 ∧ s.2 < d)) → ∀ w5 w6, ku10_widest_12 g k d ((k : Int) + 1) w5 w6 m' Q := fun q w5 w6 => by
          have := i1 w5 w6
          rw [if_pos q] at this; exact this
        have old : ¬ (s.1 = -2 ∨ (g = 0 ∧ d < s.2) ∨ (¬ g = 0 ∧ s.2 < d)) → ∀ w5 w6, ku10_widest_12 g s.1 s.2 ((k : Int) + 1) w5 w6 m' Q := fun q w5 w6 => by
          have := i1 w5 w6
          rw [if_neg q] at this; exact this
        refine ⟨fun g0 => ⟨fun q => ⟨fun q2 => ⟨by omega, new (by omega) _ _⟩, fun q2 => ⟨fun _ => ⟨by omega, old (by omega) _ _⟩, fun z => absurd rfl z⟩⟩, fun q => ⟨fun q2 => ⟨by omega, new (by omega) _ _⟩, fun q2 => ⟨fun z => by omega, fun _ => ⟨by omega, new (by omega) _ _⟩⟩⟩⟩, fun g0 => ⟨fun q => ⟨fun q2 => ⟨by omega, new (by omega) _ _⟩, fun q2 => ⟨fun _ => ⟨by omega, old (by omega) _ _⟩, fun z => absurd rfl z⟩⟩, fun q => ⟨fun q2 => ⟨by omega, new (by omega) _ _⟩, fun q2 => ⟨fun z => by omega, fun _ => ⟨by omega, new (by omega) _ _⟩⟩⟩⟩⟩
    exact go _ 0 none none (Nat.zero_add _)
  · refine ru11_widest_0 (sm_laysRows c.1.1 c.1.2.1 c.1.2.2 hM.1 hM.2.1 hM.2.2 (fun m1 f1 p1 l1 => ?_))
    have f1' := vSl_m f1
    have go : ∀ (n k : Nat) (m2 : vm_M), k + n = eQ D E → vfr vSm m m2 → vLm (bR (eB D E)) (E 6) m2 → ku11_widest_12 g (yws D E g k).1 (yws D E g k).2 k m2 Q := by
      intro n
      induction n with
      | zero =>
        intro k m2 hk f2 l2
        have e14 : m2 96 14 = (eQ D E : Int) := l2.1
        have h := h m2 f2
        have hk : k = eQ D E := by omega
        rw [← hk] at h
        exact ru11_widest_12 ⟨fun _ => h, fun z => by rw [e14] at z; omega⟩
      | succ n ih =>
        intro k m2 hk f2 l2
        have e14 : m2 96 14 = (eQ D E : Int) := l2.1
        have e1 : m2 105 (k : Int) = eF D E k := l2.2 k (by unfold eQ at hk; omega) (by unfold eQ at hk; omega)
        have e2 : m2 105 ((k + 1 : Nat) : Int) = eF D E (k + 1) := l2.2 (k + 1) (by unfold eQ at hk; omega) (by unfold eQ at hk; omega)
        obtain ⟨b1, b2, b3⟩ := hq.2.2.2.1 k (by omega)
        have hb := yws_bd (D := D) (E := E) (g := g) k
        refine ru11_widest_12 ⟨fun z => by rw [e14] at z; omega, fun _ => sm_laysRow c.1 (hM.fm f2) (by omega) b1 (by omega) b3 e1 e2 (fun m3 f3 r3 => ?_)⟩
        have l3 : vLm (bR (eB D E)) (E 6) m3 := ⟨by rw [f3 _ _ (vSmr_n (by omega) (by omega)), l2.1], fun r a b => by rw [f3 _ _ (vSmr_n (by omega) (by omega))]; exact l2.2 r a b⟩
        have i1 := ih (k + 1) m3 (by omega) (f2.tr (vSmr_m f3)) l3
        unfold yws at i1
        rw [r3.2.1]
        generalize yW D E (eF D E k) (eF D E (k + 1)) = d at *
        generalize yws D E g k = s at *
        have new : (s.1 = -2 ∨ (g = 0 ∧ d < s.2) ∨ (¬ g = 0 ∧ s.2 < d)) → ku11_widest_12 g k d ((k : Int) + 1) m3 Q := fun q => by
          rw [if_pos q] at i1; exact i1
        have old : ¬ (s.1 = -2 ∨ (g = 0 ∧ d < s.2) ∨ (¬ g = 0 ∧ s.2 < d)) → ku11_widest_12 g s.1 s.2 ((k : Int) + 1) m3 Q := fun q => by
          rw [if_neg q] at i1; exact i1
        exact ⟨fun q => ⟨by omega, new (by omega)⟩, fun q => ⟨fun g0 => ⟨fun q2 => ⟨by omega, old (by omega)⟩, fun q2 => ⟨by omega, new (by omega)⟩⟩, fun g0 => ⟨fun q2 => ⟨by omega, old (by omega)⟩, fun q2 => ⟨by omega, new (by omega)⟩⟩⟩⟩
    exact go _ 0 m1 (Nat.zero_add _) f1' l1
theorem q_row (c : CC D E m) {row w : Int} {G : Int → Int → vm_M → Prop} (h : ∀ z m', vfr vSQ m m' → CC D E m' → G z z m') : vm_C 128 [vm_r 0, vm_i row, vm_i w] m (vm_qi (fun z1 m1 => vP m m1 ∧ vm_C 255 [vm_r 96, vm_i row, vm_i w] m1 (vm_qi (fun z2 m2 => G z1 z2 m2)))) := by
  have hN := c.1.2.1.2.2.1
  refine qpair c (vif (yv D E row) (if w = 0 then yf D E row else if w = 1 then yt D E row - yf D E row else if w = 2 then vcl D (yf D E row) (yt D E row) else if w = 3 then yG D E (yf D E row) (yt D E row) else if w = 4 then yW D E (yf D E row) (yt D E row) else if w = 5 then y0 D E (yf D E row) (yt D E row) else if w = 6 then ylack E (yW D E (yf D E row) (yt D E row)) else if w = 7 then (if yt D E row - yf D E row = 1 then -2 else yS D E (yf D E row) (yt D E row)) else if w = 8 then (if yt D E row - yf D E row = 1 then -2 else yS D E (yf D E row) (yt D E row) + (if 0 < yX D E (yf D E row) (yt D E row) then 1 else 0)) else -1) (-1)) (fun Q m hX h => ?_) (fun Q m hM h => ?_) h
  · refine ru10_row_0 (sx_rowq c.1 hX (fun m' f x l k => ⟨fun _ => ?_, fun z => by omega⟩) (fun m' f x k => ⟨fun z => absurd rfl z, fun _ => ?_⟩))
    · replace h := h m' f x
      rw [vif_t k] at h
      obtain ⟨a1, a2, a3, a4, a5⟩ := yv_ok c.1 k
      have R := vRx_of c.1 l k
      have hWb := yW_bd c.1.1 c.1.2.1 c.1.2.2 a1 a2 a3
      have hXb := yX_bd c.1.1 c.1.2.1 c.1.2.2 a1 a2 a3
      have hI := c.1.2.2.1
      have e0 : m' 10 0 = E 0 := x.2.2.1.1
      generalize yf D E row = ff at *
      generalize yt D E row = tt at *
      obtain ⟨r, rfl⟩ : ∃ r : Nat, row = r := ⟨row.toNat, a5.symm⟩
      rw [Int.toNat_natCast] at R
      obtain ⟨R1, R2, R3, ⟨R4, R5, R6, R7, R8⟩, R9⟩ := R
      have hmx : (if 0 < E 0 - yW D E ff tt then E 0 - yW D E ff tt else 0) = ylack E (yW D E ff tt) := by
        unfold ylack
        repeat' split
        all_goals omega
      refine ru1_wordsIn_0 rfl ⟨by rw [show (67 : Nat) + 3 = 70 from rfl, R2, R3]; omega, ?_⟩
      rw [show (67 : Nat) + 3 = 70 from rfl, R2, R3]
      refine ⟨fun q => ⟨fun w0 => ⟨by omega, ?_⟩, fun w0 => ⟨fun w1 => ?_, fun w1 => ⟨fun w2 => ?_, fun w2 => ⟨fun w3 => ⟨by omega, ?_⟩, fun w3 => ⟨fun w4 => ⟨by omega, ?_⟩, fun w4 => ⟨fun w5 => ⟨by omega, ?_⟩, fun w5 => ⟨fun w6 => ?_, fun w6 => ⟨fun w7 => ⟨fun _ => ?_, fun z => absurd rfl z⟩, fun w7 => ⟨fun w8 => ⟨fun _ => ?_, fun z => absurd rfl z⟩, fun w8 => ?_⟩⟩⟩⟩⟩⟩⟩⟩⟩, fun q => ⟨fun w0 => ⟨by omega, ?_⟩, fun w0 => ⟨fun w1 => ?_, fun w1 => ⟨fun w2 => ?_, fun w2 => ⟨fun w3 => ⟨by omega, ?_⟩, fun w3 => ⟨fun w4 => ⟨by omega, ?_⟩, fun w4 => ⟨fun w5 => ⟨by omega, ?_⟩, fun w5 => ⟨fun w6 => ?_, fun w6 => ⟨fun w7 => ⟨fun z => by omega, fun _ => ?_⟩, fun w7 => ⟨fun w8 => ⟨fun z => by omega, fun _ => ?_⟩, fun w8 => ?_⟩⟩⟩⟩⟩⟩⟩⟩⟩⟩
      · rw [if_pos w0] at h; exact h
      · rw [if_neg w0, if_pos w1] at h
        refine ru1_wordsIn_0 rfl ?_
        rw [show (67 : Nat) + 3 = 70 from rfl, R2, R3]
        exact ⟨by omega, h⟩
      · rw [if_neg w0, if_neg w1, if_pos w2] at h
        exact sx_lettersIn c.1.2.1 x.2.1 R1 a1 a2 a3 R2 R3 h
      · rw [if_neg w0, if_neg w1, if_neg w2, if_pos w3] at h; rw [R4]; exact h
      · rw [if_neg w0, if_neg w1, if_neg w2, if_neg w3, if_pos w4] at h; rw [R5]; exact h
      · rw [if_neg w0, if_neg w1, if_neg w2, if_neg w3, if_neg w4, if_pos w5] at h; rw [R6]; exact h
      · rw [if_neg w0, if_neg w1, if_neg w2, if_neg w3, if_neg w4, if_neg w5, if_pos w6] at h
        rw [R5, e0, hmx]
        exact ⟨by omega, h⟩
      · rw [if_neg w0, if_neg w1, if_neg w2, if_neg w3, if_neg w4, if_neg w5, if_neg w6, if_pos w7, if_pos (by omega)] at h; exact h
      · rw [if_neg w0, if_neg w1, if_neg w2, if_neg w3, if_neg w4, if_neg w5, if_neg w6, if_neg w7, if_pos w8, if_pos (by omega)] at h; exact h
      · rw [if_neg w0, if_neg w1, if_neg w2, if_neg w3, if_neg w4, if_neg w5, if_neg w6, if_neg w7, if_neg w8] at h; exact h
      · rw [if_pos w0] at h; exact h
      · rw [if_neg w0, if_pos w1] at h
        refine ru1_wordsIn_0 rfl ?_
        rw [show (67 : Nat) + 3 = 70 from rfl, R2, R3]
        exact ⟨by omega, h⟩
      · rw [if_neg w0, if_neg w1, if_pos w2] at h
        exact sx_lettersIn c.1.2.1 x.2.1 R1 a1 a2 a3 R2 R3 h
      · rw [if_neg w0, if_neg w1, if_neg w2, if_pos w3] at h; rw [R4]; exact h
      · rw [if_neg w0, if_neg w1, if_neg w2, if_neg w3, if_pos w4] at h; rw [R5]; exact h
      · rw [if_neg w0, if_neg w1, if_neg w2, if_neg w3, if_neg w4, if_pos w5] at h; rw [R6]; exact h
      · rw [if_neg w0, if_neg w1, if_neg w2, if_neg w3, if_neg w4, if_neg w5, if_pos w6] at h
        rw [R5, e0, hmx]
        exact ⟨by omega, h⟩
      · rw [if_neg w0, if_neg w1, if_neg w2, if_neg w3, if_neg w4, if_neg w5, if_neg w6, if_pos w7, if_neg (by omega)] at h
        refine ru1_wordsIn_0 rfl ?_
        rw [show (67 : Nat) + 3 = 70 from rfl, R2, R3]
        refine ⟨by omega, by omega, sx_space c.1.1 c.1.2.1 c.1.2.2 R1 a1 a2 a3 ⟨R4, R5, R6, R7, R8⟩ ?_⟩
        rw [if_neg (by have := hXb.2.2; omega), Int.add_zero]; exact h
      · rw [if_neg w0, if_neg w1, if_neg w2, if_neg w3, if_neg w4, if_neg w5, if_neg w6, if_neg w7, if_pos w8, if_neg (by omega)] at h
        exact sx_space c.1.1 c.1.2.1 c.1.2.2 R1 a1 a2 a3 ⟨R4, R5, R6, R7, R8⟩ h
      · rw [if_neg w0, if_neg w1, if_neg w2, if_neg w3, if_neg w4, if_neg w5, if_neg w6, if_neg w7, if_neg w8] at h; exact h
    · replace h := h m' f x
      rw [vif_f k] at h; exact h
  · refine ru11_row_0 (sm_rowAt c.1 hM (fun m' f hM' k e1 e2 R => ⟨fun _ => ?_, fun z => by omega⟩) (fun m' f k => ⟨fun z => absurd rfl z, fun _ => ?_⟩))
    · replace h := h m' f
      rw [vif_t k] at h
      obtain ⟨a1, a2, a3, a4, a5⟩ := yv_ok c.1 k
      have hWb := yW_bd c.1.1 c.1.2.1 c.1.2.2 a1 a2 a3
      have hSb := yS_bd c.1.1 c.1.2.1 c.1.2.2 a1 a2 a3
      have hI := c.1.2.2.1
      generalize yf D E row = ff at *
      generalize yt D E row = tt at *
      obtain ⟨R4, R5, R6, R7, R8, R9, -⟩ := R
      rw [e1, e2, R4, R5, R6, R7, R8, R9]
      refine ⟨by omega, fun w0 => ⟨by omega, ?_⟩, fun w0 => ⟨fun w1 => ?_, fun w1 => ⟨fun w2 => ?_, fun w2 => ⟨fun w3 => ?_, fun w3 => ⟨fun w4 => ?_, fun w4 => ⟨fun w5 => ?_, fun w5 => ⟨fun w6 => ?_, fun w6 => ⟨fun w7 => ⟨fun q => ?_, fun q => ?_⟩, fun w7 => ⟨fun w8 => ⟨fun q => ⟨fun q2 => ⟨by omega, ?_⟩, fun q2 => ⟨by omega, ?_⟩⟩, fun q => ?_⟩, fun w8 => ?_⟩⟩⟩⟩⟩⟩⟩⟩⟩
      · rw [if_pos w0] at h; exact h
      · rw [if_neg w0, if_pos w1] at h; exact h
      · rw [if_neg w0, if_neg w1, if_pos w2] at h; exact h
      · rw [if_neg w0, if_neg w1, if_neg w2, if_pos w3] at h; exact h
      · rw [if_neg w0, if_neg w1, if_neg w2, if_neg w3, if_pos w4] at h; exact h
      · rw [if_neg w0, if_neg w1, if_neg w2, if_neg w3, if_neg w4, if_pos w5] at h; exact h
      · rw [if_neg w0, if_neg w1, if_neg w2, if_neg w3, if_neg w4, if_neg w5, if_pos w6] at h
        exact sm_lacks hM'.2.2 hI ⟨by omega, by omega⟩ h
      · rw [if_neg w0, if_neg w1, if_neg w2, if_neg w3, if_neg w4, if_neg w5, if_neg w6, if_pos w7, if_neg q] at h; exact h
      · rw [if_neg w0, if_neg w1, if_neg w2, if_neg w3, if_neg w4, if_neg w5, if_neg w6, if_pos w7, if_pos (Classical.not_not.mp q)] at h; exact h
      · rw [if_neg w0, if_neg w1, if_neg w2, if_neg w3, if_neg w4, if_neg w5, if_neg w6, if_neg w7, if_pos w8, if_neg q, if_neg (by omega)] at h; exact h
      · rw [if_neg w0, if_neg w1, if_neg w2, if_neg w3, if_neg w4, if_neg w5, if_neg w6, if_neg w7, if_pos w8, if_neg q, if_pos (by omega)] at h; exact h
      · rw [if_neg w0, if_neg w1, if_neg w2, if_neg w3, if_neg w4, if_neg w5, if_neg w6, if_neg w7, if_pos w8, if_pos (Classical.not_not.mp q)] at h; exact h
      · rw [if_neg w0, if_neg w1, if_neg w2, if_neg w3, if_neg w4, if_neg w5, if_neg w6, if_neg w7, if_neg w8] at h; exact h
    · replace h := h m' f
      rw [vif_f k] at h; exact h
end QR2
