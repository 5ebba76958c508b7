/-! ===== questions about words, fitting ===== -/
section QF
variable {D : vD} {E : Int → Int} {m m' : vm_M}
theorem qpair1 {fx fm : Nat} {ax am : List vm_V} (c : CC D E m) (ans : Int) (hx : ∀ (Q : Int → vm_M → Prop), (∀ m', vfr vSX m m' → XC D E m' → Q ans m') → vm_C fx ax m (vm_qi Q)) (hm : ∀ (Q : Int → vm_M → Prop) (m : vm_M), MC D E m → (∀ m', vfr vSm m m' → Q ans m') → vm_C fm am m (vm_qi Q)) {G : Int → Int → vm_M → Prop} (h : ∀ z m', vfr vSQ m m' → CC D E m' → G z z m') : vm_C fx ax m (vm_qi (fun z1 m1 => vP m m1 ∧ vm_C fm am m1 (vm_qi (fun z2 m2 => G z1 z2 m2)))) := by
  refine hx _ (fun m1 f1 x1 => ?_)
  have c1 := c.2.2.fx f1
  refine ⟨fun k i a => f1 k i (vSX_n (by omega) (by omega)), ?_⟩
  refine hm _ m1 c1 (fun m2 f2 => ?_)
  exact h _ m2 ((vSX_Q f1).tr (vSm_Q f2)) ⟨c.1, x1.fm f2, c1.fm f2⟩
/-- the row of a word -/
def yro (D : vD) (E : Int → Int) (w : Int) : Nat → Nat → Int
  | 0, _ => -2
  | n + 1, r => if w < eF D E (r + 1) then r else yro D E w n (r + 1)
theorem yro_bd {w : Int} : ∀ (n r : Nat), yro D E w n r = -2 ∨ (0 ≤ yro D E w n r ∧ yro D E w n r < r + n)
  | 0, r => Or.inl rfl
  | n + 1, r => by
    unfold yro
    split
    · right; omega
    · rcases yro_bd (w := w) n (r + 1) with a | a
      · exact Or.inl a
      · right; omega
theorem sx_rowOf {Q : Int → vm_M → Prop} (hO : OC D E) (hL : vLd D E m) {w : Int} (hw : 0 ≤ w) (h : Q (yro D E w (eQ D E) 0) m) : vm_C 17 [vm_r 67, vm_i w] m (vm_qi Q) := by
  have hq := eQ_ok hO.1 hO.2.1 hO.2.2
  have e8 : m 67 8 = (eQ D E : Int) := hL.2.2.1.1
  have go : ∀ (n r : Nat), r + n = eQ D E → yro D E w n r = yro D E w (eQ D E) 0 → eF D E r ≤ w → ku1_rowOf_2 67 w r m Q := by
    intro n
    induction n with
    | zero =>
      intro r hr hk hf
      rw [← hk] at h
      exact ru1_rowOf_2 rfl ⟨fun _ => h, fun z => by rw [e8] at z; omega⟩
    | succ n ih =>
      intro r hr hk hf
      have e1 : m 70 (r : Int) = eF D E r := hL.2.2.1.2 r (by unfold eQ at hr; omega) (by unfold eQ at hr; omega)
      have e2 : m 70 ((r + 1 : Nat) : Int) = eF D E (r + 1) := hL.2.2.1.2 (r + 1) (by unfold eQ at hr; omega) (by unfold eQ at hr; omega)
      rw [show ((r + 1 : Nat) : Int) = (r : Int) + 1 by omega] at e2
      have hk : (if w < eF D E (r + 1) then (r : Int) else yro D E w n (r + 1)) = yro D E w (eQ D E) 0 := hk
      refine ru1_rowOf_2 rfl ⟨fun z => by rw [e8] at z; omega, fun _ => ?_⟩
      rw [show (67 : Nat) + 3 = 70 from rfl, e1, e2]
      refine ⟨by omega, fun z => by omega, fun _ => ⟨by omega, fun z => ⟨by omega, ?_⟩, fun z => ?_⟩⟩
      · rw [if_neg (by omega)] at hk
        exact ih (r + 1) (by omega) hk z
      · rw [if_pos (by omega)] at hk
        rw [← hk] at h; exact h
  by_cases hz : eQ D E = 0
  · rw [hz] at h
    exact ru1_rowOf_0 rfl (ru1_rowOf_2 rfl ⟨fun _ => h, fun z => by rw [e8] at z; omega⟩)
  · exact ru1_rowOf_0 rfl (go _ 0 (Nat.zero_add _) rfl (by rw [hq.2.1]; exact hw))
theorem sm_rowOf {Q : Int → vm_M → Prop} (hO : OC D E) (hM : MC D E m) {w : Int} (h : ∀ m', vfr vSm m m' → vLm (bR (eB D E)) (E 6) m' → Q (yro D E w (eQ D E) 0) m') : vm_C 250 [vm_r 96, vm_i w] m (vm_qi Q) := by
  have hq := eQ_ok hO.1 hO.2.1 hO.2.2
  refine ru11_rowOf_0 (sm_laysRows hO.1 hO.2.1 hO.2.2 hM.1 hM.2.1 hM.2.2 (fun m1 f1 p1 l1 => ?_))
  have h := h m1 (vSl_m f1) l1
  have e14 : m1 96 14 = (eQ D E : Int) := l1.1
  have go : ∀ (n r : Nat), r + n = eQ D E → yro D E w n r = yro D E w (eQ D E) 0 → ku11_rowOf_6 w r m1 Q := by
    intro n
    induction n with
    | zero =>
      intro r hr hk
      rw [← hk] at h
      exact ru11_rowOf_6 ⟨fun _ => ⟨fun _ => h, fun z => by rw [e14] at z; omega⟩, fun z => by rw [e14] at z; omega⟩
    | succ n ih =>
      intro r hr hk
      have e2 : m1 105 ((r + 1 : Nat) : Int) = eF D E (r + 1) := l1.2 (r + 1) (by unfold eQ at hr; omega) (by unfold eQ at hr; omega)
      rw [show ((r + 1 : Nat) : Int) = (r : Int) + 1 by omega] at e2
      have hk : (if w < eF D E (r + 1) then (r : Int) else yro D E w n (r + 1)) = yro D E w (eQ D E) 0 := hk
      refine ru11_rowOf_6 ⟨fun z => by rw [e14] at z; omega, fun _ => ?_⟩
      rw [e2, e14]
      refine ⟨by omega, fun z => ⟨fun z2 => by omega, fun _ => ?_⟩, fun z => ⟨by omega, ?_⟩⟩
      · rw [if_pos z] at hk
        rw [← hk] at h; exact h
      · rw [if_neg z] at hk
        exact ih (r + 1) (by omega) hk
  exact go _ 0 (Nat.zero_add _) rfl
theorem q_word (c : CC D E m) {i w : Int} {G : Int → Int → vm_M → Prop} (h : ∀ z m', vfr vSQ m m' → CC D E m' → G z z m') : vm_C 125 [vm_r 0, vm_i i, vm_i w] m (vm_qi (fun z1 m1 => vP m m1 ∧ vm_C 252 [vm_r 96, vm_i i, vm_i w] m1 (vm_qi (fun z2 m2 => G z1 z2 m2)))) := by
  obtain ⟨hD, hO, hE⟩ := c.1
  have hN := hO.2.2.1
  have hG := hE.2.2.2.1
  have hq := eQ_ok hD hO hE
  refine qpair c (vif (0 ≤ i ∧ i < dN D) (if w = 0 then dL D i else if w = 1 then vww D (E 3) i * E 5 else if w = 2 then yro D E i (eQ D E) 0 else if w = 3 then (if yro D E i (eQ D E) 0 = -2 then -2 else i - eF D E (yro D E i (eQ D E) 0).toNat) else -1) (-1)) (fun Q m hX h => ?_) (fun Q m hM h => ?_) h
  · refine ru10_word_0 (sx_hasWord hX.2.1 (fun k => ⟨fun _ => sx_layOut c.1 hX (fun m' f x l _ => ?_), fun z => by omega⟩) (fun k => ⟨fun z => absurd rfl z, fun _ => ?_⟩))
    · have h := h m' f x
      rw [vif_t k] at h
      have hyb := yro_bd (D := D) (E := E) (w := i) (eQ D E) 0
      have e12 : m' 12 i = dL D i := x.2.1.2.2.1 i k.1 k.2
      have e3 : m' 10 3 = E 3 := x.2.2.1.2.2.2.1
      have e5 : m' 10 5 = E 5 := x.2.2.1.2.2.2.2.2.1
      have hzb := ywz_bd hD hO hE k hG.2
      refine sx_rowOf c.1 l k.1 ⟨fun w0 => ⟨by omega, ?_⟩, fun w0 => ⟨fun w1 => ?_, fun w1 => ⟨fun w2 => ?_, fun w2 => ⟨fun w3 => ⟨fun z => ?_, fun z => ?_⟩, fun w3 => ?_⟩⟩⟩⟩
      · rw [if_pos w0] at h; rw [e12]; exact h
      · rw [if_neg w0, if_pos w1] at h
        rw [e3]
        refine sx_of hD hO l.1 k hG ?_
        rw [e5]
        exact ⟨by omega, h⟩
      · rw [if_neg w0, if_neg w1, if_pos w2] at h; exact h
      · rw [if_neg w0, if_neg w1, if_neg w2, if_pos w3, if_neg z] at h
        obtain ⟨r, hr⟩ : ∃ r : Nat, yro D E i (eQ D E) 0 = r := ⟨(yro D E i (eQ D E) 0).toNat, by omega⟩
        rw [hr] at h z hyb ⊢
        rw [Int.toNat_natCast] at h
        have hr12 : r < eQ D E := by omega
        have e1 : m' 70 (r : Int) = eF D E r := l.2.2.1.2 r (by unfold eQ at hr12; omega) (by unfold eQ at hr12; omega)
        have hb := hq.2.2.2.1 r hr12
        rw [e1]
        exact ⟨by omega, h⟩
      · rw [if_neg w0, if_neg w1, if_neg w2, if_pos w3, if_pos (Classical.not_not.mp z)] at h; exact h
      · rw [if_neg w0, if_neg w1, if_neg w2, if_neg w3] at h; exact h
    · have h := h m vfr.rf hX
      rw [vif_f k] at h; exact h
  · refine ru11_word_0 (sm_isWord hO hM.2.1 (fun k => ⟨fun _ => ?_, fun z => by omega⟩) (fun k => ⟨fun z => absurd rfl z, fun _ => ?_⟩))
    · have hyb := yro_bd (D := D) (E := E) (w := i) (eQ D E) 0
      have e3 : m 100 3 = E 3 := hM.2.2.2.2.2.1
      have e5 : m 100 5 = E 5 := hM.2.2.2.2.2.2.2.1
      have hzb := ywz_bd hD hO hE k hG.2
      refine ⟨fun w0 => sm_len hO hM.2.1 k ?_, fun w0 => ⟨fun w1 => ?_, fun w1 => ⟨fun w2 => sm_rowOf c.1 hM (fun m' f _ => ?_), fun w2 => ⟨fun w3 => ru11_placeOf_0 (sm_rowOf c.1 hM (fun m' f l => ⟨fun z => ?_, fun z => ?_⟩)), fun w3 => ?_⟩⟩⟩⟩
      · have h := h m vfr.rf
        rw [vif_t k, if_pos w0] at h; exact h
      · have h := h m vfr.rf
        rw [vif_t k, if_neg w0, if_pos w1] at h
        rw [e3]
        refine sm_width hD hO hM.1 hM.2.1 k hG.2 ?_
        rw [e5]
        exact ⟨by omega, h⟩
      · have h := h m' f
        rw [vif_t k, if_neg w0, if_neg w1, if_pos w2] at h; exact h
      · have h := h m' f
        rw [vif_t k, if_neg w0, if_neg w1, if_neg w2, if_pos w3, if_neg (by omega)] at h
        obtain ⟨r, hr⟩ : ∃ r : Nat, yro D E i (eQ D E) 0 = r := ⟨(yro D E i (eQ D E) 0).toNat, by omega⟩
        rw [hr] at h z hyb ⊢
        rw [Int.toNat_natCast] at h
        have hr12 : r < eQ D E := by omega
        have e1 : m' 105 (r : Int) = eF D E r := l.2 r (by unfold eQ at hr12; omega) (by unfold eQ at hr12; omega)
        have hb := hq.2.2.2.1 r hr12
        rw [e1]
        exact ⟨by omega, h⟩
      · have h := h m' f
        rw [vif_t k, if_neg w0, if_neg w1, if_neg w2, if_pos w3, if_pos (by omega)] at h; exact h
      · have h := h m vfr.rf
        rw [vif_t k, if_neg w0, if_neg w1, if_neg w2, if_neg w3] at h; exact h
    · have h := h m vfr.rf
      rw [vif_f k] at h; exact h
/-- the longest of the first words -/
def ylo (D : vD) (g : Int) : Nat → Int
  | 0 => -2
  | n + 1 => if ylo D g n < 0 ∨ vww D g (ylo D g n) < vww D g n then n else ylo D g n
theorem ylo_bd {g : Int} : ∀ n, (n = 0 ∧ ylo D g n = -2) ∨ (0 < n ∧ 0 ≤ ylo D g n ∧ ylo D g n < n)
  | 0 => Or.inl ⟨rfl, rfl⟩
  | n + 1 => by
    have i := ylo_bd (g := g) n
    unfold ylo
    right
    split
    · omega
    · rename_i hq
      rcases i with i | i
      · exact absurd (Or.inl (by omega)) hq
      · omega
theorem q_longest (c : CC D E m) {G : Int → Int → vm_M → Prop} (h : ∀ z m', vfr vSQ m m' → CC D E m' → G z z m') : vm_C 127 [vm_r 0] m (vm_qi (fun z1 m1 => vP m m1 ∧ vm_C 254 [vm_r 96] m1 (vm_qi (fun z2 m2 => G z1 z2 m2)))) := by
  obtain ⟨hD, hO, hE⟩ := c.1
  have hN := hO.2.2.1
  have hN0 := hO.2.1
  have hG := hE.2.2.2.1
  refine qpair c (ylo D (E 3) (dN D).toNat) (fun Q m hX h => ?_) (fun Q m hM h => ?_) h
  · refine ru10_longest_0 (sx_layOut c.1 hX (fun m' f x l _ => ?_))
    have h := h m' f x
    have e3 : m' 10 3 = E 3 := x.2.2.1.2.2.2.1
    have go : ∀ (n k : Nat) (w4 : Option vm_V), (k : Int) + n = dN D → ku10_longest_11 (ylo D (E 3) k) (if ylo D (E 3) k < 0 then 0 else vww D (E 3) (ylo D (E 3) k)) k w4 m' Q := by
      intro n
      induction n with
      | zero =>
        intro k w4 hk
        rw [show (dN D).toNat = k by omega] at h
        exact ru10_longest_11 ⟨fun _ => h, fun z => by rw [x.2.1.1] at z; omega⟩
      | succ n ih =>
        intro k w4 hk
        have i1 := fun w4 => ih (k + 1) w4 (by omega)
        have hb := ylo_bd (D := D) (g := E 3) k
        have hv := vww_bd hD hO (g := E 3) (w := (k : Int)) ⟨by omega, by omega⟩ hG.2
        unfold ylo at i1
        refine ru10_longest_11 ⟨fun z => by rw [x.2.1.1] at z; omega, fun _ => ?_⟩
        rw [e3]
        refine sx_of hD hO l.1 ⟨by omega, by omega⟩ hG ?_
        by_cases hq : ylo D (E 3) k < 0 ∨ vww D (E 3) (ylo D (E 3) k) < vww D (E 3) k
        · rw [if_pos hq] at i1
          rw [if_neg (by omega)] at i1
          refine ⟨fun z => ?_, fun _ => ⟨by omega, i1 _⟩⟩
          split at z
          · omega
          · rcases hq with hq | hq <;> omega
        · rw [if_neg hq] at i1
          refine ⟨fun _ => ⟨by omega, i1 _⟩, fun z => ?_⟩
          rw [if_neg (fun q => hq (Or.inl q))] at z
          exact absurd (Or.inr (by omega)) hq
    exact go (dN D).toNat 0 none (by omega)
  · refine ru11_longest_0 (sm_laysW hD hO hG.2 hM.1 hM.2.1 hM.2.2.2.2.2.1 (fun m' f hv => ?_))
    have h := h m' (vSl_m (vSw_l f))
    have hS1 : dSm D m' := hM.2.1.fr f (fun _ => rfl)
    have go : ∀ (n k : Nat), (k : Int) + n = dN D → ku11_longest_9 (ylo D (E 3) k) k m' Q := by
      intro n
      induction n with
      | zero =>
        intro k hk
        rw [show (dN D).toNat = k by omega] at h
        exact ru11_longest_9 ⟨fun _ => h, fun z => by rw [hS1.1] at z; omega⟩
      | succ n ih =>
        intro k hk
        have i1 := ih (k + 1) (by omega)
        have hb := ylo_bd (D := D) (g := E 3) k
        have e1 := hv k (by omega) (by omega)
        unfold ylo at i1
        refine ru11_longest_9 ⟨fun z => by rw [hS1.1] at z; omega, fun _ => ⟨fun z => ⟨by omega, ?_⟩, fun z => ?_⟩⟩
        · rw [if_pos (Or.inl z)] at i1; exact i1
        · have e2 := hv (ylo D (E 3) k) (by omega) (by omega)
          rw [e1, e2]
          refine ⟨by omega, fun q => ⟨by omega, ?_⟩, fun q => ⟨by omega, ?_⟩⟩
          · rw [if_neg (by omega)] at i1; exact i1
          · rw [if_pos (Or.inr (by omega))] at i1; exact i1
    exact go (dN D).toNat 0 (by omega)
theorem q_fits (c : CC D E m) {G : Int → Int → vm_M → Prop} (h : ∀ z m', vfr vSQ m m' → CC D E m' → G z z m') : vm_C 138 [vm_r 0] m (vm_qi (fun z1 m1 => vP m m1 ∧ vm_C 268 [vm_r 96] m1 (vm_qi (fun z2 m2 => G z1 z2 m2)))) := by
  obtain ⟨hD, hO, hE⟩ := c.1
  refine qpair c (vif (bfits (bR (eB D E)) (E 6) (E 5) (E 2) (E 1)) 1 0) (fun Q m hX h => ?_) (fun Q m hM h => ?_) h
  · refine ru10_fits_0 (sx_layOut c.1 hX (fun m' f x l _ => ?_))
    have h := h m' f x
    have e2 : m' 10 2 = E 2 := x.2.2.1.2.2.1
    have e1 : m' 10 1 = E 1 := x.2.2.1.2.1
    rw [e1, e2]
    refine sx_isFit rfl (eB_ok hD hO hE) l.2.1 l.2.2.1 hE.2.2.1 (fun k => ⟨Or.inr rfl, ?_⟩) (fun k => ⟨Or.inl rfl, ?_⟩)
    · have k : bfits (bR (eB D E)) (E 6) (E 5) (E 2) (E 1) := k
      rw [vif_t k] at h; exact h
    · have k : ¬ bfits (bR (eB D E)) (E 6) (E 5) (E 2) (E 1) := k
      rw [vif_f k] at h; exact h
  · refine ru11_fits_0 (sm_fits hD hO hE hM.1 hM.2.1 hM.2.2 (fun m' f k => ⟨Or.inr rfl, ?_⟩) (fun m' f k => ⟨Or.inl rfl, ?_⟩))
    · have h := h m' (vSl_m f)
      rw [vif_t k] at h; exact h
    · have h := h m' (vSl_m f)
      rw [vif_f k] at h; exact h
theorem q_height (c : CC D E m) {G : Int → Int → vm_M → Prop} (h : ∀ z m', vfr vSQ m m' → CC D E m' → G z z m') : vm_C 142 [vm_r 0] m (vm_qi (fun z1 m1 => vP m m1 ∧ vm_C 274 [vm_r 96] m1 (vm_qi (fun z2 m2 => G z1 z2 m2)))) := by
  obtain ⟨hD, hO, hE⟩ := c.1
  refine qpair c (bht (bR (eB D E)) (E 6) (E 5) (E 2)) (fun Q m hX h => ?_) (fun Q m hM h => ?_) h
  · refine ru10_height_0 (sx_layOut c.1 hX (fun m' f x l _ => ?_))
    have h := h m' f x
    have e2 : m' 10 2 = E 2 := x.2.2.1.2.2.1
    rw [e2]
    exact sx_height rfl (eB_ok hD hO hE) l.2.1 l.2.2.1 hE.2.2.1 h
  · refine ru11_height_0 (sm_laysRows hD hO hE hM.1 hM.2.1 hM.2.2 (fun m1 f1 p1 l1 => ?_))
    have hm1 : dEm E m1 := hM.2.2.fr f1 (fun _ => rfl)
    exact sm_height (eB_ok hD hO hE) p1 l1 hm1.2.2.1 hE.2.2.1 (h m1 (vSl_m f1))
theorem q_cost (c : CC D E m) {G : Int → Int → vm_M → Prop} (h : ∀ z m', vfr vSQ m m' → CC D E m' → G z z m') : vm_C 143 [vm_r 0] m (vm_qi (fun z1 m1 => vP m m1 ∧ vm_C 275 [vm_r 96] m1 (vm_qi (fun z2 m2 => G z1 z2 m2)))) := by
  obtain ⟨hD, hO, hE⟩ := c.1
  have hB := eB_ok hD hO hE
  refine qpair c (if eQ D E = 0 then -2 else bcost (bR (eB D E)) (E 6)) (fun Q m hX h => ?_) (fun Q m hM h => ?_) h
  · refine ru10_cost_0 (sx_layOut c.1 hX (fun m' f x l _ => ?_))
    have h := h m' f x
    have e8 : m' 67 8 = (eQ D E : Int) := l.2.2.1.1
    rw [e8]
    refine ⟨fun z => sx_cost rfl hB l.2.1 l.2.2.1 ?_, fun z => ?_⟩
    · rw [if_neg (by omega)] at h; exact h
    · rw [if_pos (by omega)] at h; exact h
  · refine ru11_cost_0 (sm_laysRows hD hO hE hM.1 hM.2.1 hM.2.2 (fun m1 f1 p1 l1 => ?_))
    have h := h m1 (vSl_m f1)
    have e14 : m1 96 14 = (eQ D E : Int) := l1.1
    have hcb := bcost_bd (bR_ok hB) (E 6) (bQ (bR (eB D E)) (E 6) - 1) (by omega)
    have hcb : 0 ≤ bcost (bR (eB D E)) (E 6) ∧ bcost (bR (eB D E)) (E 6) ≤ 99960004 * 12 := hcb
    rw [e14]
    refine ⟨fun z => sm_cost hB p1 l1 ?_, fun z => ?_⟩
    · rw [if_neg (by omega)] at h
      rw [vm_w32_of (by omega)]; exact h
    · rw [if_pos (by omega)] at h; exact h
theorem q_fillGap (c : CC D E m) {row : Int} {G : Int → Int → vm_M → Prop} (h : ∀ z m', vfr vSQ m m' → CC D E m' → G z z m') : vm_C 145 [vm_r 0, vm_i row] m (vm_qi (fun z1 m1 => vP m m1 ∧ vm_C 277 [vm_r 96, vm_i row] m1 (vm_qi (fun z2 m2 => G z1 z2 m2)))) := by
  obtain ⟨hD, hO, hE⟩ := c.1
  refine qpair c (vif (yv D E row) (yfg D E (yf D E row) (yt D E row)) (-1)) (fun Q m hX h => ?_) (fun Q m hM h => ?_) h
  · refine ru10_fillGap_0 (sx_layOut c.1 hX (fun m' f x l _ => sx_hasRow l (fun k => ⟨fun _ => ?_, fun z => by omega⟩) (fun k => ⟨fun z => absurd rfl z, fun _ => ?_⟩)))
    · have h := h m' f x
      rw [vif_t k] at h
      obtain ⟨a1, a2, a3, a4, a5⟩ := yv_ok c.1 k
      have R := vRx_of c.1 l k
      have := sx_greatest (Q := Q) hD hO hE x.1 x.2.2.1 l.1 a4 a1 a2 a3 R.2.1 R.2.2.1 h
      rw [a5] at this; exact this
    · have h := h m' f x
      rw [vif_f k] at h; exact h
  · refine ru11_fillGap_0 (sm_laysRows hD hO hE hM.1 hM.2.1 hM.2.2 (fun m1 f1 p1 l1 => ?_))
    have h := h m1 (vSl_m f1)
    have e14 : m1 96 14 = (eQ D E : Int) := l1.1
    have hq := eQ_ok hD hO hE
    rw [e14]
    refine ⟨by omega, sm_in (fun k => ⟨fun z => by omega, fun _ => ?_⟩) (fun k => ⟨fun _ => ?_, fun z => absurd rfl z⟩)⟩
    · have hv : yv D E row := ⟨k.1, by omega⟩
      rw [vif_t hv] at h
      obtain ⟨a1, a2, a3, a4, a5⟩ := yv_ok c.1 hv
      have hr : row.toNat < eQ D E := by omega
      have e1 : m1 105 (row.toNat : Int) = yf D E row := l1.2 row.toNat (Nat.le_of_lt hr) (by unfold eQ at hr; omega)
      have e2 := l1.2 (row.toNat + 1) hr (by unfold eQ at hr; omega)
      rw [show ((row.toNat + 1 : Nat) : Int) = (row.toNat : Int) + 1 by omega] at e2
      have this : vm_C 191 [vm_r 96, vm_i (row.toNat : Int)] m1 (vm_qi (fun z3 m3 => Q z3 m3)) := sm_filled c.1 (hM.fm (vSl_m f1)) a4 a1 a2 a3 e1 e2 h
      rw [a5] at this; exact this
    · rw [vif_f (fun z => k ⟨z.1, by have := z.2; omega⟩)] at h; exact h
theorem vm_and1 (z : Int) : vm_and z 1 = 0 ∨ vm_and z 1 = 1 := by
  obtain ⟨j, h1, h2⟩ := pk_andE (Int32.ofInt z) (m := Int32.ofInt 1) 1 (by decide)
  unfold vm_and
  rw [h2, nI_toInt (by omega)]
  omega
theorem sm_manyTold {Q : Int → vm_M → Prop} (hA : dAm D m) (h : Q (vs (vtl D) 26) m) : vm_C 233 [vm_r 96] m (vm_qi Q) := by
  have go : ∀ (n j : Nat), j + n = 26 → ku11_manyTold_4 (vs (vtl D) j) j m Q := by
    intro n
    induction n with
    | zero =>
      intro j hj
      have hj : j = 26 := by omega
      subst hj
      exact ru11_manyTold_4 ⟨fun _ => h, fun z => by omega⟩
    | succ n ih =>
      intro j hj
      have b := vs_bd (f := vtl D) (lo := 0) (hi := 1) j (fun i _ _ => vif_01)
      have i1 := ih (j + 1) (by omega)
      have es : vs (vtl D) (j + 1) = vs (vtl D) j + vif (0 < dW D j) 1 0 := rfl
      rw [es, show ((j + 1 : Nat) : Int) = (j : Int) + 1 by omega] at i1
      have e := hA.2.1 j (by omega) (by omega)
      have e1 : vm_and (vm_shr (m 96 4) j) 1 = vif (0 < dW D j) 1 0 := by
        by_cases hq : 0 < dW D (j : Int)
        · rw [vif_t hq]; exact e.mpr hq
        · rw [vif_f hq]
          rcases vm_and1 (vm_shr (m 96 4) j) with a | a
          · exact a
          · exact absurd (e.mp a) hq
      have b2 := vif_01 (P := 0 < dW D (j : Int))
      refine ru11_manyTold_4 ⟨fun z => by omega, fun _ => ?_⟩
      rw [e1]
      exact ⟨by omega, i1⟩
  exact ru11_manyTold_0 (go 26 0 rfl)
def vnz (D : vD) (k : Int) : Int := if dK D k = 0 then 0 else 1
theorem vnz_bd {k : Int} : 0 ≤ vnz D k ∧ vnz D k ≤ 1 := by unfold vnz; split <;> omega
theorem q_value (c : CC D E m) {w : Int} {G : Int → Int → vm_M → Prop} (h : ∀ z m', vfr vSQ m m' → CC D E m' → G z z m') : vm_C 115 [vm_r 0, vm_i w] m (vm_qi (fun z1 m1 => vP m m1 ∧ vm_C 237 [vm_r 96, vm_i w] m1 (vm_qi (fun z2 m2 => G z1 z2 m2)))) := by
  obtain ⟨hD, hO, hE⟩ := c.1
  have hN := hO.2.2.1
  have hN0 := hO.2.1
  refine qpair c (if w = 6 then dC D else if w = 7 then E 6 else if w = 8 then E 7 else if w = 9 then vs (vtl D) 26 else if w = 10 then vs (vnz D) 676 else if w = 11 then dN D else if w = 12 then eQ D E else if w = 13 then vcl D 0 (dN D) else if 0 ≤ w ∧ w < 6 then E w else -1) (fun Q m hX h => ?_) (fun Q m hM h => ?_) h
  · obtain ⟨x0, x1, x2, x3, x4, x5, x6, x7⟩ := hX.2.2.1
    have e9 : m 9 6 = dN D := hX.2.1.1
    have hpairs : Q (vs (vnz D) 676) m → vm_C 58 [vm_r 9] m (vm_qi (fun z1 m1 => Q z1 m1)) := by
      intro h
      have go : ∀ (n j : Nat), j + n = 676 → ku4_countCorrections_4 9 (vs (vnz D) j) j m Q := by
        intro n
        induction n with
        | zero =>
          intro j hj
          have hj : j = 676 := by omega
          subst hj
          exact ru4_countCorrections_4 rfl ⟨fun _ => h, fun z => by omega⟩
        | succ n ih =>
          intro j hj
          have b := vs_bd (f := vnz D) (lo := 0) (hi := 1) j (fun i _ _ => vnz_bd)
          have i1 := ih (j + 1) (by omega)
          have es : vs (vnz D) (j + 1) = vs (vnz D) j + (if dK D j = 0 then 0 else 1) := rfl
          rw [es, show ((j + 1 : Nat) : Int) = (j : Int) + 1 by omega] at i1
          have e := hX.2.1.2.1 j (by omega) (by omega)
          refine ru4_countCorrections_4 rfl ⟨fun z => by omega, fun _ => ⟨by omega, ?_⟩⟩
          rw [e]
          refine ⟨fun z => ⟨by omega, ?_⟩, fun z => ⟨by omega, ?_⟩⟩
          · rw [if_neg z] at i1; exact i1
          · rw [if_pos (Classical.not_not.mp z)] at i1; exact i1
      exact ru4_countCorrections_0 rfl (go 676 0 rfl)
    have hlets : Q (vcl D 0 (dN D)) m → vm_C 60 [vm_r 9, vm_i 0, vm_i (m 9 6)] m (vm_qi (fun z1 m1 => Q z1 m1)) := by
      intro h
      rw [e9]
      have go : ∀ (n : Nat) (w : Int), 0 ≤ w → w + n = dN D → ku4_countLetters_5 9 0 (dN D) (vcl D 0 w) w m Q := by
        intro n
        induction n with
        | zero =>
          intro w hw hn
          have hw : w = dN D := by omega
          subst hw
          exact ru4_countLetters_5 rfl ⟨fun _ => h, fun c => by omega⟩
        | succ n ih =>
          intro w hw hn
          have el : m (9 + 3) w = dL D w := hX.2.1.2.2.1 w (by omega) (by omega)
          have hl := hO.2.2.2.1 w (by omega) (by omega)
          have hb := vcl_bd2 hO (Int.le_refl 0) hw (by omega)
          have i1 := ih (w + 1) (by omega) (by omega)
          rw [vcl_s (by omega)] at i1
          refine ru4_countLetters_5 rfl ⟨fun c => by omega, fun _ => ?_⟩
          rw [el]
          exact ⟨by omega, i1⟩
      have := go (dN D).toNat 0 (Int.le_refl _) (by omega)
      rw [vcl_f] at this
      exact ru4_countLetters_0 rfl this
    have hfill : Q (E 7) m → ((m 9 5) = 0 → Q 0 m) ∧ (¬ (m 9 5) = 0 → Q 1 m) := by
      intro h
      rw [x7]
      refine ⟨fun z => by rw [z] at h; exact h, fun z => ?_⟩
      have := hE.2.2.2.2.2.2.2
      rw [show E 7 = 1 by omega] at h; exact h
    have hrows : (∀ m', vfr vSX m m' → XC D E m' → Q (eQ D E) m') → vm_C 137 [vm_r 0] m (vm_qv (fun m2 => Q (m2 67 8) m2)) := by
      intro h
      refine sx_layOut c.1 hX (fun m' f x l _ => ?_)
      have e8 : m' 67 8 = (eQ D E : Int) := l.2.2.1.1
      rw [e8]; exact h m' f x
    refine ru10_value_0 ⟨fun z => ?_, fun z => ⟨fun z2 => ?_, fun z2 => ⟨by omega, ?_⟩⟩⟩
    · have h := h m vfr.rf hX
      rw [if_neg (by omega), if_neg (by omega), if_neg (by omega), if_neg (by omega), if_neg (by omega), if_neg (by omega), if_neg (by omega), if_neg (by omega), if_neg (by omega)] at h
      exact ⟨fun q => by omega, fun _ => ⟨fun q => by omega, fun _ => ⟨fun q => by omega, fun _ => ⟨fun q => by omega, fun _ => ⟨fun q => by omega, fun _ => ⟨fun q => by omega, fun _ => ⟨fun q => by omega, fun _ => ⟨fun q => by omega, fun _ => h⟩⟩⟩⟩⟩⟩⟩⟩
    · refine ⟨fun q => ?_, fun w6 => ⟨fun q => ?_, fun w7 => ⟨fun q => hfill ?_, fun w8 => ⟨fun q => ?_, fun w9 => ⟨fun q => hpairs ?_, fun w10 => ⟨fun q => ?_, fun w11 => ⟨fun q => hrows (fun m' f x => ?_), fun w12 => ⟨fun q => hlets ?_, fun w13 => ?_⟩⟩⟩⟩⟩⟩⟩⟩
      · have h := h m vfr.rf hX
        rw [if_pos q] at h; rw [hX.1.1]; exact h
      · have h := h m vfr.rf hX
        rw [if_neg w6, if_pos q] at h; rw [x6]; exact h
      · have h := h m vfr.rf hX
        rw [if_neg w6, if_neg w7, if_pos q] at h; exact h
      · have h := h m vfr.rf hX
        rw [if_neg w6, if_neg w7, if_neg w8, if_pos q] at h; rw [hX.2.2.2.1]; exact h
      · have h := h m vfr.rf hX
        rw [if_neg w6, if_neg w7, if_neg w8, if_neg w9, if_pos q] at h; exact h
      · have h := h m vfr.rf hX
        rw [if_neg w6, if_neg w7, if_neg w8, if_neg w9, if_neg w10, if_pos q] at h; rw [e9]; exact h
      · have h := h m' f x
        rw [if_neg w6, if_neg w7, if_neg w8, if_neg w9, if_neg w10, if_neg w11, if_pos q] at h; exact h
      · have h := h m vfr.rf hX
        rw [if_neg w6, if_neg w7, if_neg w8, if_neg w9, if_neg w10, if_neg w11, if_neg w12, if_pos q] at h; exact h
      · have h := h m vfr.rf hX
        rw [if_neg w6, if_neg w7, if_neg w8, if_neg w9, if_neg w10, if_neg w11, if_neg w12, if_neg w13, if_neg (by omega)] at h; exact h
    · have h := h m vfr.rf hX
      rw [if_neg (by omega), if_neg (by omega), if_neg (by omega), if_neg (by omega), if_neg (by omega), if_neg (by omega), if_neg (by omega), if_neg (by omega), if_pos (by omega)] at h
      have hw : w = 0 ∨ w = 1 ∨ w = 2 ∨ w = 3 ∨ w = 4 ∨ w = 5 := by omega
      have x0 : m 10 0 = E 0 := x0
      have x1 : m 10 1 = E 1 := x1
      have x2 : m 10 2 = E 2 := x2
      have x3 : m 10 3 = E 3 := x3
      have x4 : m 10 4 = E 4 := x4
      have x5 : m 10 5 = E 5 := x5
      rcases hw with q | q | q | q | q | q <;> (rw [q] at h ⊢; first | rw [x0]; exact h | rw [x1]; exact h | rw [x2]; exact h | rw [x3]; exact h | rw [x4]; exact h | rw [x5]; exact h)
  · obtain ⟨x0, x1, x2, x3, x4, x5, x6, x7⟩ := hM.2.2
    refine ru11_value_0 ⟨fun q => ?_, fun w6 => ⟨fun q => ?_, fun w7 => ⟨fun q => ?_, fun w8 => ⟨fun q => sm_manyTold hM.1 ?_, fun w9 => ⟨fun q => ?_, fun w10 => ⟨fun q => ?_, fun w11 => ⟨fun q => ru11_manyRows_0 (sm_laysRows hD hO hE hM.1 hM.2.1 hM.2.2 (fun m1 f1 p1 l1 => ?_)), fun w12 => ⟨fun q => ?_, fun w13 => sm_in (fun k => ⟨fun z => by omega, fun _ => ⟨by omega, ?_⟩⟩) (fun k => ⟨fun _ => ?_, fun z => absurd rfl z⟩)⟩⟩⟩⟩⟩⟩⟩⟩
    · have h := h m vfr.rf
      rw [if_pos q] at h; rw [hM.1.1]; exact h
    · have h := h m vfr.rf
      rw [if_neg w6, if_pos q] at h; rw [x6]; exact h
    · have h := h m vfr.rf
      rw [if_neg w6, if_neg w7, if_pos q] at h; rw [x7]; exact h
    · have h := h m vfr.rf
      rw [if_neg w6, if_neg w7, if_neg w8, if_pos q] at h; exact h
    · have h := h m vfr.rf
      rw [if_neg w6, if_neg w7, if_neg w8, if_neg w9, if_pos q] at h
      have go : ∀ (n j : Nat), j + n = 676 → ku11_manyPairs_4 (vs (vnz D) j) j m Q := by
        intro n
        induction n with
        | zero =>
          intro j hj
          have hj : j = 676 := by omega
          subst hj
          exact ru11_manyPairs_4 ⟨fun _ => h, fun z => by omega⟩
        | succ n ih =>
          intro j hj
          have b := vs_bd (f := vnz D) (lo := 0) (hi := 1) j (fun i _ _ => vnz_bd)
          have i1 := ih (j + 1) (by omega)
          have es : vs (vnz D) (j + 1) = vs (vnz D) j + (if dK D j = 0 then 0 else 1) := rfl
          rw [es, show ((j + 1 : Nat) : Int) = (j : Int) + 1 by omega] at i1
          have e := hM.2.1.2.1 j (by omega) (by omega)
          refine ru11_manyPairs_4 ⟨fun z => by omega, fun _ => ⟨by omega, ?_⟩⟩
          rw [e]
          refine ⟨fun z => ⟨by omega, ?_⟩, fun z => ⟨by omega, ?_⟩⟩
          · rw [if_neg z] at i1; exact i1
          · rw [if_pos (Classical.not_not.mp z)] at i1; exact i1
      exact ru11_manyPairs_0 (go 676 0 rfl)
    · have h := h m vfr.rf
      rw [if_neg w6, if_neg w7, if_neg w8, if_neg w9, if_neg w10, if_pos q] at h; rw [hM.2.1.1]; exact h
    · have h := h m1 (vSl_m f1)
      rw [if_neg w6, if_neg w7, if_neg w8, if_neg w9, if_neg w10, if_neg w11, if_pos q] at h
      have e14 : m1 96 14 = (eQ D E : Int) := l1.1
      rw [e14]; exact h
    · have h := h m vfr.rf
      rw [if_neg w6, if_neg w7, if_neg w8, if_neg w9, if_neg w10, if_neg w11, if_neg w12, if_pos q] at h
      have go : ∀ (n : Nat) (w : Int), 0 ≤ w → w + n = dN D → ku11_manyLetters_4 (vcl D 0 w) w m Q := by
        intro n
        induction n with
        | zero =>
          intro w hw hn
          have hw : w = dN D := by omega
          subst hw
          exact ru11_manyLetters_4 ⟨fun _ => h, fun c => by rw [hM.2.1.1] at c; omega⟩
        | succ n ih =>
          intro w hw hn
          have hl := hO.2.2.2.1 w (by omega) (by omega)
          have hb := vcl_bd2 hO (Int.le_refl 0) hw (by omega)
          have i1 := ih (w + 1) (by omega) (by omega)
          rw [vcl_s (by omega)] at i1
          exact ru11_manyLetters_4 ⟨fun c => by rw [hM.2.1.1] at c; omega, fun _ => sm_len hO hM.2.1 ⟨hw, by omega⟩ ⟨by omega, i1⟩⟩
      have := go (dN D).toNat 0 (Int.le_refl _) (by omega)
      rw [vcl_f] at this
      exact ru11_manyLetters_0 this
    · have h := h m vfr.rf
      rw [if_neg w6, if_neg w7, if_neg w8, if_neg w9, if_neg w10, if_neg w11, if_neg w12, if_neg w13, if_pos (by omega)] at h
      have hw : w = 0 ∨ w = 1 ∨ w = 2 ∨ w = 3 ∨ w = 4 ∨ w = 5 := by omega
      rcases hw with q | q | q | q | q | q <;> (rw [q] at h ⊢; first | rw [x0]; exact h | rw [x1]; exact h | rw [x2]; exact h | rw [x3]; exact h | rw [x4]; exact h | rw [x5]; exact h)
    · have h := h m vfr.rf
      rw [if_neg w6, if_neg w7, if_neg w8, if_neg w9, if_neg w10, if_neg w11, if_neg w12, if_neg w13, if_neg (by omega)] at h; exact h
end QF
