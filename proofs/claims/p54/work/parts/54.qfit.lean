/-! ===== questions about words, fitting ===== -/
section QF
variable {D : vD} {E : Int → Int} {m m' : vm_M}
/-- the row of a word -/
def yro (D : vD) (E : Int → Int) (w : Int) : Nat → Nat → Int
  | 0, _ => -2
  | n + 1, r => if w < eF D E (r + 1) then r else yro D E w n (r + 1)
theorem yro_bd {w : Int} : ∀ (n r : Nat), yro D E w n r = -2 ∨ (0 ≤ yro D E w n r ∧ yro D E w n r < r + n)
  | 0, r => Or.inl rfl
  | n + 1, r => by
    unfold yro
    split
    · right; omega
    · rcases yro_bd (w := w) n (r + 1) with a | a
      · exact Or.inl a
      · right; omega
theorem sx_rowOf {Q : Int → vm_M → Prop} (hO : OC D E) (hL : vLd D E m) {w : Int} (hw : 0 ≤ w) (h : Q (yro D E w (eQ D E) 0) m) : vm_C 17 [vm_r 67, vm_i w] m (vm_qi Q) := by
  have hq := eQ_ok hO.1 hO.2.1 hO.2.2
  have e8 : m 67 8 = (eQ D E : Int) := hL.2.2.1.1
  have go : ∀ (n r : Nat), r + n = eQ D E → yro D E w n r = yro D E w (eQ D E) 0 → eF D E r ≤ w → ku1_rowOf_2 67 w r m Q := by
    intro n
    induction n with
    | zero =>
      intro r hr hk hf
      rw [← hk] at h
      exact ru1_rowOf_2 rfl ⟨fun _ => h, fun z => by rw [e8] at z; omega⟩
    | succ n ih =>
      intro r hr hk hf
      have e1 : m 70 (r : Int) = eF D E r := hL.2.2.1.2 r (by unfold eQ at hr; omega) (by unfold eQ at hr; omega)
      have e2 : m 70 ((r + 1 : Nat) : Int) = eF D E (r + 1) := hL.2.2.1.2 (r + 1) (by unfold eQ at hr; omega) (by unfold eQ at hr; omega)
      rw [show ((r + 1 : Nat) : Int) = (r : Int) + 1 by omega] at e2
      have hk : (if w < eF D E (r + 1) then (r : Int) else yro D E w n (r + 1)) = yro D E w (eQ D E) 0 := hk
      refine ru1_rowOf_2 rfl ⟨fun z => by rw [e8] at z; omega, fun _ => ?_⟩
      rw [show (67 : Nat) + 3 = 70 from rfl, e1, e2]
      refine ⟨by omega, fun z => by omega, fun _ => ⟨by omega, fun z => ⟨by omega, ?_⟩, fun z => ?_⟩⟩
      · rw [if_neg (by omega)] at hk
        exact ih (r + 1) (by omega) hk z
      · rw [if_pos (by omega)] at hk
        rw [← hk] at h; exact h
  by_cases hz : eQ D E = 0
  · rw [hz] at h
    exact ru1_rowOf_0 rfl (ru1_rowOf_2 rfl ⟨fun _ => h, fun z => by rw [e8] at z; omega⟩)
  · exact ru1_rowOf_0 rfl (go _ 0 (Nat.zero_add _) rfl (by rw [hq.2.1]; exact hw))
theorem s_word (c : OC D E) (hX : XC D E m) {i w : Int} {Q : Int → vm_M → Prop} (h : ∀ m', vfr vSX m m' → XC D E m' → Q (vif (0 ≤ i ∧ i < dN D) (if w = 0 then dL D i else if w = 1 then vww D (E 3) i * E 5 else if w = 2 then yro D E i (eQ D E) 0 else if w = 3 then (if yro D E i (eQ D E) 0 = -2 then -2 else i - eF D E (yro D E i (eQ D E) 0).toNat) else -1) (-1)) m') : vm_C 125 [vm_r 0, vm_i i, vm_i w] m (vm_qi Q) := by
  have c9 := c
  obtain ⟨hD, hO, hE⟩ := c9
  have hN := hO.2.2.1
  have hG := hE.2.2.2.1
  have hq := eQ_ok hD hO hE
  refine ru10_word_0 (sx_hasWord hX.2.1 (fun k => ⟨fun _ => sx_layOut c hX (fun m' f x l _ => ?_), fun z => by omega⟩) (fun k => ⟨fun z => absurd rfl z, fun _ => ?_⟩))
  · have h := h m' f x
    rw [vif_t k] at h
    have hyb := yro_bd (D := D) (E := E) (w := i) (eQ D E) 0
    have e12 : m' 12 i = dL D i := x.2.1.2.2.1 i k.1 k.2
    have e3 : m' 10 3 = E 3 := x.2.2.1.2.2.2.1
    have e5 : m' 10 5 = E 5 := x.2.2.1.2.2.2.2.2.1
    have hzb := ywz_bd hD hO hE k hG.2
    refine sx_rowOf c l k.1 ⟨fun w0 => ⟨by omega, ?_⟩, fun w0 => ⟨fun w1 => ?_, fun w1 => ⟨fun w2 => ?_, fun w2 => ⟨fun w3 => ⟨fun z => ?_, fun z => ?_⟩, fun w3 => ?_⟩⟩⟩⟩
    · rw [if_pos w0] at h; rw [e12]; exact h
    · rw [if_neg w0, if_pos w1] at h
      rw [e3]
      refine sx_of hD hO l.1 k hG ?_
      rw [e5]
      exact ⟨by omega, h⟩
    · rw [if_neg w0, if_neg w1, if_pos w2] at h; exact h
    · rw [if_neg w0, if_neg w1, if_neg w2, if_pos w3, if_neg z] at h
      obtain ⟨r, hr⟩ : ∃ r : Nat, yro D E i (eQ D E) 0 = r := ⟨(yro D E i (eQ D E) 0).toNat, by omega⟩
      rw [hr] at h z hyb ⊢
      rw [Int.toNat_natCast] at h
      have hr12 : r < eQ D E := by omega
      have e1 : m' 70 (r : Int) = eF D E r := l.2.2.1.2 r (by unfold eQ at hr12; omega) (by unfold eQ at hr12; omega)
      have hb := hq.2.2.2.1 r hr12
      rw [e1]
      exact ⟨by omega, h⟩
    · rw [if_neg w0, if_neg w1, if_neg w2, if_pos w3, if_pos (Classical.not_not.mp z)] at h; exact h
    · rw [if_neg w0, if_neg w1, if_neg w2, if_neg w3] at h; exact h
  · have h := h m vfr.rf hX
    rw [vif_f k] at h; exact h
/-- the longest of the first words -/
def ylo (D : vD) (g : Int) : Nat → Int
  | 0 => -2
  | n + 1 => if ylo D g n < 0 ∨ vww D g (ylo D g n) < vww D g n then n else ylo D g n
theorem ylo_bd {g : Int} : ∀ n, (n = 0 ∧ ylo D g n = -2) ∨ (0 < n ∧ 0 ≤ ylo D g n ∧ ylo D g n < n)
  | 0 => Or.inl ⟨rfl, rfl⟩
  | n + 1 => by
    have i := ylo_bd (g := g) n
    unfold ylo
    right
    split
    · omega
    · rename_i hq
      rcases i with i | i
      · exact absurd (Or.inl (by omega)) hq
      · omega
theorem s_fits (c : OC D E) (hX : XC D E m) {Q : Int → vm_M → Prop} (h : ∀ m', vfr vSX m m' → XC D E m' → Q (vif (bfits (bR (eB D E)) (E 6) (E 5) (E 2) (E 1)) 1 0) m') : vm_C 138 [vm_r 0] m (vm_qi Q) := by
  have c9 := c
  obtain ⟨hD, hO, hE⟩ := c9
  refine ru10_fits_0 (sx_layOut c hX (fun m' f x l _ => ?_))
  have h := h m' f x
  have e2 : m' 10 2 = E 2 := x.2.2.1.2.2.1
  have e1 : m' 10 1 = E 1 := x.2.2.1.2.1
  rw [e1, e2]
  refine sx_isFit rfl (eB_ok hD hO hE) l.2.1 l.2.2.1 hE.2.2.1 (fun k => ⟨Or.inr rfl, ?_⟩) (fun k => ⟨Or.inl rfl, ?_⟩)
  · have k : bfits (bR (eB D E)) (E 6) (E 5) (E 2) (E 1) := k
    rw [vif_t k] at h; exact h
  · have k : ¬ bfits (bR (eB D E)) (E 6) (E 5) (E 2) (E 1) := k
    rw [vif_f k] at h; exact h
theorem s_height (c : OC D E) (hX : XC D E m) {Q : Int → vm_M → Prop} (h : ∀ m', vfr vSX m m' → XC D E m' → Q (bht (bR (eB D E)) (E 6) (E 5) (E 2)) m') : vm_C 142 [vm_r 0] m (vm_qi Q) := by
  have c9 := c
  obtain ⟨hD, hO, hE⟩ := c9
  refine ru10_height_0 (sx_layOut c hX (fun m' f x l _ => ?_))
  have h := h m' f x
  have e2 : m' 10 2 = E 2 := x.2.2.1.2.2.1
  rw [e2]
  exact sx_height rfl (eB_ok hD hO hE) l.2.1 l.2.2.1 hE.2.2.1 h
theorem s_cost (c : OC D E) (hX : XC D E m) {Q : Int → vm_M → Prop} (h : ∀ m', vfr vSX m m' → XC D E m' → Q (if eQ D E = 0 then -2 else bcost (bR (eB D E)) (E 6)) m') : vm_C 143 [vm_r 0] m (vm_qi Q) := by
  have c9 := c
  obtain ⟨hD, hO, hE⟩ := c9
  have hB := eB_ok hD hO hE
  refine ru10_cost_0 (sx_layOut c hX (fun m' f x l _ => ?_))
  have h := h m' f x
  have e8 : m' 67 8 = (eQ D E : Int) := l.2.2.1.1
  rw [e8]
  refine ⟨fun z => sx_cost rfl hB l.2.1 l.2.2.1 ?_, fun z => ?_⟩
  · rw [if_neg (by omega)] at h; exact h
  · rw [if_pos (by omega)] at h; exact h
theorem s_fillGap (c : OC D E) (hX : XC D E m) {row : Int} {Q : Int → vm_M → Prop} (h : ∀ m', vfr vSX m m' → XC D E m' → Q (vif (yv D E row) (yfg D E (yf D E row) (yt D E row)) (-1)) m') : vm_C 145 [vm_r 0, vm_i row] m (vm_qi Q) := by
  have c9 := c
  obtain ⟨hD, hO, hE⟩ := c9
  refine ru10_fillGap_0 (sx_layOut c hX (fun m' f x l _ => sx_hasRow l (fun k => ⟨fun _ => ?_, fun z => by omega⟩) (fun k => ⟨fun z => absurd rfl z, fun _ => ?_⟩)))
  · have h := h m' f x
    rw [vif_t k] at h
    obtain ⟨a1, a2, a3, a4, a5⟩ := yv_ok c k
    have R := vRx_of c l k
    have := sx_greatest (Q := Q) hD hO hE x.1 x.2.2.1 l.1 a4 a1 a2 a3 R.2.1 R.2.2.1 h
    rw [a5] at this; exact this
  · have h := h m' f x
    rw [vif_f k] at h; exact h
theorem vm_and1 (z : Int) : vm_and z 1 = 0 ∨ vm_and z 1 = 1 := by
  obtain ⟨j, h1, h2⟩ := pk_andE (Int32.ofInt z) (m := Int32.ofInt 1) 1 (by decide)
  unfold vm_and
  rw [h2, nI_toInt (by omega)]
  omega
def vnz (D : vD) (k : Int) : Int := if dK D k = 0 then 0 else 1
theorem vnz_bd {k : Int} : 0 ≤ vnz D k ∧ vnz D k ≤ 1 := by unfold vnz; split <;> omega
theorem s_value (c : OC D E) (hX : XC D E m) {w : Int} {Q : Int → vm_M → Prop} (h : ∀ m', vfr vSX m m' → XC D E m' → Q (if w = 6 then dC D else if w = 7 then E 6 else if w = 8 then E 7 else if w = 9 then vs (vtl D) 26 else if w = 10 then vs (vnz D) 676 else if w = 11 then dN D else if w = 12 then eQ D E else if w = 13 then vcl D 0 (dN D) else if 0 ≤ w ∧ w < 6 then E w else -1) m') : vm_C 115 [vm_r 0, vm_i w] m (vm_qi Q) := by
  have c9 := c
  obtain ⟨hD, hO, hE⟩ := c9
  have hN := hO.2.2.1
  have hN0 := hO.2.1
  obtain ⟨x0, x1, x2, x3, x4, x5, x6, x7⟩ := hX.2.2.1
  have e9 : m 9 6 = dN D := hX.2.1.1
  have hpairs : Q (vs (vnz D) 676) m → vm_C 58 [vm_r 9] m (vm_qi (fun z1 m1 => Q z1 m1)) := by
    intro h
    have go : ∀ (n j : Nat), j + n = 676 → ku4_countCorrections_4 9 (vs (vnz D) j) j m Q := by
      intro n
      induction n with
      | zero =>
        intro j hj
        have hj : j = 676 := by omega
        subst hj
        exact ru4_countCorrections_4 rfl ⟨fun _ => h, fun z => by omega⟩
      | succ n ih =>
        intro j hj
        have b := vs_bd (f := vnz D) (lo := 0) (hi := 1) j (fun i _ _ => vnz_bd)
        have i1 := ih (j + 1) (by omega)
        have es : vs (vnz D) (j + 1) = vs (vnz D) j + (if dK D j = 0 then 0 else 1) := rfl
        rw [es, show ((j + 1 : Nat) : Int) = (j : Int) + 1 by omega] at i1
        have e := hX.2.1.2.1 j (by omega) (by omega)
        refine ru4_countCorrections_4 rfl ⟨fun z => by omega, fun _ => ⟨by omega, ?_⟩⟩
        rw [e]
        refine ⟨fun z => ⟨by omega, ?_⟩, fun z => ⟨by omega, ?_⟩⟩
        · rw [if_neg z] at i1; exact i1
        · rw [if_pos (Classical.not_not.mp z)] at i1; exact i1
    exact ru4_countCorrections_0 rfl (go 676 0 rfl)
  have hlets : Q (vcl D 0 (dN D)) m → vm_C 60 [vm_r 9, vm_i 0, vm_i (m 9 6)] m (vm_qi (fun z1 m1 => Q z1 m1)) := by
    intro h
    rw [e9]
    have go : ∀ (n : Nat) (w : Int), 0 ≤ w → w + n = dN D → ku4_countLetters_5 9 0 (dN D) (vcl D 0 w) w m Q := by
      intro n
      induction n with
      | zero =>
        intro w hw hn
        have hw : w = dN D := by omega
        subst hw
        exact ru4_countLetters_5 rfl ⟨fun _ => h, fun c => by omega⟩
      | succ n ih =>
        intro w hw hn
        have el : m (9 + 3) w = dL D w := hX.2.1.2.2.1 w (by omega) (by omega)
        have hl := hO.2.2.2.1 w (by omega) (by omega)
        have hb := vcl_bd2 hO (Int.le_refl 0) hw (by omega)
        have i1 := ih (w + 1) (by omega) (by omega)
        rw [vcl_s (by omega)] at i1
        refine ru4_countLetters_5 rfl ⟨fun c => by omega, fun _ => ?_⟩
        rw [el]
        exact ⟨by omega, i1⟩
    have := go (dN D).toNat 0 (Int.le_refl _) (by omega)
    rw [vcl_f] at this
    exact ru4_countLetters_0 rfl this
  have hfill : Q (E 7) m → ((m 9 5) = 0 → Q 0 m) ∧ (¬ (m 9 5) = 0 → Q 1 m) := by
    intro h
    rw [x7]
    refine ⟨fun z => by rw [z] at h; exact h, fun z => ?_⟩
    have := hE.2.2.2.2.2.2.2
    rw [show E 7 = 1 by omega] at h; exact h
  have hrows : (∀ m', vfr vSX m m' → XC D E m' → Q (eQ D E) m') → vm_C 137 [vm_r 0] m (vm_qv (fun m2 => Q (m2 67 8) m2)) := by
    intro h
    refine sx_layOut c hX (fun m' f x l _ => ?_)
    have e8 : m' 67 8 = (eQ D E : Int) := l.2.2.1.1
    rw [e8]; exact h m' f x
  refine ru10_value_0 ⟨fun z => ?_, fun z => ⟨fun z2 => ?_, fun z2 => ⟨by omega, ?_⟩⟩⟩
  · have h := h m vfr.rf hX
    rw [if_neg (by omega), if_neg (by omega), if_neg (by omega), if_neg (by omega), if_neg (by omega), if_neg (by omega), if_neg (by omega), if_neg (by omega), if_neg (by omega)] at h
    exact ⟨fun q => by omega, fun _ => ⟨fun q => by omega, fun _ => ⟨fun q => by omega, fun _ => ⟨fun q => by omega, fun _ => ⟨fun q => by omega, fun _ => ⟨fun q => by omega, fun _ => ⟨fun q => by omega, fun _ => ⟨fun q => by omega, fun _ => h⟩⟩⟩⟩⟩⟩⟩⟩
  · refine ⟨fun q => ?_, fun w6 => ⟨fun q => ?_, fun w7 => ⟨fun q => hfill ?_, fun w8 => ⟨fun q => ?_, fun w9 => ⟨fun q => hpairs ?_, fun w10 => ⟨fun q => ?_, fun w11 => ⟨fun q => hrows (fun m' f x => ?_), fun w12 => ⟨fun q => hlets ?_, fun w13 => ?_⟩⟩⟩⟩⟩⟩⟩⟩
    · have h := h m vfr.rf hX
      rw [if_pos q] at h; rw [hX.1.1]; exact h
    · have h := h m vfr.rf hX
      rw [if_neg w6, if_pos q] at h; rw [x6]; exact h
    · have h := h m vfr.rf hX
      rw [if_neg w6, if_neg w7, if_pos q] at h; exact h
    · have h := h m vfr.rf hX
      rw [if_neg w6, if_neg w7, if_neg w8, if_pos q] at h; rw [hX.2.2.2.1]; exact h
    · have h := h m vfr.rf hX
      rw [if_neg w6, if_neg w7, if_neg w8, if_neg w9, if_pos q] at h; exact h
    · have h := h m vfr.rf hX
      rw [if_neg w6, if_neg w7, if_neg w8, if_neg w9, if_neg w10, if_pos q] at h; rw [e9]; exact h
    · have h := h m' f x
      rw [if_neg w6, if_neg w7, if_neg w8, if_neg w9, if_neg w10, if_neg w11, if_pos q] at h; exact h
    · have h := h m vfr.rf hX
      rw [if_neg w6, if_neg w7, if_neg w8, if_neg w9, if_neg w10, if_neg w11, if_neg w12, if_pos q] at h; exact h
    · have h := h m vfr.rf hX
      rw [if_neg w6, if_neg w7, if_neg w8, if_neg w9, if_neg w10, if_neg w11, if_neg w12, if_neg w13, if_neg (by omega)] at h; exact h
  · have h := h m vfr.rf hX
    rw [if_neg (by omega), if_neg (by omega), if_neg (by omega), if_neg (by omega), if_neg (by omega), if_neg (by omega), if_neg (by omega), if_neg (by omega), if_pos (by omega)] at h
    have hw : w = 0 ∨ w = 1 ∨ w = 2 ∨ w = 3 ∨ w = 4 ∨ w = 5 := by omega
    have x0 : m 10 0 = E 0 := x0
    have x1 : m 10 1 = E 1 := x1
    have x2 : m 10 2 = E 2 := x2
    have x3 : m 10 3 = E 3 := x3
    have x4 : m 10 4 = E 4 := x4
    have x5 : m 10 5 = E 5 := x5
    rcases hw with q | q | q | q | q | q <;> (rw [q] at h ⊢; first | rw [x0]; exact h | rw [x1]; exact h | rw [x2]; exact h | rw [x3]; exact h | rw [x4]; exact h | rw [x5]; exact h)
end QF
