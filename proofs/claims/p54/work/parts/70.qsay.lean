/-! ===== saying words ===== -/
/-- finished words, letters of the word under way, lengths, letters -/
abbrev vSY : Type := Int × Int × (Int → Int) × (Int → Int)
def sN (s : vSY) : Int := s.1
def sV (s : vSY) : Int := s.2.1
def sL (s : vSY) : Int → Int := s.2.2.1
def sP (s : vSY) : Int → Int := s.2.2.2
def sfin (s : vSY) : vSY := if sV s = 0 then s else (sN s + 1, 0, sL s, sP s)
def sadd (s : vSY) (a : Int) : vSY := (sN s, sV s + 1, (fun w => if w = sN s then sV s + 1 else sL s w), fun p => if p = 12 * sN s + sV s then a else sP s p)
def sR (D : vD) (b : Int → Int) : Nat → Int → vSY → Int × vSY
  | 0, _, s => (-2, sfin s)
  | n + 1, i, s => if b i = 32 ∨ b i = 10 then sR D b n (i + 1) (sfin s) else if (0 ≤ b i - 97 ∧ b i - 97 < 26 ∧ 0 < dW D (b i - 97)) ∧ sN s < 30 ∧ sV s < 12 then sR D b n (i + 1) (sadd s (b i - 97)) else (i, s)
theorem sR_S {D : vD} {b : Int → Int} {n : Nat} {i : Int} {s : vSY} : sR D b (n + 1) i s = if b i = 32 ∨ b i = 10 then sR D b n (i + 1) (sfin s) else if (0 ≤ b i - 97 ∧ b i - 97 < 26 ∧ 0 < dW D (b i - 97)) ∧ sN s < 30 ∧ sV s < 12 then sR D b n (i + 1) (sadd s (b i - 97)) else (i, s) := rfl
def sd (s : vSY) (w k : Int) : Prop := 0 ≤ w ∧ 0 ≤ k ∧ ((w < sN s ∧ k < sL s w) ∨ (w = sN s ∧ k < sV s))
def wo (D : vD) (s : vSY) : Prop := (0 ≤ sN s ∧ sN s ≤ 30) ∧ (0 ≤ sV s ∧ sV s ≤ 12) ∧ (sV s ≠ 0 → sN s < 30 ∧ sL s (sN s) = sV s) ∧ (∀ w, 0 ≤ w → w < sN s → 1 ≤ sL s w ∧ sL s w ≤ 12) ∧ ∀ w k, sd s w k → dk D (sP s (12 * w + k))
def sfl (s : vSY) : Int := if sV s = 0 then 0 else 1
def wx (s : vSY) (m : vm_M) : Prop := m 14 6 = sN s + sfl s ∧ (∀ w, 0 ≤ w → w < sN s → m 17 w = sL s w) ∧ (sV s ≠ 0 → m 17 (sN s) = sV s) ∧ ∀ w k, sd s w k → m 18 (12 * w + k) = sP s (12 * w + k)
def wm (s : vSY) (m : vm_M) : Prop := m 96 40 = sN s ∧ (∀ w, 0 ≤ w → w < sN s → m 115 w = sL s w) ∧ ∀ w k, sd s w k → m 116 (12 * w + k) = sP s (12 * w + k)
def tw (t : vTE) (s : vSY) : vTE := ((t.1.1, sL s, sP s, sN s), t.2)
theorem sfin_v (s : vSY) : sV (sfin s) = 0 := by
  unfold sfin
  by_cases q : sV s = 0
  · rw [if_pos q]; exact q
  · rw [if_neg q]; rfl
theorem sfin_d {D : vD} {s : vSY} (h : wo D s) {w k : Int} (hd : sd (sfin s) w k) : sd s w k := by
  unfold sfin at hd
  by_cases q : sV s = 0
  · rw [if_pos q] at hd; exact hd
  · rw [if_neg q] at hd
    obtain ⟨h1, h2, h3⟩ := hd
    refine ⟨h1, h2, ?_⟩
    have h4 : (w < sN s + 1 ∧ k < sL s w) ∨ (w = sN s + 1 ∧ k < 0) := h3
    have hl := (h.2.2.1 q).2
    rcases h4 with a | a
    · by_cases e : w = sN s
      · right; rw [e] at a; exact ⟨e, by omega⟩
      · left; exact ⟨by omega, a.2⟩
    · omega
theorem sfin_ok {D : vD} {s : vSY} (h : wo D s) : wo D (sfin s) := by
  have hd : ∀ w k, sd (sfin s) w k → dk D (sP (sfin s) (12 * w + k)) := fun w k a => by
    have := h.2.2.2.2 w k (sfin_d h a)
    have e : sP (sfin s) = sP s := by unfold sfin; split <;> rfl
    rw [e]; exact this
  refine ⟨?_, ?_, fun a => absurd (sfin_v s) a, fun w a b => ?_, hd⟩
  · by_cases q : sV s = 0
    · rw [show sfin s = s from if_pos q]; exact h.1
    · rw [show sfin s = (sN s + 1, 0, sL s, sP s) from if_neg q]
      show 0 ≤ sN s + 1 ∧ sN s + 1 ≤ 30
      have := (h.2.2.1 q).1
      have := h.1
      omega
  · rw [sfin_v]; decide
  · by_cases q : sV s = 0
    · rw [show sfin s = s from if_pos q] at b ⊢; exact h.2.2.2.1 w a b
    · rw [show sfin s = (sN s + 1, 0, sL s, sP s) from if_neg q] at b ⊢
      have b2 : w < sN s + 1 := b
      show 1 ≤ sL s w ∧ sL s w ≤ 12
      by_cases e : w = sN s
      · rw [e, (h.2.2.1 q).2]; have := h.2.1; omega
      · exact h.2.2.2.1 w a (by omega)
theorem sadd_d {D : vD} {s : vSY} {a : Int} (h : wo D s) {w k : Int} (hd : sd (sadd s a) w k) : (w = sN s ∧ k = sV s) ∨ (sd s w k ∧ 12 * w + k ≠ 12 * sN s + sV s) := by
  obtain ⟨h1, h2, h3⟩ := hd
  have h4 : (w < sN s ∧ k < if w = sN s then sV s + 1 else sL s w) ∨ (w = sN s ∧ k < sV s + 1) := h3
  rcases h4 with b | b
  · rw [if_neg (by omega)] at b
    have := h.2.2.2.1 w h1 b.1
    have := h.2.1
    exact Or.inr ⟨⟨h1, h2, Or.inl b⟩, by omega⟩
  · by_cases e : k = sV s
    · exact Or.inl ⟨b.1, e⟩
    · exact Or.inr ⟨⟨h1, h2, Or.inr ⟨b.1, by omega⟩⟩, by omega⟩
theorem sadd_ok {D : vD} {s : vSY} {a : Int} (ha : dk D a) (hn : sN s < 30) (hv : sV s < 12) (h : wo D s) : wo D (sadd s a) := by
  refine ⟨h.1, ⟨by show 0 ≤ sV s + 1; have := h.2.1; omega, by show sV s + 1 ≤ 12; omega⟩, fun _ => ⟨hn, if_pos rfl⟩, fun w b c => ?_, fun w k hd => ?_⟩
  · have c2 : w < sN s := c
    show 1 ≤ (if w = sN s then sV s + 1 else sL s w) ∧ (if w = sN s then sV s + 1 else sL s w) ≤ 12
    rw [if_neg (by omega)]
    exact h.2.2.2.1 w b c2
  · show dk D (if 12 * w + k = 12 * sN s + sV s then a else sP s (12 * w + k))
    rcases sadd_d h hd with e | e
    · rw [if_pos (by omega)]; exact ha
    · rw [if_neg e.2]; exact h.2.2.2.2 w k e.1
theorem tw_ok {D : vD} {t : vTE} {s : vSY} (hT : TO D t) (h : wo D s) (hv : sV s = 0) : TO D (tw t s) :=
  ⟨⟨hT.1.1, h.1.1, h.1.2, h.2.2.2.1, fun w a b k c d => h.2.2.2.2 w k ⟨a, c, Or.inl ⟨b, d⟩⟩⟩, hT.2⟩
section SA
variable {D : vD} {E : Int → Int} {z : vZs} {t : vTE} {m m' : vm_M}
def vSd (k : Nat) (_ : Int) : Bool := Nat.ble 14 k && Nat.ble k 18
theorem vSd_n {k : Nat} {i : Int} (h : k < 14 ∨ 18 < k) : vSd k i = false := Bool.eq_false_iff.mpr (fun q => by
  unfold vSd at q
  simp only [Bool.and_eq_true] at q
  have := Nat.le_of_ble_eq_true q.1
  have := Nat.le_of_ble_eq_true q.2
  omega)
theorem sx_addLetter {Q : Int → vm_M → Prop} {s : vSY} {a : Int} (hs : wo D s) (hw : wx s m) (h1 : sN s < 30 → sV s < 12 → ∀ m', vfr vSd m m' → m' 14 4 = m 14 4 → m' 14 5 = m 14 5 → m' 15 = m 15 → m' 16 = m 16 → wx (sadd s a) m' → Q 1 m') (h0 : ¬ (sN s < 30 ∧ sV s < 12) → Q 0 m) : vm_C 64 [vm_r 14, vm_i a, vm_i (sfl s)] m (vm_qi Q) := by
  obtain ⟨w1, w2, w3, w4⟩ := hw
  have o1 := hs.1
  have o2 := hs.2.1
  refine ru4_addLetter_0 rfl ⟨fun q => ?_, fun q => ?_⟩
  · have hv : sV s ≠ 0 := fun e => q (if_pos e)
    have hf : sfl s = 1 := if_neg hv
    have hn := (hs.2.2.1 hv).1
    have e6 : m 14 6 - 1 = sN s := by omega
    have e7 : m (14 + 3) (sN s) = sV s := w3 hv
    rw [e6, e7]
    refine ⟨by omega, fun x => by omega, fun _ => ⟨⟨o1.1, hn⟩, fun x => ?_, fun x => h0 (fun y => x y.2)⟩⟩
    have e8 : vm_st m (14 + 4) (sN s * 12 + sV s) a (14 + 3) (sN s) = sV s := by rw [vst_k (by decide)]; exact e7
    rw [e8]
    refine ⟨by omega, h1 hn x _ ((vfr.rf.st rfl).st rfl) ?_ ?_ ?_ ?_ ⟨?_, fun w b c => ?_, fun _ => ?_, fun w k hd => ?_⟩⟩
    · rw [vst_k (by decide), vst_k (by decide)]
    · rw [vst_k (by decide), vst_k (by decide)]
    · funext i; rw [vst_k (by decide), vst_k (by decide)]
    · funext i; rw [vst_k (by decide), vst_k (by decide)]
    · rw [vst_k (by decide), vst_k (by decide), w1, hf]
      show sN s + 1 = sN s + (if sV s + 1 = 0 then 0 else 1)
      rw [if_neg (by omega)]
    · have c2 : w < sN s := c
      rw [vst_i (by omega), vst_k (by decide), w2 w b c2]
      show sL s w = if w = sN s then sV s + 1 else sL s w
      rw [if_neg (by omega)]
    · exact vst_s _ _ _ _
    · rw [vst_k (by decide)]
      show vm_st m 18 (sN s * 12 + sV s) a 18 (12 * w + k) = if 12 * w + k = 12 * sN s + sV s then a else sP s (12 * w + k)
      rw [vst_if]
      rcases sadd_d hs hd with e | e
      · rw [if_pos (by omega), if_pos (by omega)]
      · rw [if_neg (by omega), if_neg e.2]; exact w4 w k e.1
  · have hv : sV s = 0 := Decidable.byContradiction (fun e => q (by unfold sfl; rw [if_neg e]; decide))
    have hf : sfl s = 0 := if_pos hv
    have e6 : m 14 6 = sN s := by omega
    rw [e6]
    refine ⟨fun hn => ?_, fun x => h0 (fun y => x y.1)⟩
    have e1 : vm_st m (14 + 3) (sN s) 0 14 6 = sN s := by rw [vst_k (by decide)]; exact e6
    rw [e1]
    have e2 : vm_st (vm_st m (14 + 3) (sN s) 0) 14 6 (sN s + 1) 14 6 = sN s + 1 := vst_s _ _ _ _
    rw [e2, show sN s + 1 - 1 = sN s by omega]
    have e3 : vm_st (vm_st m (14 + 3) (sN s) 0) 14 6 (sN s + 1) (14 + 3) (sN s) = 0 := by rw [vst_k (by decide), vst_s]
    rw [e3]
    have e4 : vm_st (vm_st (vm_st m (14 + 3) (sN s) 0) 14 6 (sN s + 1)) (14 + 4) (sN s * 12 + 0) a (14 + 3) (sN s) = 0 := by rw [vst_k (by decide)]; exact e3
    rw [e4]
    refine ⟨by omega, fun x => by omega, fun _ => ⟨⟨o1.1, hn⟩, fun x => ⟨by omega, h1 hn (by omega) _ ((((vfr.rf.st rfl).st rfl).st rfl).st rfl) ?_ ?_ ?_ ?_ ⟨?_, fun w b c => ?_, fun _ => ?_, fun w k hd => ?_⟩⟩, fun x => by omega⟩⟩
    · rw [vst_k (by decide), vst_k (by decide), vst_i (by decide), vst_k (by decide)]
    · rw [vst_k (by decide), vst_k (by decide), vst_i (by decide), vst_k (by decide)]
    · funext i; rw [vst_k (by decide), vst_k (by decide), vst_k (by decide), vst_k (by decide)]
    · funext i; rw [vst_k (by decide), vst_k (by decide), vst_k (by decide), vst_k (by decide)]
    · rw [vst_k (by decide), vst_k (by decide), vst_s]
      show sN s + 1 = sN s + (if sV s + 1 = 0 then 0 else 1)
      rw [if_neg (by omega)]
    · have c2 : w < sN s := c
      rw [vst_i (by omega), vst_k (by decide), vst_k (by decide), vst_i (by omega), w2 w b c2]
      show sL s w = if w = sN s then sV s + 1 else sL s w
      rw [if_neg (by omega)]
    · show _ = sV s + 1
      rw [hv]
      exact vst_s _ _ _ _
    · rw [vst_k (by decide)]
      show vm_st (vm_st (vm_st m 17 (sN s) 0) 14 6 (sN s + 1)) 18 (sN s * 12 + 0) a 18 (12 * w + k) = if 12 * w + k = 12 * sN s + sV s then a else sP s (12 * w + k)
      rw [vst_if, vst_k (by decide), vst_k (by decide)]
      rcases sadd_d hs hd with e | e
      · rw [if_pos (by omega), if_pos (by omega)]
      · rw [if_neg (by omega), if_neg e.2]; exact w4 w k e.1
theorem wx_fin {s : vSY} (hs : wo D s) (hw : wx s m) : wx (sfin s) m := by
  have hd : ∀ w k, sd (sfin s) w k → m 18 (12 * w + k) = sP (sfin s) (12 * w + k) := fun w k a => by
    have e : sP (sfin s) = sP s := by unfold sfin; split <;> rfl
    rw [e]; exact hw.2.2.2 w k (sfin_d hs a)
  by_cases q : sV s = 0
  · rw [show sfin s = s from if_pos q]; exact hw
  · refine ⟨?_, fun w a b => ?_, fun x => absurd (sfin_v s) x, hd⟩
    · have := hw.1
      rw [show sfl s = 1 from if_neg q] at this
      rw [show sfl (sfin s) = 0 from if_pos (sfin_v s), show sfin s = (sN s + 1, 0, sL s, sP s) from if_neg q, this]
      show sN s + 1 = sN s + 1 + 0
      omega
    · rw [show sfin s = (sN s + 1, 0, sL s, sP s) from if_neg q] at b ⊢
      have b2 : w < sN s + 1 := b
      show m 17 w = sL s w
      by_cases e : w = sN s
      · rw [e, hw.2.2.1 q, (hs.2.2.1 q).2]
      · exact hw.2.1 w a (by omega)
theorem sR_v : ∀ (n : Nat) (i : Int) (s : vSY) {b : Int → Int}, 0 ≤ i → (sR D b n i s).1 = -2 → sV (sR D b n i s).2 = 0
  | 0, _, s, _, _, _ => sfin_v s
  | n + 1, i, s, b, hi, h => by
    unfold sR at h ⊢
    split at h
    · rename_i q; rw [if_pos q]; exact sR_v n _ _ (by omega) h
    · rename_i q
      rw [if_neg q]
      split at h
      · rename_i q2; rw [if_pos q2]; exact sR_v n _ _ (by omega) h
      · have : i = -2 := h
        omega
theorem sx_readWords {Q : Int → vm_M → Prop} (hZ : ZO D z) (hA : dAx D m 3) (hT : XT z m) (h : ∀ s m', vfr vSd m m' → m' 14 4 = m 14 4 → m' 14 5 = m 14 5 → m' 15 = m 15 → m' 16 = m 16 → s = sR D (zb z) (zn z).toNat 0 (0, 0, fun _ => 0, fun _ => 0) → (s.1 = -2 → wo D s.2 ∧ wx s.2 m') → Q s.1 m') : vm_C 63 [vm_r 14, vm_r 1, vm_r 3] m (vm_qi Q) := by
  have hn := hZ.1
  have go : ∀ (n : Nat) (i : Int) (s : vSY) (w5 : Option vm_V) (m2 : vm_M), 0 ≤ i → i + n = zn z → vfr vSd m m2 → m2 14 4 = m 14 4 → m2 14 5 = m 14 5 → m2 15 = m 15 → m2 16 = m 16 → wo D s → wx s m2 → sR D (zb z) n i s = sR D (zb z) (zn z).toNat 0 (0, 0, fun _ => 0, fun _ => 0) → ku4_readWords_10 14 3 (sfl s) i w5 m2 Q := by
    intro n
    induction n with
    | zero =>
      intro i s w5 m2 hi hin f2 g4 g5 g15 g16 hs hw e
      refine ru4_readWords_10 rfl rfl ?_
      rw [f2 1 1 rfl, hT.1]
      exact ⟨fun _ => h (-2, sfin s) m2 f2 g4 g5 g15 g16 e (fun _ => ⟨sfin_ok hs, wx_fin hs hw⟩), fun q => by omega⟩
    | succ n ih =>
      intro i s w5 m2 hi hin f2 g4 g5 g15 g16 hs hw e
      have hb := hZ.2.1 i hi (by omega)
      have hA2 : dAx D m2 3 := hA.fr f2 rfl (fun _ => rfl) (fun _ => rfl)
      refine ru4_readWords_10 rfl rfl ?_
      rw [f2 1 1 rfl, hT.1]
      refine ⟨fun q => by omega, fun _ => ru7_byteAt_0 ?_⟩
      rw [f2 1 1 rfl, hT.1, f2 2 i rfl, hT.2 i hi (by omega)]
      rw [sR_S] at e
      have white : zb z i = 32 ∨ zb z i = 10 → ku4_readWords_10 14 3 0 (i + 1) (some (vm_i (zb z i))) m2 Q := fun q => by
        rw [if_pos q] at e
        have := ih (i + 1) (sfin s) (some (vm_i (zb z i))) m2 (by omega) (by omega) f2 g4 g5 g15 g16 (sfin_ok hs) (wx_fin hs hw) e
        rw [show sfl (sfin s) = 0 from if_pos (sfin_v s)] at this
        exact this
      have blk : ¬ (zb z i = 32 ∨ zb z i = 10) → vm_32 (zb z i - 97) ∧ vm_C 3 [vm_r 3, vm_i (zb z i - 97)] m2 (vm_qi (fun z3 m3 => (z3 = 0 → Q i m3) ∧ (¬ z3 = 0 → vm_32 (zb z i - 97) ∧ vm_C 64 [vm_r 14, vm_i (zb z i - 97), vm_i (sfl s)] m3 (vm_qi (fun z4 m4 => (¬ z4 = 0 → vm_32 (i + 1) ∧ ku4_readWords_10 14 3 1 (i + 1) (some (vm_i (zb z i))) m4 Q) ∧ (¬ ¬ z4 = 0 → Q i m4)))))) := fun q => by
        rw [if_neg q] at e
        refine ⟨by omega, sx_knows rfl hA2 (fun k => ⟨fun x => by omega, fun _ => ⟨by omega, ?_⟩⟩) (fun k => ⟨fun _ => ?_, fun x => absurd rfl x⟩)⟩
        · refine sx_addLetter hs hw (fun n1 v1 m3 f3 k4 k5 k15 k16 w' => ⟨fun _ => ⟨by omega, ?_⟩, fun x => absurd (show ¬ (1 : Int) = 0 by decide) x⟩) (fun x => ⟨fun y => absurd rfl y, fun _ => ?_⟩)
          · rw [if_pos ⟨k, n1, v1⟩] at e
            have := ih (i + 1) (sadd s (zb z i - 97)) (some (vm_i (zb z i))) m3 (by omega) (by omega) (f2.tr f3) (k4.trans g4) (k5.trans g5) (k15.trans g15) (k16.trans g16) (sadd_ok k n1 v1 hs) w' e
            rw [show sfl (sadd s (zb z i - 97)) = 1 from if_neg (by show sV s + 1 ≠ 0; have := hs.2.1; omega)] at this
            exact this
          · rw [if_neg (fun y => x y.2)] at e
            exact h (i, s) m2 f2 g4 g5 g15 g16 e (fun x => by have : i = -2 := x; omega)
        · rw [if_neg (fun y => k y.1)] at e
          exact h (i, s) m2 f2 g4 g5 g15 g16 e (fun x => by have : i = -2 := x; omega)
      refine ⟨fun q => by omega, fun _ => ⟨fun q => by omega, fun _ => ⟨⟨hi, by omega⟩, ru7_isWhite_0 ⟨fun q => ⟨fun x => by omega, fun _ => ⟨by omega, white (Or.inl q)⟩⟩, fun q => ⟨fun q2 => ⟨fun _ => blk (by omega), fun x => absurd rfl x⟩, fun q2 => ⟨fun x => by omega, fun _ => ⟨by omega, white (Or.inr (by omega))⟩⟩⟩⟩⟩⟩⟩
  refine ru4_readWords_0 rfl rfl ?_
  have := go (zn z).toNat 0 (0, 0, fun _ => 0, fun _ => 0) none (vm_st m 14 6 0) (Int.le_refl _) (by omega) (vfr.rf.st rfl) (by rw [vst_i (by decide)]) (by rw [vst_i (by decide)]) (by funext i; rw [vst_k (by decide)]) (by funext i; rw [vst_k (by decide)]) ⟨by decide, by decide, fun x => absurd rfl x, fun w a b => ?_, fun w k hd => ?_⟩ ⟨vst_s _ _ _ _, fun w a b => ?_, fun x => absurd rfl x, fun w k hd => ?_⟩ rfl
  · exact this
  · have : w < 0 := b
    omega
  · obtain ⟨a, b, c⟩ := hd
    have : (w < 0 ∧ k < 0) ∨ (w = 0 ∧ k < 0) := c
    omega
  · have : w < 0 := b
    omega
  · obtain ⟨a, b, c⟩ := hd
    have : (w < 0 ∧ k < 0) ∨ (w = 0 ∧ k < 0) := c
    omega
end SA
