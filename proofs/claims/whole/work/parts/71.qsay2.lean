/-! ===== saying words in the model ===== -/
section SB
variable {D : vD} {E : Int → Int} {z : vZs} {t : vTE} {m m' : vm_M}
def vSe (k : Nat) (i : Int) : Bool := Nat.beq k 115 || Nat.beq k 116 || (Nat.beq k 96 && (decide (i = 26) || decide (i = 40)))
theorem vSe_n {k : Nat} {i : Int} (h1 : k ≠ 115) (h2 : k ≠ 116) (h3 : k = 96 → i ≠ 26 ∧ i ≠ 40) : vSe k i = false := Bool.eq_false_iff.mpr (fun q => by
  unfold vSe at q
  simp only [Bool.or_eq_true, Bool.and_eq_true, decide_eq_true_eq] at q
  rcases q with (q | q) | q
  · exact h1 (vm_beq q)
  · exact h2 (vm_beq q)
  · have := h3 (vm_beq q.1)
    rcases q.2 with x | x
    · exact this.1 x
    · exact this.2 x)
theorem vsg_w {b : Int} (hb : 0 ≤ b ∧ b ≤ 255) {c : Int} (hc : 0 ≤ c ∧ c ≤ 127) : vsg b = c ↔ b = c := by
  unfold vsg
  split <;> omega
theorem sm_whiteAt {Q : Int → vm_M → Prop} (hZ : ZO D z) (hT : MT z m) {i : Int} (h26 : m 96 26 = i) (hi : 0 ≤ i) (h1 : i < zn z → zb z i = 32 ∨ zb z i = 10 → Q 1 m) (h0 : ¬ (i < zn z ∧ (zb z i = 32 ∨ zb z i = 10)) → Q 0 m) : vm_C 201 [vm_r 96] m (vm_qi Q) := by
  have hn := hZ.1
  refine ru11_isWhite_0 ?_
  rw [h26, hT.1]
  refine ⟨fun q => h0 (fun x => by omega), fun q => ?_⟩
  have hb := hZ.2.1 i hi (by omega)
  rw [hT.2 i hi (by omega)]
  refine ⟨⟨hi, by omega⟩, fun q2 => h1 (by omega) (Or.inl ((vsg_w hb (by decide)).mp q2)), fun q2 => ⟨⟨hi, by omega⟩, fun q3 => h0 (fun x => ?_), fun q3 => h1 (by omega) (Or.inr ((vsg_w hb (by decide)).mp (Decidable.not_not.mp q3)))⟩⟩
  rcases x.2 with y | y
  · exact q2 ((vsg_w hb (by decide)).mpr y)
  · exact q3 ((vsg_w hb (by decide)).mpr y)
/-- a word is done -/
theorem wm_fin {s : vSY} (hs : wo D s) (hv : sV s ≠ 0) (hw : wm s m) : wm (sfin s) (vm_st (vm_st m 115 (sN s) (sV s)) 96 40 (sN s + 1)) := by
  have e : sfin s = (sN s + 1, 0, sL s, sP s) := if_neg hv
  obtain ⟨w1, w2, w3⟩ := hw
  rw [e]
  refine ⟨vst_s _ _ _ _, fun w a b => ?_, fun w k hd => ?_⟩
  · have b2 : w < sN s + 1 := b
    rw [vst_k (by decide), vst_if]
    show _ = sL s w
    by_cases q : w = sN s
    · rw [if_pos q, q, (hs.2.2.1 hv).2]
    · rw [if_neg q]; exact w2 w a (by omega)
  · rw [vst_k (by decide), vst_k (by decide)]
    exact w3 w k (sfin_d hs (by rw [e]; exact hd))
/-- a letter more -/
theorem wm_add {s : vSY} {a : Int} (hs : wo D s) (hw : wm s m) {i : Int} : wm (sadd s a) (vm_st (vm_st m 116 (12 * sN s + sV s) a) 96 26 i) := by
  obtain ⟨w1, w2, w3⟩ := hw
  refine ⟨by rw [vst_i (by decide), vst_k (by decide)]; exact w1, fun w b c => ?_, fun w k hd => ?_⟩
  · have c2 : w < sN s := c
    rw [vst_k (by decide), vst_k (by decide), w2 w b c2]
    show sL s w = if w = sN s then sV s + 1 else sL s w
    rw [if_neg (by omega)]
  · show _ = if 12 * w + k = 12 * sN s + sV s then a else sP s (12 * w + k)
    rw [vst_k (by decide), vst_if]
    rcases sadd_d hs hd with e | e
    · rw [if_pos (by omega), if_pos (by omega)]
    · rw [if_neg e.2, if_neg e.2]; exact w3 w k e.1
theorem wm_fr {s : vSY} {S : Nat → Int → Bool} (h : vfr S m m') (h1 : S 96 40 = false) (h2 : ∀ i, S 115 i = false) (h3 : ∀ i, S 116 i = false) (hw : wm s m) : wm s m' := by
  obtain ⟨w1, w2, w3⟩ := hw
  exact ⟨by rw [h _ _ h1]; exact w1, fun w a b => by rw [h _ _ (h2 _)]; exact w2 w a b, fun w k d => by rw [h _ _ (h3 _)]; exact w3 w k d⟩
theorem sm_readsWords {Q : Int → vm_M → Prop} (hZ : ZO D z) (hA : dAm D m) (hT : MT z m) (h1 : ∀ s m', vfr vSe m m' → s = sR D (zb z) (zn z).toNat 0 (0, 0, fun _ => 0, fun _ => 0) → s.1 = -2 → wo D s.2 → wm s.2 m' → Q 1 m') (h0 : ∀ s m', vfr vSe m m' → s = sR D (zb z) (zn z).toNat 0 (0, 0, fun _ => 0, fun _ => 0) → s.1 ≠ -2 → m' 96 26 = s.1 → Q 0 m') : vm_C 219 [vm_r 96] m (vm_qi Q) := by
  have hn := hZ.1
  have fT : ∀ m2, vfr vSe m m2 → MT z m2 := fun m2 f => hT.fr f (fun _ => rfl) rfl
  have fA : ∀ m2, vfr vSe m m2 → dAm D m2 := fun m2 f => hA.fr f rfl rfl (fun _ => rfl) (fun _ => rfl)
  have go : ∀ (n : Nat), (∀ (i : Int) (s : vSY) (m2 : vm_M), sV s = 0 → 0 ≤ i → i + n = zn z → vfr vSe m m2 → m2 96 26 = i → wo D s → wm s m2 → sR D (zb z) n i s = sR D (zb z) (zn z).toNat 0 (0, 0, fun _ => 0, fun _ => 0) → ku11_readsWords_10 m2 Q) ∧ (∀ (i : Int) (s : vSY) (m2 : vm_M), 0 ≤ i → i + n = zn z → vfr vSe m m2 → m2 96 26 = i → wo D s → sN s < 30 → (sV s = 0 → i < zn z ∧ ¬ (zb z i = 32 ∨ zb z i = 10)) → wm s m2 → sR D (zb z) n i s = sR D (zb z) (zn z).toNat 0 (0, 0, fun _ => 0, fun _ => 0) → ku11_readSpoken_13 (sV s) m2 (fun z2 m3 => (¬ z2 = 0 → ku11_readsWords_10 m3 Q) ∧ (¬ ¬ z2 = 0 → Q 0 m3))) := by
    intro n
    induction n with
    | zero =>
      have hA0 : ∀ (i : Int) (s : vSY) (m2 : vm_M), sV s = 0 → 0 ≤ i → i + (0 : Nat) = zn z → vfr vSe m m2 → m2 96 26 = i → wo D s → wm s m2 → sR D (zb z) 0 i s = sR D (zb z) (zn z).toNat 0 (0, 0, fun _ => 0, fun _ => 0) → ku11_readsWords_10 m2 Q := by
        intro i s m2 hv hi hin f2 g26 hs hw e
        have T2 := fT m2 f2
        refine ru11_readsWords_10 (sm_whiteAt hZ T2 g26 hi (fun x => by omega) (fun _ => ⟨fun _ => ?_, fun x => absurd rfl x⟩))
        rw [g26, T2.1]
        refine ⟨fun x => by omega, fun _ => h1 (-2, sfin s) m2 f2 e rfl (sfin_ok hs) ?_⟩
        rw [show (((-2 : Int), sfin s) : Int × vSY).2 = s from if_pos hv]
        exact hw
      refine ⟨hA0, fun i s m2 hi hin f2 g26 hs hN hne hw e => ?_⟩
      have T2 := fT m2 f2
      have hv : sV s ≠ 0 := fun x => by have := (hne x).1; omega
      have o1 := hs.1
      refine ru11_readSpoken_13 ?_
      rw [T2.1, g26, hw.1, vst_k (show (96 : Nat) ≠ 115 by decide), hw.1]
      refine ⟨fun _ => ⟨⟨by omega, by omega⟩, fun _ => ?_, fun x => absurd (show ¬ (1 : Int) = 0 by decide) x⟩, fun x => by omega⟩
      exact hA0 i (sfin s) _ (sfin_v s) hi hin ((f2.st rfl).st rfl) (by rw [vst_i (by decide), vst_k (by decide)]; exact g26) (sfin_ok hs) (wm_fin hs hv hw) (by rw [← e]; show ((-2 : Int), sfin (sfin s)) = (-2, sfin s); rw [show sfin (sfin s) = sfin s from if_pos (sfin_v s)])
    | succ n ih =>
      obtain ⟨ihA, ihB⟩ := ih
      -- at a white byte
      have wh : ∀ (i : Int) (s : vSY) (m2 : vm_M), zb z i = 32 ∨ zb z i = 10 → sV s = 0 → 0 ≤ i → i + (n + 1 : Nat) = zn z → vfr vSe m m2 → m2 96 26 = i → wo D s → wm s m2 → sR D (zb z) n (i + 1) s = sR D (zb z) (zn z).toNat 0 (0, 0, fun _ => 0, fun _ => 0) → ku11_readsWords_10 m2 Q := by
        intro i s m2 hb hv hi hin f2 g26 hs hw e
        have T2 := fT m2 f2
        refine ru11_readsWords_10 (sm_whiteAt hZ T2 g26 hi (fun _ _ => ⟨fun x => by omega, fun _ => ?_⟩) (fun x => absurd ⟨by omega, hb⟩ x))
        rw [g26]
        exact ⟨by omega, ihA (i + 1) s _ hv (by omega) (by omega) (f2.st rfl) (vst_s _ _ _ _) hs (wm_fr (S := fun k i => Nat.beq k 96 && decide (i = 26)) (vfr.rf.st rfl) rfl (fun _ => rfl) (fun _ => rfl) hw) e⟩
      have hB : ∀ (i : Int) (s : vSY) (m2 : vm_M), 0 ≤ i → i + (n + 1 : Nat) = zn z → vfr vSe m m2 → m2 96 26 = i → wo D s → sN s < 30 → (sV s = 0 → i < zn z ∧ ¬ (zb z i = 32 ∨ zb z i = 10)) → wm s m2 → sR D (zb z) (n + 1) i s = sR D (zb z) (zn z).toNat 0 (0, 0, fun _ => 0, fun _ => 0) → ku11_readSpoken_13 (sV s) m2 (fun z2 m3 => (¬ z2 = 0 → ku11_readsWords_10 m3 Q) ∧ (¬ ¬ z2 = 0 → Q 0 m3)) := by
        intro i s m2 hi hin f2 g26 hs hN hne hw e
        have T2 := fT m2 f2
        have A2 := fA m2 f2
        have o1 := hs.1
        have o2 := hs.2.1
        have hb := hZ.2.1 i hi (by omega)
        have hc := T2.2 i hi (by omega)
        rw [sR_S] at e
        refine ru11_readSpoken_13 ?_
        rw [T2.1, g26]
        refine ⟨fun x => by omega, fun _ => sm_whiteAt hZ T2 g26 hi (fun _ q => ⟨fun _ => ?_, fun x => absurd (show ¬ (1 : Int) = 0 by decide) x⟩) (fun q => ⟨fun x => absurd rfl x, fun _ => ?_⟩)⟩
        · have hv : sV s ≠ 0 := fun x => (hne x).2 q
          rw [if_pos q] at e
          rw [hw.1, vst_k (show (96 : Nat) ≠ 115 by decide), hw.1]
          refine ⟨⟨by omega, by omega⟩, fun _ => ?_, fun x => absurd (show ¬ (1 : Int) = 0 by decide) x⟩
          exact wh i (sfin s) _ q (sfin_v s) hi hin ((f2.st rfl).st rfl) (by rw [vst_i (by decide), vst_k (by decide)]; exact g26) (sfin_ok hs) (wm_fin hs hv hw) e
        · have q' : ¬ (zb z i = 32 ∨ zb z i = 10) := fun x => q ⟨by omega, x⟩
          rw [if_neg q'] at e
          have bad : ¬ ((0 ≤ zb z i - 97 ∧ zb z i - 97 < 26 ∧ 0 < dW D (zb z i - 97)) ∧ sN s < 30 ∧ sV s < 12) → Q 0 m2 := fun x => by
            rw [if_neg x] at e
            exact h0 (i, s) m2 f2 e (by show i ≠ -2; omega) g26
          refine ru11_isByte_0 ?_
          rw [T2.1, g26, hc]
          have nb : ¬ (97 ≤ zb z i ∧ zb z i ≤ 122) → (0 : Int) = 0 → ((0 : Int) = 0 → Q 0 m2) := fun x _ _ => bad (fun y => by omega)
          have z0 : ¬ (97 ≤ zb z i ∧ zb z i ≤ 122) → ((0 : Int) = 0 → (¬ (0 : Int) = 0 → ku11_readsWords_10 m2 Q) ∧ (¬ ¬ (0 : Int) = 0 → Q 0 m2)) := fun x _ => ⟨fun y => absurd rfl y, fun _ => nb x rfl rfl⟩
          have hsg : vsg (zb z i) < 97 ∨ 122 < vsg (zb z i) ↔ ¬ (97 ≤ zb z i ∧ zb z i ≤ 122) := by unfold vsg; split <;> omega
          refine ⟨fun x => by omega, fun _ => ⟨⟨hi, by omega⟩, fun x => ⟨z0 (hsg.mp (Or.inl x)), fun y => absurd rfl y⟩, fun x1 => ⟨⟨hi, by omega⟩, fun x => ⟨z0 (hsg.mp (Or.inr x)), fun y => absurd rfl y⟩, fun x2 => ⟨fun y => by omega, fun _ => ?_⟩⟩⟩⟩
          have hr : 97 ≤ zb z i ∧ zb z i ≤ 122 := Decidable.byContradiction (fun y => by
            rcases hsg.mpr y with a | a
            · exact x1 a
            · exact x2 a)
          have ev : vsg (zb z i) = zb z i := if_pos (by omega)
          rw [ev]
          refine ⟨⟨⟨hi, by omega⟩, by omega⟩, sm_isLetter A2 (fun k => ⟨fun x => by omega, fun _ => ⟨fun x12 => ?_, fun x12 => ?_⟩⟩) (fun k => ⟨fun _ => ⟨fun y => absurd rfl y, fun _ => bad (fun y => k y.1)⟩, fun y => absurd rfl y⟩)⟩
          · have hv12 : sV s < 12 := by omega
            rw [if_pos ⟨k, hN, hv12⟩] at e
            rw [hw.1, g26, vst_k (show (96 : Nat) ≠ 116 by decide), g26, hc, ev]
            refine ⟨by omega, ?_⟩
            exact ihB (i + 1) (sadd s (zb z i - 97)) _ (by omega) (by omega) ((f2.st rfl).st rfl) (vst_s _ _ _ _) (sadd_ok k hN hv12 hs) hN (fun x => by have : sV s + 1 = 0 := x; omega) (wm_add hs hw) e
          · exact ⟨fun y => absurd rfl y, fun _ => bad (fun y => by omega)⟩
      refine ⟨fun i s m2 hv hi hin f2 g26 hs hw e => ?_, hB⟩
      by_cases q : zb z i = 32 ∨ zb z i = 10
      · refine wh i s m2 q hv hi hin f2 g26 hs hw ?_
        rw [sR_S, if_pos q, show sfin s = s from if_pos hv] at e
        exact e
      · have T2 := fT m2 f2
        refine ru11_readsWords_10 (sm_whiteAt hZ T2 g26 hi (fun _ x => absurd x q) (fun _ => ⟨fun _ => ?_, fun x => absurd rfl x⟩))
        rw [g26, T2.1]
        refine ⟨fun _ => ru11_readSpoken_0 ?_, fun x => by omega⟩
        rw [hw.1]
        have o1 := hs.1
        refine ⟨fun x => ?_, fun x => ⟨fun y => absurd rfl y, fun _ => ?_⟩⟩
        · have := hB i s m2 hi hin f2 g26 hs (by omega) (fun _ => ⟨by omega, q⟩) hw e
          rw [hv] at this
          exact this
        · rw [sR_S, if_neg q, if_neg (fun y => by omega)] at e
          exact h0 (i, s) m2 f2 e (by show i ≠ -2; omega) g26
  refine ru11_readsWords_0 ((go (zn z).toNat).1 0 (0, 0, fun _ => 0, fun _ => 0) _ rfl (Int.le_refl _) (by omega) ((vfr.rf.st rfl).st rfl) (by rw [vst_i (by decide), vst_s]) ⟨by decide, by decide, fun x => absurd rfl x, fun w a b => ?_, fun w k hd => ?_⟩ ⟨vst_s _ _ _ _, fun w a b => ?_, fun w k hd => ?_⟩ rfl)
  · have : w < 0 := b
    omega
  · obtain ⟨a, b, c⟩ := hd
    have : (w < 0 ∧ k < 0) ∨ (w = 0 ∧ k < 0) := c
    omega
  · have : w < 0 := b
    omega
  · obtain ⟨a, b, c⟩ := hd
    have : (w < 0 ∧ k < 0) ∨ (w = 0 ∧ k < 0) := c
    omega
end SB
