/-! ===== x loads a setup ===== -/
/-- what is loaded -/
def pN6 (s : vPS) : Int → Int := fun k => if k < 6 then pE s k else 0
def pD (s : vPS) : vD := (pW s, pS s, pC s, pK s, fun _ => 0, fun _ => 0, 0)
def zL (z : vZs) : vZs := (0, zb z, -2, 0, zh z, fun _ => 0, zs z)
section LX
variable {D : vD} {E : Int → Int} {z : vZs} {s : vPS} {m m' : vm_M} {S : Nat → Int → Bool}
theorem pD_OC (h : pR 1 6 s) : OC (pD s) (pN6 s) := by
  obtain ⟨h1, h2, h3, h4, h5⟩ := h
  have c := h1 (by decide)
  have g : ∀ k, 0 ≤ k → k < 6 → plo k ≤ pN6 s k ∧ pN6 s k ≤ phi (pC s) k := fun k a b => by
    have : pN6 s k = pE s k := if_pos b
    rw [this]; exact h4 k a b
  refine ⟨⟨by show (0 : Int) ≤ pC s; omega, c.2, h2, fun a _ i _ _ => h3 _⟩, ⟨h5, Int.le_refl _, by show (0 : Int) ≤ 30; decide, fun w a b => by have : w < 0 := b; omega, fun w a b => by have : w < 0 := b; omega⟩, g 0 (by decide) (by decide), g 1 (by decide) (by decide), g 2 (by decide) (by decide), g 3 (by decide) (by decide), g 4 (by decide) (by decide), g 5 (by decide) (by decide), Or.inl rfl, Or.inl rfl⟩
theorem zL_ok (hZ : ZO D z) : ZO (pD s) (zL z) := by
  refine ⟨⟨by show (0 : Int) ≤ 0; decide, by show (0 : Int) ≤ 2000; decide⟩, fun i a b => by have : i < 0 := b; omega, by show (0 : Nat) ≤ 8; decide, fun j hj => by have : j < 0 := hj; omega, fun s _ => ⟨Or.inl rfl, fun q => absurd (show (0 : Int) = 1 from q) (by decide)⟩⟩
theorem XC.fo2 (h : vfr S m m') (hs : ∀ k i, (3 ≤ k ∧ k ≤ 5) ∨ (9 ≤ k ∧ k ≤ 13) ∨ (65 ≤ k ∧ k ≤ 85) → S k i = false) (h15 : S 0 15 = false) (hX : XC D E m) : XC D E m' := by
  obtain ⟨h1, h2, h3, h4, h5, h6, h7⟩ := hX
  refine ⟨h1.fr h (hs _ _ (by omega)) (fun _ => hs _ _ (by omega)) (fun _ => hs _ _ (by omega)), h2.fr h (hs _ _ (by omega)) (fun _ => hs _ _ (by omega)) (fun _ => hs _ _ (by omega)) (fun _ => hs _ _ (by omega)), h3.fr h (fun _ => hs _ _ (by omega)) (hs _ _ (by omega)) (hs _ _ (by omega)), by rw [h _ _ (hs _ _ (by omega)), h4], ?_, by rw [h _ _ (hs _ _ (by omega)), h6], by rw [h _ _ (hs _ _ (by omega)), h7]⟩
  rw [h 0 15 h15]
  rcases h5 with a | a
  · exact Or.inl a
  · exact Or.inr ⟨a.1, a.2.fr h (fun k i b => hs _ _ (by omega))⟩
def vSl2 (k : Nat) (i : Int) : Bool := vSp k i || (Nat.beq k 0 && decide (i = 14)) || (Nat.beq k 1 && decide (i = 1))
theorem vSl2_n {k : Nat} {i : Int} (h : vSp k i = false) (h0 : k = 0 → i ≠ 14) (h1 : k ≠ 1) : vSl2 k i = false := Bool.eq_false_iff.mpr (fun q => by
  unfold vSl2 at q
  simp only [Bool.or_eq_true, Bool.and_eq_true, decide_eq_true_eq] at q
  rcases q with (q | q) | q
  · rw [h] at q; cases q
  · exact h0 (vm_beq q.1) q.2
  · exact h1 (vm_beq q.1))
def vA35 (k : Nat) (_ : Int) : Bool := Nat.ble 3 k && Nat.ble k 5
def vAfl (k : Nat) (i : Int) : Bool := Nat.beq k 21 && decide (i = 2) || Nat.beq k 64 || (Nat.beq k 0 && decide (i = 15))
/-- the drafts become the alphabet -/
theorem sx_copyA {Q : vm_M → Prop} (h : ∀ m', vfr vA35 m m' → m' 3 2 = m 6 2 → m' 3 3 = m 6 3 → (∀ a, 0 ≤ a → a < 26 → m' 4 a = m 7 a) → (∀ i, 0 ≤ i → i < 312 → m' 5 i = m 8 i) → Q m') : vm_C 1 [vm_r 3, vm_r 6] m (vm_qv Q) := by
  refine ru0_copyFrom_0 rfl rfl ?_
  have r2 : ∀ (k : Nat) (i : Int), k ≠ 4 → k ≠ 5 → (vm_cp (vm_cp m (6 + 1) 0 (3 + 1) 0 26) (6 + 2) 0 (3 + 2) 0 312) k i = m k i := fun k i a b => by rw [vcp_k b, vcp_k a]
  have c1 : ∀ i : Int, 0 ≤ i → i < 26 → (vm_cp (vm_cp m (6 + 1) 0 (3 + 1) 0 26) (6 + 2) 0 (3 + 2) 0 312) 4 i = m 7 i := fun i a b => by
    rw [vcp_k (by decide), vcp_in ⟨a, by omega⟩, show 0 + (i - 0) = i by omega]
  have c2 : ∀ i : Int, 0 ≤ i → i < 312 → (vm_cp (vm_cp m (6 + 1) 0 (3 + 1) 0 26) (6 + 2) 0 (3 + 2) 0 312) 5 i = m 8 i := fun i a b => by
    rw [vcp_in ⟨a, by omega⟩, show 0 + (i - 0) = i by omega, vcp_k (by decide)]
  have hfr : vfr vA35 m (vm_cp (vm_cp m (6 + 1) 0 (3 + 1) 0 26) (6 + 2) 0 (3 + 2) 0 312) := fun k i hk => by
    refine r2 k i (fun q => ?_) (fun q => ?_) <;> (rw [q] at hk; exact absurd (show true = false from hk) (by decide))
  generalize vm_cp (vm_cp m (6 + 1) 0 (3 + 1) 0 26) (6 + 2) 0 (3 + 2) 0 312 = M at *
  rw [vst_k (show (6 : Nat) ≠ 3 by decide), r2 6 2 (by decide) (by decide), r2 6 3 (by decide) (by decide)]
  refine h _ ((hfr.st rfl).st rfl) (by rw [vst_i (by decide), vst_s]) (vst_s _ _ _ _) (fun a x y => ?_) (fun i x y => ?_)
  · rw [vst_k (by decide), vst_k (by decide)]; exact c1 a x y
  · rw [vst_k (by decide), vst_k (by decide)]; exact c2 i x y
theorem sx_load {Q : Int → vm_M → Prop} (hZ : ZO D z) (hX : XC D E m) (rX : XR D z m) (h0 : ∀ s' m', vfr vSxx m m' → XC D E m' → XR D (zY z (tF (zb z) (zn z) (pp s'))) m' → pLoad z (pz0 (m 6 2)) = pErr z s' → Q (-1) m') (h1 : ∀ s' m', vfr vSxx m m' → XC (pD s') (pN6 s') m' → XR (pD s') (zL z) m' → pLoad z (pz0 (m 6 2)) = (true, -2, s') → Q (vs (vtl (pD s')) 26) m') : vm_C 103 [vm_r 0] m (vm_qi Q) := by
  obtain ⟨r1, r2, r3, r4, r5⟩ := rX
  have sp : ∀ (k : Nat) (i : Int), ¬ (6 ≤ k ∧ k ≤ 8) → ¬ (14 ≤ k ∧ k ≤ 18) → k ≠ 20 → vSp k i = false := fun k i => vSp_n
  have fx : ∀ e m1, vfr vSp m m1 → vfr vSl2 m (vm_st (vm_st m1 0 14 e) 1 1 0) := fun e m1 f => ((f.sub (fun k i hk => by show vSl2 k i = true; unfold vSl2; rw [hk]; rfl) : vfr vSl2 m m1).st (by unfold vSl2; decide)).st (by unfold vSl2; decide)
  have n2 : ∀ (k : Nat) (i : Int), ¬ (6 ≤ k ∧ k ≤ 8) → ¬ (14 ≤ k ∧ k ≤ 18) → k ≠ 20 → k ≠ 1 → (k = 0 → i ≠ 14) → vSl2 k i = false := fun k i a b c d e => vSl2_n (sp k i a b c) e d
  have xx : ∀ m1, vfr vSl2 m m1 → vfr vSxx m m1 := fun m1 f => f.sub (fun k i hk => vSxx_t (by
    rcases Nat.lt_or_ge k 96 with a | a
    · exact a
    · rw [n2 k i (by omega) (by omega) (by omega) (by omega) (by omega)] at hk; cases hk))
  refine ru10_load_0 (sx_read hZ r1 r5 (fun s' c' U' m1 p e => ⟨fun _ => ru5_stoppedAt_0 ⟨fun x => absurd rfl x, fun _ => ?_⟩, fun x => absurd rfl x⟩) (fun s' U' m1 p l e => ⟨fun x => absurd x (by decide), fun _ => ⟨fun _ => ?_, fun x => absurd (show ¬ (1 : Int) = 0 by decide) x⟩⟩))
  · rw [p.2.1.2.1]
    have f := fx (tF (zb z) (zn z) (pp s')) m1 p.1
    refine h0 s' _ (xx _ f) (hX.fo2 f (fun k i a => n2 k i (by omega) (by omega) (by omega) (by omega) (by omega)) (n2 0 15 (by decide) (by decide) (by decide) (by decide) (by decide))) ⟨⟨vst_s _ _ _ _, fun i a b => by have : i < 0 := b; omega⟩, ?_, r3.fr f (fun k i a b => n2 k i (by omega) (by omega) (by omega) (by omega) (by omega)) hZ.2.2.1, r4.fr f (fun k i a => n2 k i (by omega) (by omega) (by omega) (by omega) (by omega)), r5.fr f (fun k i a => n2 k i (by omega) (by omega) (by omega) (by omega) (by omega))⟩ e
    rw [vst_k (by decide), vst_s]; rfl
  · have f := fx (-2) m1 p.1
    have hO := pD_OC (pg_load e)
    have P2 : PA U' 6 s' (vm_st (vm_st m1 0 14 (-2)) 1 1 0) := p.2.2.fr (S := fun k _ => Nat.ble k 1) ((vfr.rf.st rfl).st rfl) (fun k i a => Bool.eq_false_iff.mpr (fun q => by have := Nat.le_of_ble_eq_true q; omega))
    have g1 : vm_st (vm_st m1 0 14 (-2)) 1 1 0 1 1 = 0 := vst_s _ _ _ _
    have g14 : vm_st (vm_st m1 0 14 (-2)) 1 1 0 0 14 = -2 := by rw [vst_k (by decide), vst_s]
    generalize vm_st (vm_st m1 0 14 (-2)) 1 1 0 = m2 at *
    obtain ⟨a1, a2, a3, a4, a5, a6, a7, a8, a9⟩ := P2
    refine sx_copyA (fun m3 f3 b1 b2 b3 b4 => ?_)
    have n3 : ∀ (k : Nat) (i : Int), k < 3 ∨ 5 < k → vA35 k i = false := fun k i a => Bool.eq_false_iff.mpr (fun q => by
      unfold vA35 at q
      simp only [Bool.and_eq_true] at q
      have a := Nat.le_of_ble_eq_true q.1
      have b := Nat.le_of_ble_eq_true q.2
      omega)
    have T3 : TX (pD s') (teN (pD s') (pN6 s')) m3 14 := by
      refine ⟨⟨by rw [f3 _ _ (n3 _ _ (by omega))]; exact a9, fun k a b => by rw [f3 _ _ (n3 _ _ (by omega))]; exact a6 k a b, fun w a b => by have : w < 0 := b; omega, fun w a b => by have : w < 0 := b; omega⟩, ?_, ?_, ?_, ?_, ?_, ?_, ?_, ?_⟩
      · rw [f3 _ _ (n3 _ _ (by omega))]; exact a5 0 (by decide) (by decide)
      · rw [f3 _ _ (n3 _ _ (by omega))]; exact a5 1 (by decide) (by decide)
      · rw [f3 _ _ (n3 _ _ (by omega))]; exact a5 2 (by decide) (by decide)
      · rw [f3 _ _ (n3 _ _ (by omega))]; exact a5 3 (by decide) (by decide)
      · rw [f3 _ _ (n3 _ _ (by omega))]; exact a5 4 (by decide) (by decide)
      · rw [f3 _ _ (n3 _ _ (by omega))]; exact a5 5 (by decide) (by decide)
      · rw [f3 _ _ (n3 _ _ (by omega))]; exact a7
      · rw [f3 _ _ (n3 _ _ (by omega))]; exact a8
    have A3 : dAx (pD s') m3 3 := by
      refine ⟨by rw [b1]; exact a1, fun a x y => by rw [show m3 (3 + 1) a = m2 7 a from b3 a x y]; exact a3 a x y, fun a ha i x y => ?_⟩
      have k1 := ha.1
      have k2 := ha.2.1
      rw [show m3 (3 + 2) (12 * a + i) = m2 8 (12 * a + i) from b4 _ (by omega) (by omega)]
      exact a4 _ (l a k1 k2 ha.2.2 i x y)
    have t3 : m3 3 3 = vs (vtl (pD s')) 26 := by
      rw [b2, a2]
      refine vs_cg 26 (fun i x y => ?_)
      show (if 0 < pW s' i then (1 : Int) else 0) = vif (0 < pW s' i) 1 0
      by_cases q : 0 < pW s' i
      · rw [if_pos q, vif_t q]
      · rw [if_neg q, vif_f q]
    refine sx_copy rfl rfl (Or.inr (by decide)) hO.TO T3 (fun m4 f4 T4 => ?_)
    have n4 : ∀ (k : Nat) (i : Int), k < 9 ∨ 13 < k → vSt 9 k i = false := fun k i a => vSt_n a
    have A4 : dAx (pD s') m4 3 := A3.fr f4 (n4 _ _ (by omega)) (fun _ => n4 _ _ (by omega)) (fun _ => n4 _ _ (by omega))
    have t4 : m4 3 3 = vs (vtl (pD s')) 26 := by rw [f4 _ _ (n4 _ _ (by omega))]; exact t3
    have o4 : ∀ (k : Nat) (i : Int), (k = 0 ∧ i ≠ 14 ∧ i ≠ 15) ∨ k = 21 ∨ k = 69 ∨ k = 74 ∨ 900 ≤ k → m4 k i = m k i := fun k i a => by
      rw [f4 _ _ (n4 _ _ (by omega)), f3 _ _ (n3 _ _ (by omega)), f _ _ (n2 _ _ (by omega) (by omega) (by omega) (by omega) (by omega))]
    have e1 : m4 1 1 = 0 := by rw [f4 _ _ (n4 _ _ (by omega)), f3 _ _ (n3 _ _ (by omega))]; exact g1
    have e14 : m4 0 14 = -2 := by rw [f4 _ _ (n4 _ _ (by omega)), f3 _ _ (n3 _ _ (by omega))]; exact g14
    have fa : vfr vSxx m m4 := ((xx _ f).tr (f3.sub (fun k i hk => vSxx_t (by
      rcases Nat.lt_or_ge k 96 with a | a
      · exact a
      · exact absurd (hk.symm.trans (n3 k i (by omega))) (by decide))))).tr (f4.sub (fun k i hk => vSxx_t (by
      rcases Nat.lt_or_ge k 96 with a | a
      · exact a
      · rw [n4 k i (by omega)] at hk; cases hk)))
    refine ru2_forget_0 (ru10_load_73 ⟨fun x => absurd x (by decide), fun _ => ⟨by decide, ru10_load_73 ⟨fun x => absurd x (by decide), fun _ => ⟨by decide, ru10_load_73 ⟨fun _ => ?_, fun x => absurd (by decide) x⟩⟩⟩⟩⟩)
    have r21 := r3.2.1
    have r22 := r3.2.2.1
    have hI := hX.2.2.2.2
    have ff : vfr vAfl m4 (vm_st (vm_st (vm_st (vm_st m4 21 2 0) 64 0 0) 64 (0 + 1) 0) 0 15 0) := (((vfr.rf.st rfl).st rfl).st rfl).st rfl
    have nf : ∀ (k : Nat) (i : Int), k ≠ 0 ∨ i ≠ 15 → k ≠ 21 ∨ i ≠ 2 → k ≠ 64 → vAfl k i = false := fun k i a b c => Bool.eq_false_iff.mpr (fun q => by
      unfold vAfl at q
      simp only [Bool.or_eq_true, Bool.and_eq_true, decide_eq_true_eq] at q
      rcases q with (q | q) | q
      · rcases b with b | b
        · exact b (vm_beq q.1)
        · exact b q.2
      · exact c (vm_beq q)
      · rcases a with b | b
        · exact b (vm_beq q.1)
        · exact b q.2)
    have q2 : vm_st (vm_st (vm_st (vm_st m4 21 2 0) 64 0 0) 64 (0 + 1) 0) 0 15 0 21 2 = 0 := by rw [vst_k (by decide), vst_k (by decide), vst_k (by decide), vst_s]
    have q15 : vm_st (vm_st (vm_st (vm_st m4 21 2 0) 64 0 0) 64 (0 + 1) 0) 0 15 0 0 15 = 0 := vst_s _ _ _ _
    have q64 : ∀ s : Nat, s < 2 → vm_st (vm_st (vm_st (vm_st m4 21 2 0) 64 0 0) 64 (0 + 1) 0) 0 15 0 64 s = 0 := fun s hs => by
      rw [vst_k (by decide), vst_if, vst_if]
      split
      · rfl
      · rw [if_pos (by omega)]
    have fa2 : vfr vSxx m (vm_st (vm_st (vm_st (vm_st m4 21 2 0) 64 0 0) 64 (0 + 1) 0) 0 15 0) := (((fa.st (vSxx_t (by decide))).st (vSxx_t (by decide))).st (vSxx_t (by decide))).st (vSxx_t (by decide))
    generalize vm_st (vm_st (vm_st (vm_st m4 21 2 0) 64 0 0) 64 (0 + 1) 0) 0 15 0 = m5 at *
    have t5 : m5 3 3 = vs (vtl (pD s')) 26 := by rw [ff _ _ (nf _ _ (by omega) (by omega) (by omega))]; exact t4
    have A5 : dAx (pD s') m5 3 := A4.fr ff (nf _ _ (by omega) (by omega) (by omega)) (fun _ => nf _ _ (by omega) (by omega) (by omega)) (fun _ => nf _ _ (by omega) (by omega) (by omega))
    have T5 : TX (pD s') (teN (pD s') (pN6 s')) m5 9 := T4.fr ff (fun k i a b => nf k i (by omega) (by omega) (by omega))
    rw [t5]
    refine h1 s' m5 fa2 (XC.new A5 t5 T5 q15 ?_ ?_) ⟨⟨?_, fun i a b => by have : i < 0 := b; omega⟩, ?_, ⟨q2, ?_, ?_, fun j hj => by have : j < 0 := hj; omega⟩, fun s hs => ⟨q64 s hs, fun q => absurd (show (0 : Int) = 1 from q) (by decide)⟩, ?_⟩ e
    · rw [ff _ _ (nf _ _ (by omega) (by omega) (by omega)), o4 _ _ (by omega)]; exact hI.2.1
    · rw [ff _ _ (nf _ _ (by omega) (by omega) (by omega)), o4 _ _ (by omega)]; exact hI.2.2
    · rw [ff _ _ (nf _ _ (by omega) (by omega) (by omega))]; exact e1
    · rw [ff _ _ (nf _ _ (by omega) (by omega) (by omega))]; exact e14
    · rw [ff _ _ (nf _ _ (by omega) (by omega) (by omega)), o4 _ _ (by omega)]; exact r21
    · rw [ff _ _ (nf _ _ (by omega) (by omega) (by omega)), o4 _ _ (by omega)]; exact r22
    · exact r5.fr fa2 (fun k i a => vSxx_n (by omega))
end LX
