/-! ===== the model loads a setup ===== -/
/-- the first v places from o on of a are those of b -/
def vCy (m : vm_M) (a b : Nat) (o v : Int) (m1 : vm_M) : Prop := (∀ k i, k ≠ a → m1 k i = m k i) ∧ ∀ i, m1 a i = if o ≤ i ∧ i < o + v then m b (i - o) else m a i
/-- the first v places of a are 0 -/
def vZr (m : vm_M) (a : Nat) (v : Int) (m1 : vm_M) : Prop := (∀ k i, k ≠ a → m1 k i = m k i) ∧ ∀ i, m1 a i = if 0 ≤ i ∧ i < v then 0 else m a i
section LM
variable {D : vD} {E : Int → Int} {z : vZs} {s : vPS} {m m' m1 : vm_M} {Q : Int → vm_M → Prop}
theorem vCy.nil {a b : Nat} {o : Int} : vCy m a b o 0 m := ⟨fun _ _ _ => rfl, fun i => by rw [if_neg (by omega)]⟩
theorem vZr.nil {a : Nat} : vZr m a 0 m := ⟨fun _ _ _ => rfl, fun i => by rw [if_neg (by omega)]⟩
theorem vCy.nxt {a b : Nat} {o v w : Int} (h : vCy m a b o v m1) (hb : b ≠ a) (hv : 0 ≤ v) (hw : w = o + v) : vCy m a b o (v + 1) (vm_st m1 a w (m1 b v)) := by
  subst hw
  refine ⟨fun k i hk => by rw [vst_k hk]; exact h.1 k i hk, fun i => ?_⟩
  rw [vst_if, h.1 b v hb, h.2]
  by_cases q : i = o + v
  · rw [if_pos q, if_pos (by omega), q, show o + v - o = v by omega]
  · rw [if_neg q]
    by_cases p : o ≤ i ∧ i < o + v
    · rw [if_pos p, if_pos (by omega)]
    · rw [if_neg p, if_neg (by omega)]
theorem vZr.nxt {a : Nat} {v : Int} (h : vZr m a v m1) (hv : 0 ≤ v) : vZr m a (v + 1) (vm_st m1 a v 0) := by
  refine ⟨fun k i hk => by rw [vst_k hk]; exact h.1 k i hk, fun i => ?_⟩
  rw [vst_if, h.2]
  by_cases q : i = v
  · rw [if_pos q, if_pos (by omega)]
  · rw [if_neg q]
    by_cases p : 0 ≤ i ∧ i < v
    · rw [if_pos p, if_pos (by omega)]
    · rw [if_neg p, if_neg (by omega)]
theorem sm_ld63 (h : ∀ m', vZr m 100 1075 m' → ku11_load_101 0 (vm_st (vm_st m' 96 3 (m' 96 32)) 96 4 ((vm_st m' 96 3 (m' 96 32)) 96 33)) Q) : ku11_load_63 0 m Q := by
  have go : ∀ (n : Nat) (v : Int) (m1 : vm_M), 0 ≤ v → v + n = 1075 → vZr m 100 v m1 → ku11_load_63 v m1 Q := by
    intro n
    induction n with
    | zero =>
      intro v m1 h0 hn f
      rw [show v = 1075 by omega] at f ⊢
      exact ru11_load_63 ⟨fun _ => h m1 f, fun x => absurd (by decide) x⟩
    | succ n ih =>
      intro v m1 h0 hn f
      exact ru11_load_63 ⟨fun x => by omega, fun _ => ⟨⟨by omega, by omega⟩, ih (v + 1) _ (by omega) (by omega) (f.nxt h0)⟩⟩
  exact go 1075 0 m (by decide) rfl vZr.nil
theorem sm_ld101 (h : ∀ m', vCy m 100 111 0 6 m' → ku11_load_127 0 m' Q) : ku11_load_101 0 m Q := by
  have go : ∀ (n : Nat) (v : Int) (m1 : vm_M), 0 ≤ v → v + n = 6 → vCy m 100 111 0 v m1 → ku11_load_101 v m1 Q := by
    intro n
    induction n with
    | zero =>
      intro v m1 h0 hn f
      rw [show v = 6 by omega] at f ⊢
      exact ru11_load_101 ⟨fun _ => h m1 f, fun x => absurd (by decide) x⟩
    | succ n ih =>
      intro v m1 h0 hn f
      exact ru11_load_101 ⟨fun x => by omega, fun _ => ⟨⟨by omega, by omega, by omega⟩, ih (v + 1) _ (by omega) (by omega) (f.nxt (by decide) h0 (by omega))⟩⟩
  exact go 6 0 m (by decide) rfl vCy.nil
theorem sm_ld127 (h : ∀ m', vCy m 98 112 0 26 m' → ku11_load_153 0 m' Q) : ku11_load_127 0 m Q := by
  have go : ∀ (n : Nat) (v : Int) (m1 : vm_M), 0 ≤ v → v + n = 26 → vCy m 98 112 0 v m1 → ku11_load_127 v m1 Q := by
    intro n
    induction n with
    | zero =>
      intro v m1 h0 hn f
      rw [show v = 26 by omega] at f ⊢
      exact ru11_load_127 ⟨fun _ => h m1 f, fun x => absurd (by decide) x⟩
    | succ n ih =>
      intro v m1 h0 hn f
      exact ru11_load_127 ⟨fun x => by omega, fun _ => ⟨⟨by omega, by omega, by omega⟩, ih (v + 1) _ (by omega) (by omega) (f.nxt (by decide) h0 (by omega))⟩⟩
  exact go 26 0 m (by decide) rfl vCy.nil
theorem sm_ld153 (h : ∀ m', vCy m 99 113 0 312 m' → ku11_load_180 0 m' Q) : ku11_load_153 0 m Q := by
  have go : ∀ (n : Nat) (v : Int) (m1 : vm_M), 0 ≤ v → v + n = 312 → vCy m 99 113 0 v m1 → ku11_load_153 v m1 Q := by
    intro n
    induction n with
    | zero =>
      intro v m1 h0 hn f
      rw [show v = 312 by omega] at f ⊢
      exact ru11_load_153 ⟨fun _ => h m1 f, fun x => absurd (by decide) x⟩
    | succ n ih =>
      intro v m1 h0 hn f
      exact ru11_load_153 ⟨fun x => by omega, fun _ => ⟨⟨by omega, by omega, by omega⟩, ih (v + 1) _ (by omega) (by omega) (f.nxt (by decide) h0 (by omega))⟩⟩
  exact go 312 0 m (by decide) rfl vCy.nil
theorem sm_ld180 (h : ∀ m', vCy m 100 114 9 676 m' → vm_C 233 [vm_r 96] (vm_st (vm_st (vm_st m' 103 0 0) 103 1 0) 96 11 0) (vm_qi Q)) : ku11_load_180 0 m Q := by
  have go : ∀ (n : Nat) (v : Int) (m1 : vm_M), 0 ≤ v → v + n = 676 → vCy m 100 114 9 v m1 → ku11_load_180 v m1 Q := by
    intro n
    induction n with
    | zero =>
      intro v m1 h0 hn f
      rw [show v = 676 by omega] at f ⊢
      exact ru11_load_180 ⟨fun _ => h m1 f, fun x => absurd (by decide) x⟩
    | succ n ih =>
      intro v m1 h0 hn f
      exact ru11_load_180 ⟨fun x => by omega, fun _ => ⟨⟨by omega, by omega, by omega, by omega⟩, ih (v + 1) _ (by omega) (by omega) (f.nxt (by decide) h0 rfl)⟩⟩
  exact go 676 0 m (by decide) rfl vCy.nil
theorem sm_ld23 (h : ∀ m', vZr m 114 676 m' → vm_C 212 [vm_r 96] m' (vm_qv (fun m1 => ((¬ ((vm_st m1 96 1 0) 96 31) = 0 → ku11_load_63 0 (vm_st m1 96 1 0) Q) ∧ (¬ ¬ ((vm_st m1 96 1 0) 96 31) = 0 → Q (-1) (vm_st m1 96 1 0)))))) : ku11_load_23 0 m Q := by
  have go : ∀ (n : Nat) (v : Int) (m1 : vm_M), 0 ≤ v → v + n = 676 → vZr m 114 v m1 → ku11_load_23 v m1 Q := by
    intro n
    induction n with
    | zero =>
      intro v m1 h0 hn f
      rw [show v = 676 by omega] at f ⊢
      exact ru11_load_23 ⟨fun _ => h m1 f, fun x => absurd (by decide) x⟩
    | succ n ih =>
      intro v m1 h0 hn f
      exact ru11_load_23 ⟨fun x => by omega, fun _ => ⟨⟨by omega, by omega⟩, ih (v + 1) _ (by omega) (by omega) (f.nxt h0)⟩⟩
  exact go 676 0 m (by decide) rfl vZr.nil
theorem sm_load {C : Int} (hZ : ZO D z) (hM : MC D E m) (rM : MR D z m) (h0 : ∀ s' m', vfr vSmm m m' → MC D E m' → MR D (zY z (tF (zb z) (zn z) (pp s'))) m' → pLoad z (pz0 C) = pErr z s' → Q (-1) m') (h1 : ∀ s' m', vfr vSmm m m' → MC (pD s') (pN6 s') m' → MR (pD s') (zL z) m' → pLoad z (pz0 C) = (true, -2, s') → Q (vs (vtl (pD s')) 26) m') : vm_C 216 [vm_r 96] m (vm_qi Q) := by
  refine ru11_load_0 (sm_ld23 (fun m1 f1 => ?_))
  have fM : vfr vMp m m1 := fun k i hk => by
    have n96 : k = 96 → i ≠ 2 ∧ ¬ (26 ≤ i ∧ i ≤ 33) := fun e => by
      refine ⟨fun q => ?_, fun q => ?_⟩
      · rw [e, q] at hk; exact absurd hk (by decide)
      · rw [e, vMg_p (vMg_96 q)] at hk; cases hk
    have n114 : k ≠ 114 := fun e => by rw [e, vMp_o (by decide)] at hk; cases hk
    rw [f1.1 k i n114]
    by_cases e : k = 96
    · have := n96 e
      rw [vst_i (by omega), vst_i (by omega), vst_i (by omega), vst_i (by omega)]
    · rw [vst_k e, vst_k e, vst_k e, vst_k e]
  have g2 : m1 96 2 = -2 := by rw [f1.1 96 2 (by decide), vst_i (by decide), vst_i (by decide), vst_i (by decide), vst_s]
  have g31 : m1 96 31 = 1 := by rw [f1.1 96 31 (by decide), vst_i (by decide), vst_i (by decide), vst_s]
  have g26 : m1 96 26 = 0 := by rw [f1.1 96 26 (by decide), vst_i (by decide), vst_s]
  have g33 : m1 96 33 = 0 := by rw [f1.1 96 33 (by decide), vst_s]
  have g114 : ∀ k, 0 ≤ k → k < 676 → m1 114 k = 0 := fun k x y => by rw [f1.2, if_pos ⟨x, y⟩]
  clear f1
  have T1 : MT z m1 := rM.1.fr fM (fun i => vMp_n (by omega) (by omega)) (vMp_n (by omega) (by omega))
  have nq : ∀ (k : Nat) (i : Int), ¬ (111 ≤ k ∧ k ≤ 114) → (k = 96 → i ≠ 1 ∧ i ≠ 2 ∧ ¬ (26 ≤ i ∧ i ≤ 33)) → (fun (k : Nat) (i : Int) => vMp k i || (Nat.beq k 96 && decide (i = 1))) k i = false := fun k i a b => Bool.eq_false_iff.mpr (fun q => by
    simp only [Bool.or_eq_true, Bool.and_eq_true, decide_eq_true_eq] at q
    rcases q with q | q
    · rw [vMp_n a (fun e => (b e).2)] at q; cases q
    · exact (b (vm_beq q.1)).1 q.2)
  have fq : ∀ m2, vfr vMp m1 m2 → vfr (fun (k : Nat) (i : Int) => vMp k i || (Nat.beq k 96 && decide (i = 1))) m (vm_st m2 96 1 0) := fun m2 f2 => ((fM.tr f2).sub (fun k i hk => by show (vMp k i || (Nat.beq k 96 && decide (i = 1))) = true; rw [hk]; rfl) : vfr (fun (k : Nat) (i : Int) => vMp k i || (Nat.beq k 96 && decide (i = 1))) m m2).st (by decide)
  have mm : ∀ m2, vfr (fun (k : Nat) (i : Int) => vMp k i || (Nat.beq k 96 && decide (i = 1))) m m2 → vfr vSmm m m2 := fun m2 f => f.sub (fun k i hk => vSmm_t (by
    by_cases a : 96 ≤ k ∧ k < 900
    · exact a
    · exact absurd (hk.symm.trans (nq k i (by omega) (by omega))) (by decide)))
  refine sm_readAll (C := C) hZ T1 g31 g26 g33 g114 (fun s' m2 e d => ?_) (fun s' U' m2 p l e => ?_)
  · have e31 : vm_st m2 96 1 0 96 31 = 0 := by rw [vst_i (by decide)]; exact d.2.1
    refine ⟨fun x => absurd e31 x, fun _ => ?_⟩
    have f := fq m2 d.1
    have e2 : vm_st m2 96 1 0 96 2 = tF (zb z) (zn z) (pp s') := by rw [vst_i (by decide)]; exact d.2.2
    have e1 : vm_st m2 96 1 0 96 1 = 0 := vst_s _ _ _ _
    generalize vm_st m2 96 1 0 = m3 at *
    exact h0 s' m3 (mm _ f) (hM.fr f (fun k i a => nq k i (by omega) (by omega)) (nq _ _ (by omega) (by omega)) (nq _ _ (by omega) (by omega))) ⟨⟨e1, fun i a b => by have : i < 0 := b; omega⟩, e2, rM.2.2.1.fr f (fun i => nq _ _ (by omega) (by omega)) (nq _ _ (by omega) (by omega)) hZ.2.2.2.1, rM.2.2.2.fr f (fun i => nq _ _ (by omega) (by omega)) (fun i => nq _ _ (by omega) (by omega)) (fun s hlt k => (hZ.2.2.2.2 s hlt).2 k)⟩ e
  · have e31 : vm_st m2 96 1 0 96 31 = 1 := by rw [vst_i (by decide)]; exact p.2.2.1
    refine ⟨fun _ => ?_, fun x => absurd (fun w => absurd (e31.symm.trans w) (by decide)) x⟩
    have f := fq m2 (vMg_f p.1)
    have e2 : vm_st m2 96 1 0 96 2 = -2 := by rw [vst_i (by decide), p.1 96 2 rfl]; exact g2
    have e1 : vm_st m2 96 1 0 96 1 = 0 := vst_s _ _ _ _
    have A : MA U' 1 6 (pW s') (pK s') s' (vm_st m2 96 1 0) := p.2.2.2.fr (S := fun k i => Nat.beq k 96 && decide (i = 1)) (vfr.rf.st rfl) (fun k i a => Bool.eq_false_iff.mpr (fun q => by
      simp only [Bool.and_eq_true] at q
      have := vm_beq q.1
      omega)) rfl rfl
    have fm := mm _ f
    clear p f e31
    generalize vm_st m2 96 1 0 = m3 at *
    obtain ⟨a1, a2, a3, a4, a5, a6⟩ := A
    refine sm_ld63 (fun m4 f4 => ?_)
    have x3 : (vm_st (vm_st m4 96 3 (m4 96 32)) 96 4 ((vm_st m4 96 3 (m4 96 32)) 96 33)) 96 3 = pC s' := by
      rw [vst_i (by decide), vst_s, f4.1 _ _ (by decide)]; exact a1 (by decide)
    have x4 : (vm_st (vm_st m4 96 3 (m4 96 32)) 96 4 ((vm_st m4 96 3 (m4 96 32)) 96 33)) 96 4 = m3 96 33 := by
      rw [vst_s, vst_i (by decide), f4.1 _ _ (by decide)]
    have xo : ∀ (k : Nat) (i : Int), k ≠ 100 → (k = 96 → i ≠ 3 ∧ i ≠ 4) → (vm_st (vm_st m4 96 3 (m4 96 32)) 96 4 ((vm_st m4 96 3 (m4 96 32)) 96 33)) k i = m3 k i := fun k i a b => by
      rw [← f4.1 k i a]
      by_cases q : k = 96
      · have := b q
        rw [vst_i (by omega), vst_i (by omega)]
      · rw [vst_k q, vst_k q]
    have xz : ∀ i, 0 ≤ i → i < 1075 → (vm_st (vm_st m4 96 3 (m4 96 32)) 96 4 ((vm_st m4 96 3 (m4 96 32)) 96 33)) 100 i = 0 := fun i a b => by
      rw [vst_k (by decide), vst_k (by decide), f4.2, if_pos ⟨a, b⟩]
    clear f4
    generalize vm_st (vm_st m4 96 3 (m4 96 32)) 96 4 ((vm_st m4 96 3 (m4 96 32)) 96 33) = m5 at *
    refine sm_ld101 (fun m6 f6 => sm_ld127 (fun m7 f7 => sm_ld153 (fun m8 f8 => sm_ld180 (fun m9 f9 => ?_))))
    have o : ∀ (k : Nat) (i : Int), k ≠ 98 → k ≠ 99 → k ≠ 100 → m9 k i = m5 k i := fun k i a b c => by
      rw [f9.1 k i c, f8.1 k i b, f7.1 k i a, f6.1 k i c]
    have w98 : ∀ a, 0 ≤ a → a < 26 → m9 98 a = m3 112 a := fun a x y => by
      rw [f9.1 98 a (by decide), f8.1 98 a (by decide), f7.2, if_pos ⟨x, by omega⟩, f6.1 112 _ (by decide), xo 112 _ (by decide) (fun q => absurd q (by decide)), Int.sub_zero]
    have w99 : ∀ i, 0 ≤ i → i < 312 → m9 99 i = m3 113 i := fun i x y => by
      rw [f9.1 99 i (by decide), f8.2, if_pos ⟨x, by omega⟩, f7.1 113 _ (by decide), f6.1 113 _ (by decide), xo 113 _ (by decide) (fun q => absurd q (by decide)), Int.sub_zero]
    have wK : ∀ k, 0 ≤ k → k < 676 → m9 100 (9 + k) = m3 114 k := fun k x y => by
      rw [f9.2, if_pos ⟨by omega, by omega⟩, f8.1 114 _ (by decide), f7.1 114 _ (by decide), f6.1 114 _ (by decide), xo 114 _ (by decide) (fun q => absurd q (by decide)), show 9 + k - 9 = k by omega]
    have wl : ∀ k, 0 ≤ k → k < 9 → m9 100 k = if k < 6 then m3 111 k else 0 := fun k x y => by
      rw [f9.2, if_neg (by omega), f8.1 100 _ (by decide), f7.1 100 _ (by decide), f6.2]
      by_cases q : k < 6
      · rw [if_pos ⟨x, by omega⟩, if_pos q, xo 111 _ (by decide) (fun q => absurd q (by decide)), Int.sub_zero]
      · rw [if_neg (by omega), if_neg q]; exact xz k x (by omega)
    have fe : vfr (fun k i => Nat.beq k 103 || (Nat.beq k 96 && decide (i = 11))) m9 (vm_st (vm_st (vm_st m9 103 0 0) 103 1 0) 96 11 0) := ((vfr.rf.st rfl).st rfl).st rfl
    have ne : ∀ (k : Nat) (i : Int), k ≠ 103 → k ≠ 96 ∨ i ≠ 11 → (fun (k : Nat) (i : Int) => Nat.beq k 103 || (Nat.beq k 96 && decide (i = 11))) k i = false := fun k i a b => Bool.eq_false_iff.mpr (fun q => by
      simp only [Bool.or_eq_true, Bool.and_eq_true, decide_eq_true_eq] at q
      rcases q with q | q
      · exact a (vm_beq q)
      · rcases b with b | b
        · exact b (vm_beq q.1)
        · exact b q.2)
    have q11 : (vm_st (vm_st (vm_st m9 103 0 0) 103 1 0) 96 11 0) 96 11 = 0 := vst_s _ _ _ _
    have q103 : ∀ s : Nat, s < 2 → (vm_st (vm_st (vm_st m9 103 0 0) 103 1 0) 96 11 0) 103 s = 0 := fun s hs => by
      rw [vst_k (by decide), vst_if, vst_if]
      split
      · rfl
      · rw [if_pos (by omega)]
    generalize vm_st (vm_st (vm_st m9 103 0 0) 103 1 0) 96 11 0 = m10 at *
    have hAm : dAm (pD s') m10 := by
      refine ⟨?_, fun a x y => ?_, fun a ha => ?_, fun a ha i x y => ?_⟩
      · rw [fe _ _ (ne _ _ (by omega) (by omega)), o _ _ (by decide) (by decide) (by decide), x3]; rfl
      · rw [fe _ _ (ne _ _ (by omega) (by omega)), o _ _ (by decide) (by decide) (by decide), x4]; exact a2 a x y
      · rw [fe _ _ (ne _ _ (by omega) (by omega)), w98 a ha.1 ha.2.1]; exact a3 a ha.1 ha.2.1 ha.2.2
      · have k1 := ha.1
        have k2 := ha.2.1
        rw [fe _ _ (ne _ _ (by omega) (by omega)), w99 _ (by omega) (by omega)]
        exact a4 _ (l a k1 k2 ha.2.2 i x y)
    have hN : ∀ k, 0 ≤ k → k < 8 → m10 100 k = pN6 s' k := fun k x y => by
      rw [fe _ _ (ne _ _ (by omega) (by omega)), wl k x (by omega)]
      show _ = if k < 6 then pE s' k else 0
      by_cases q : k < 6
      · rw [if_pos q, if_pos q]; exact a5 k x q
      · rw [if_neg q, if_neg q]
    have hSm : dSm (pD s') m10 := by
      refine ⟨?_, fun k x y => ?_, fun w a b => by have : w < 0 := b; omega, fun w a b => by have : w < 0 := b; omega⟩
      · rw [fe _ _ (ne _ _ (by omega) (by omega)), wl 8 (by decide) (by decide)]; rfl
      · rw [fe _ _ (ne _ _ (by omega) (by omega)), wK k x y]; exact a6 k x y
    have ff : vfr vSmm m3 m10 := fun k i hk => by
      have c : ¬ (96 ≤ k ∧ k < 900) := fun q => by rw [vSmm_t q] at hk; cases hk
      rw [fe _ _ (ne _ _ (by omega) (by omega)), o _ _ (by omega) (by omega) (by omega), xo _ _ (by omega) (by omega)]
    refine sm_manyTold hAm (h1 s' m10 (fm.tr ff) ⟨hAm, hSm, ⟨hN 0 (by decide) (by decide), hN 1 (by decide) (by decide), hN 2 (by decide) (by decide), hN 3 (by decide) (by decide), hN 4 (by decide) (by decide), hN 5 (by decide) (by decide), hN 6 (by decide) (by decide), hN 7 (by decide) (by decide)⟩⟩ ⟨⟨?_, fun i a b => by have : i < 0 := b; omega⟩, ?_, ⟨q11, fun j hj => by have : j < 0 := hj; omega⟩, fun s hs => ⟨q103 s hs, fun q => absurd (show (0 : Int) = 1 from q) (by decide)⟩⟩ e)
    · rw [fe _ _ (ne _ _ (by omega) (by omega)), o _ _ (by decide) (by decide) (by decide), xo _ _ (by decide) (fun _ => by decide)]; exact e1
    · rw [fe _ _ (ne _ _ (by omega) (by omega)), o _ _ (by decide) (by decide) (by decide), xo _ _ (by decide) (fun _ => by decide)]; exact e2
theorem load_ok : vLoad := fun m hI => by
  obtain ⟨D, E, z, c, hZ, rx, rm⟩ := hI
  refine sx_load hZ c.2.1 rx (fun s1 m1 f1 x1 r1 e1 => ⟨vP.x f1, sm_load (C := m 6 2) hZ (c.2.2.fxx f1) (rm.fxx f1 hZ) (fun s2 m2 f2 y2 q2 e2 => ?_) (fun s2 m2 f2 y2 q2 e2 => ?_)⟩) (fun s1 m1 f1 x1 r1 e1 => ⟨vP.x f1, sm_load (C := m 6 2) hZ (c.2.2.fxx f1) (rm.fxx f1 hZ) (fun s2 m2 f2 y2 q2 e2 => ?_) (fun s2 m2 f2 y2 q2 e2 => ?_)⟩)
  · have e : tF (zb z) (zn z) (pp s2) = tF (zb z) (zn z) (pp s1) := congrArg (fun r : vRS => r.2.1) (e2.symm.trans e1)
    rw [e] at q2
    exact ⟨rfl, (vP.x f1).tr (vP.mm f2), D, E, _, ⟨c.1, x1.fmm f2, y2⟩, zY_ok hZ, r1.fmm f2 (zY_ok hZ), q2⟩
  · exact Bool.noConfusion (congrArg (fun r : vRS => r.1) (e2.symm.trans e1))
  · exact Bool.noConfusion (congrArg (fun r : vRS => r.1) (e2.symm.trans e1))
  · have e : s2 = s1 := congrArg (fun r : vRS => r.2.2) (e2.symm.trans e1)
    subst e
    exact ⟨rfl, (vP.x f1).tr (vP.mm f2), _, _, _, ⟨pD_OC (pg_load e1), x1.fmm f2, y2⟩, zL_ok hZ, r1.fmm f2 (zL_ok hZ), q2⟩
end LM
