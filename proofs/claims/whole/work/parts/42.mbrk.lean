/-! ===== breaking in the model ===== -/
def vPm (B : vB) (m : vm_M) : Prop := m 100 8 = bN B ∧ m 100 0 = bI B ∧ m 100 4 = bP B ∧ m 100 5 = bZ B ∧ ∀ w, 0 ≤ w → w < bN B → m 104 w = bW B w
/-- what the model's breaking writes -/
def vSr (k : Nat) (i : Int) : Bool := (Nat.ble 105 k && Nat.ble k 107) || (Nat.beq k 96 && decide (i = 14))
theorem vSr_n {k : Nat} {i : Int} (h : k < 105 ∨ 107 < k) (h2 : ¬ (k = 96 ∧ i = 14)) : vSr k i = false := by
  refine Bool.eq_false_iff.mpr (fun q => ?_)
  unfold vSr at q
  simp only [Bool.or_eq_true, Bool.and_eq_true, decide_eq_true_eq] at q
  rcases q with a | a
  · have a1 := Nat.le_of_ble_eq_true a.1
    have a2 := Nat.le_of_ble_eq_true a.2
    omega
  · exact h2 ⟨vm_beq a.1, a.2⟩
theorem vPm.fr {B : vB} {m m' : vm_M} (h : vfr vSr m m') (hP : vPm B m) : vPm B m' := by
  obtain ⟨h1, h2, h3, h4, h5⟩ := hP
  have a : ∀ i, m' 100 i = m 100 i := fun i => h 100 i (vSr_n (by omega) (by omega))
  refine ⟨by rw [a, h1], by rw [a, h2], by rw [a, h3], by rw [a, h4], fun w a1 a2 => ?_⟩
  rw [h 104 w (vSr_n (by omega) (by omega))]; exact h5 w a1 a2
section MB
variable {B : vB} {m : vm_M}
theorem sm_rw {Q : Int → vm_M → Prop} (hB : bOK B) (hP : vPm B m) {f t : Int} (hf : 0 ≤ f) (hft : f < t) (ht : t ≤ bN B) (h : Q (rwd (bR B) f t) m) : vm_C 178 [vm_r 96, vm_i f, vm_i t] m (vm_qi Q) := by
  have hN := hB.2.1
  have a3 := vmul_bd (a := bP B) (b := t - f - 1) (A := 99) (B := 29) ⟨hB.2.2.2.1, hB.2.2.2.2.1⟩ ⟨by omega, by omega⟩
  have a4 := rwd_bd (bR_ok hB) hf hft ht
  have go : ∀ (n : Nat) (w : Int), f ≤ w → w + n = t → ku11_rowWidth_16 f t (bP B * (t - f - 1) + (vpi (bW B) w - vpi (bW B) f)) w m Q := by
    intro n
    induction n with
    | zero =>
      intro w hw hn
      have hw : w = t := by omega
      subst hw
      have e : (bP B * (w - f - 1) + (vpi (bW B) w - vpi (bW B) f)) * bZ B = rwd (bR B) f w := by
        rw [← bR_w, Int.add_comm (bP B * _), Int.mul_comm (bP B)]
      refine ru11_rowWidth_16 ⟨fun _ => ?_, fun c => by omega⟩
      rw [hP.2.2.2.1, e]
      exact ⟨by omega, h⟩
    | succ n ih =>
      intro w hw hn
      have b1 := vpi_bd hB (z := w) (by omega) (by omega)
      have b2 := vpi_bd hB (z := f) (by omega) (by omega)
      have b3 := hB.2.2.1 w (by omega) (by omega)
      refine ru11_rowWidth_16 ⟨fun c => by omega, fun _ => ?_⟩
      rw [hP.2.2.2.2 w (by omega) (by omega)]
      refine ⟨by omega, ?_⟩
      have := ih (w + 1) (by omega) (by omega)
      rw [vpi_s (by omega)] at this
      rw [show bP B * (t - f - 1) + (vpi (bW B) w - vpi (bW B) f) + bW B w = bP B * (t - f - 1) + (vpi (bW B) w + bW B w - vpi (bW B) f) by omega]
      exact this
  refine ru11_rowWidth_0 ?_
  rw [hP.2.2.1]
  refine ⟨by omega, ?_⟩
  have := go (t - f).toNat f (Int.le_refl _) (by omega)
  rw [Int.sub_self, Int.add_zero] at this
  exact this
theorem sm_isRow {Q : Int → vm_M → Prop} (hB : bOK B) (hP : vPm B m) {f t : Int} (hf : 0 ≤ f) (hft : f < t) (ht : t ≤ bN B) (h1 : kval (bR B) f t → Q 1 m) (h0 : ¬ kval (bR B) f t → Q 0 m) : vm_C 179 [vm_r 96, vm_i f, vm_i t] m (vm_qi Q) := by
  have hN := hB.2.1
  have e : rI (bR B) = bI B := rfl
  refine ru11_isRow_0 ⟨by omega, fun c => h1 (Or.inl (by omega)), fun c => sm_rw hB hP hf hft ht ⟨fun c2 => ?_, fun c2 => ?_⟩⟩
  · rw [hP.2.1] at c2
    exact h0 (fun k => by rcases k with k | k <;> omega)
  · rw [hP.2.1] at c2
    exact h1 (Or.inr (by omega))
theorem sm_sq {Q : Int → vm_M → Prop} (hB : bOK B) (hP : vPm B m) {f t : Int} (hf : 0 ≤ f) (hft : f < t) (ht : t ≤ bN B) (h : Q (vsq (bI B) (rwd (bR B) f t)) m) : vm_C 180 [vm_r 96, vm_i f, vm_i t] m (vm_ql Q) := by
  have a4 := rwd_bd (bR_ok hB) hf hft ht
  have hI := hB.2.2.2.2.2.2.2
  have a5 := vsq_bd (I := bI B) (w := rwd (bR B) f t) hI.2 a4.1
  refine ru11_squareOf_0 (sm_rw hB hP hf hft ht ?_)
  rw [hP.2.1]
  unfold vsq at h a5
  refine ⟨by omega, fun c => ?_, fun c => ?_⟩
  · rw [vcmp_ge] at c
    by_cases hq : rwd (bR B) f t < bI B
    · rw [if_pos hq] at h a5
      exact ⟨by omega, h⟩
    · rw [if_neg hq] at h
      rw [show bI B - rwd (bR B) f t = 0 by omega]
      exact ⟨by decide, h⟩
  · rw [vcmp_ge] at c
    rw [if_neg (by omega)] at h; exact h
/-- rows as the model has them -/
def vLm (R : vR) (how : Int) (m : vm_M) : Prop := m 96 14 = (bQ R how : Int) ∧ ∀ r : Nat, r ≤ bQ R how → 0 < bQ R how → m 105 r = bF R how r
theorem sm_greedy {Q : Int → vm_M → Prop} (hB : bOK B) (hP : vPm B m) (h : ∀ m', vfr vSr m m' → (∀ j : Nat, j < gcnt (bR B) → j < 12 → m' 105 j = gF (bR B) j) → Q (gcnt (bR B)) m') : vm_C 181 [vm_r 96] m (vm_qi Q) := by
  have hR := bR_ok hB
  have hN30 := hB.2.1
  have hNN : rN (bR B) = bN B := rfl
  have hII : rI (bR B) = bI B := rfl
  have g := gcnt_ok hR
  have g30 := gcnt_30 hR
  have go : ∀ (n r : Nat) (m1 : vm_M) (w3 : Option vm_V), r + n = gcnt (bR B) → vfr vSr m m1 → (∀ j : Nat, j < r → j < 12 → m1 105 j = gF (bR B) j) → ku11_breaksGreedily_4 r (gF (bR B) r) w3 m1 Q := by
    intro n
    induction n with
    | zero =>
      intro r m1 w3 hr hf hv
      have hr : r = gcnt (bR B) := by omega
      have hP1 := hP.fr hf
      refine ru11_breaksGreedily_4 ⟨fun _ => ?_, fun c => by rw [hP1.1, hr, g.1] at c; omega⟩
      rw [hr]
      exact h m1 hf (fun j a b => hv j (by omega) b)
    | succ n ih =>
      intro r m1 w3 hr hf hv
      have hP1 := hP.fr hf
      have hb := gF_bd hR r
      have hlt := g.2 r (by omega)
      have hgs := gF_s r hlt
      have hgo := gend_ok hR hb.1 hlt
      have hin : ∀ (k : Nat) (e : Int) (m2 : vm_M), gF (bR B) r + 1 ≤ e → e ≤ bN B → bN B ≤ e + k → gE (bR B) (gF (bR B) r) k e = gend (bR B) (gF (bR B) r) → vfr vSr m m2 → (∀ j : Nat, j < r + 1 → j < 12 → m2 105 j = gF (bR B) j) → ku11_breaksGreedily_32 r (gF (bR B) r) e m2 Q := by
        intro k
        induction k with
        | zero =>
          intro e m2 he1 he2 he3 he4 hf2 hv2
          have hP2 := hP.fr hf2
          refine ru11_breaksGreedily_32 ⟨fun _ => ⟨by omega, ?_⟩, fun q => by rw [hP2.1] at q; omega⟩
          rw [gE_N 0 (by omega)] at he4
          have := ih (r + 1) m2 (some (vm_i e)) (by omega) hf2 hv2
          rw [hgs, ← he4] at this
          exact this
        | succ k ihk =>
          intro e m2 he1 he2 he3 he4 hf2 hv2
          have hP2 := hP.fr hf2
          have hgo7 : gE (bR B) (gF (bR B) r) (k + 1) e = e → ku11_breaksGreedily_4 ((r : Int) + 1) e (some (vm_i e)) m2 Q := by
            intro q
            rw [q] at he4
            have := ih (r + 1) m2 (some (vm_i e)) (by omega) hf2 hv2
            rw [hgs, ← he4] at this
            exact this
          refine ru11_breaksGreedily_32 ⟨fun q => ⟨by omega, hgo7 (gE_N _ (by rw [hP2.1] at q; omega))⟩, fun q => ⟨by omega, ?_⟩⟩
          rw [hP2.1] at q
          refine sm_isRow hB hP2 hb.1 (by omega) (by omega) (fun c2 => ⟨fun c3 => by omega, fun _ => ⟨by omega, ?_⟩⟩) (fun c2 => ⟨fun _ => ⟨by omega, hgo7 (gE_I _ ?_)⟩, fun c3 => by omega⟩)
          · refine ihk (e + 1) m2 (by omega) (by omega) (by omega) ?_ hf2 hv2
            rw [← he4]
            show _ = (if e < rN (bR B) ∧ rwd (bR B) (gF (bR B) r) (e + 1) ≤ rI (bR B) then gE (bR B) (gF (bR B) r) k (e + 1) else e)
            rcases c2 with c2 | c2
            · omega
            · rw [if_pos ⟨by omega, by omega⟩]
          · rcases Int.lt_or_le (rI (bR B)) (rwd (bR B) (gF (bR B) r) (e + 1)) with a | a
            · exact a
            · exact absurd (Or.inr a) c2
      refine ru11_breaksGreedily_4 ⟨fun c => by rw [hP1.1] at c; omega, fun _ => ⟨fun c => ⟨by omega, hin 30 _ _ (Int.le_refl _) (by omega) (by omega) rfl hf (fun j a b => hv j (by omega) b)⟩, fun c => ⟨by omega, hin 30 _ _ (Int.le_refl _) (by omega) (by omega) rfl (hf.st (by rfl)) (fun j a b => ?_)⟩⟩⟩
      by_cases hq : j = r
      · rw [hq, vst_s]
      · rw [vst_i (by omega)]; exact hv j (by omega) b
  exact ru11_breaksGreedily_0 (go _ 0 m none (Nat.zero_add _) vfr.rf (fun j a => by omega))
/-- the model's table of costs, rows up to L -/
def vTm (R : vR) (L : Nat) (m : vm_M) : Prop := ∀ l : Nat, l < L → ∀ e, 0 ≤ e → e ≤ rN R → m 106 (31 * l + e) = kK R l e ∧ m 107 (31 * l + e) = kT R l e
def vSk (k : Nat) (_ : Int) : Bool := Nat.beq k 106 || Nat.beq k 107
theorem vSk_r {m m' : vm_M} (h : vfr vSk m m') : vfr vSr m m' := h.sub (fun k i hk => by
  unfold vSk at hk
  simp only [Bool.or_eq_true] at hk
  rcases hk with a | a
  · have := vm_beq a; subst this; rfl
  · have := vm_beq a; subst this; rfl)
/-- cells of the table that are left as they are -/
def vSkx (z : Int) (k : Nat) (i : Int) : Bool := (Nat.beq k 106 || Nat.beq k 107) && decide (i = z)
theorem vSkx_k {z : Int} {m m' : vm_M} (h : vfr (vSkx z) m m') : vfr vSk m m' := h.sub (fun k i hk => by
  unfold vSkx at hk
  simp only [Bool.and_eq_true] at hk
  exact hk.1)
theorem vSkx_n {z : Int} {k : Nat} {i : Int} (h : i ≠ z) : vSkx z k i = false := by unfold vSkx; rw [decide_eq_false h, Bool.and_false]
theorem sm_lc46 {Q : vm_M → Prop} {l : Nat} (hl : l ≤ 11) (hB : bOK B) (hP : vPm B m) {f : Int} (hf0 : 0 ≤ f) (hfN : f < bN B) (hT : ∀ e, 0 ≤ e → e ≤ bN B → m 106 (31 * l + e) = kK (bR B) l e) (h : ∀ m', vfr (vSkx (31 * ((l : Int) + 1) + f)) m m' → m' 106 (31 * ((l : Int) + 1) + f) = kK (bR B) (l + 1) f → m' 107 (31 * ((l : Int) + 1) + f) = kT (bR B) (l + 1) f → Q m') : ∀ (n : Nat) (s : Int × Int) (m1 : vm_M) (w6 : Option vm_V), f + n ≤ bN B → kL (bR B) (kK (bR B) l) f n s = kS (bR B) (kK (bR B) l) f → s.1 ≤ 1000000000000000 → vfr (vSkx (31 * ((l : Int) + 1) + f)) m m1 → m1 106 (31 * ((l : Int) + 1) + f) = s.1 → m1 107 (31 * ((l : Int) + 1) + f) = s.2 → ku11_laysCost_46 ((l : Int) + 1) f (bN B) (31 * ((l : Int) + 1) + f) (f + n) w6 m1 Q := by
  have hR := bR_ok hB
  have hN30 := hB.2.1
  have hNN : rN (bR B) = bN B := rfl
  have hII : rI (bR B) = bI B := rfl
  intro n
  induction n with
  | zero =>
    intro s m1 w6 hn hk hs hf h1 h2
    have hk : s = kS (bR B) (kK (bR B) l) f := hk
    refine ru11_laysCost_46 ⟨fun _ => h m1 hf ?_ ?_, fun c => by omega⟩
    · rw [h1, hk]; rfl
    · rw [h2, hk]; rfl
  | succ n ih =>
    intro s m1 w6 hn hk hs hf h1 h2
    have hP1 := hP.fr (vSk_r (vSkx_k hf))
    have he : f + ((n + 1 : Nat) : Int) = f + ((n : Int) + 1) := by omega
    have hk' : kL (bR B) (kK (bR B) l) f n (if kval (bR B) f (f + ((n : Int) + 1)) ∧ kcd (bR B) (kK (bR B) l) f (f + ((n : Int) + 1)) < s.1 then (kcd (bR B) (kK (bR B) l) f (f + ((n : Int) + 1)), (n : Int) + 1) else s) = kS (bR B) (kK (bR B) l) f := hk
    have hd : f + ((n : Int) + 1) + (-1) = f + n := by omega
    have hsq := vsq_bd (I := bI B) (w := rwd (bR B) f (f + ((n : Int) + 1))) hB.2.2.2.2.2.2.2.2 (rwd_bd hR hf0 (by omega) (by omega)).1
    have hKK := kK_bd hR l (f + ((n : Int) + 1)) (by omega) (by omega)
    have hcell : m1 106 (31 * (l : Int) + (f + ((n : Int) + 1))) = kK (bR B) l (f + ((n : Int) + 1)) := by
      rw [hf _ _ (vSkx_n (by omega))]; exact hT _ (by omega) (by omega)
    rw [he]
    refine ru11_laysCost_46 ⟨fun c => by omega, fun _ => ⟨fun c => by omega, fun _ => sm_isRow hB hP1 hf0 (by omega) (by omega) (fun hv => ⟨fun _ => ⟨fun c => ?_, fun c => ?_⟩, fun c => by omega⟩) (fun hv => ⟨fun c => by omega, fun _ => ⟨by omega, ?_⟩⟩)⟩⟩
    · have ek : kcd (bR B) (kK (bR B) l) f (f + ((n : Int) + 1)) = vsq (bI B) (rwd (bR B) f (f + ((n : Int) + 1))) + kK (bR B) l (f + ((n : Int) + 1)) := by
        unfold kcd; rw [if_neg (by omega)]; rfl
      refine sm_sq hB hP1 hf0 (by omega) (by omega) ?_
      rw [show 31 * ((l : Int) + 1 - 1) + (f + ((n : Int) + 1)) = 31 * (l : Int) + (f + ((n : Int) + 1)) by omega, hcell, h1, ← ek]
      refine ⟨by omega, fun c => ?_, fun c => ?_⟩
      · rw [vcmp_ge] at c
        rw [if_neg (fun q => by have := q.2; omega)] at hk'
        rw [hd]
        exact ⟨by omega, ih s m1 _ (by omega) hk' hs hf h1 h2⟩
      · rw [vcmp_ge] at c
        rw [if_pos ⟨hv, by omega⟩] at hk'
        rw [hd, show f + ((n : Int) + 1) - f = (n : Int) + 1 by omega]
        refine ⟨by omega, ih _ _ _ (by omega) hk' (by dsimp only; omega) ((hf.st (by unfold vSkx; simp)).st (by unfold vSkx; simp)) ?_ ?_⟩
        · rw [vst_k (by decide), vst_s]
        · rw [vst_s]
    · have c := Classical.not_not.mp c
      have ek : kcd (bR B) (kK (bR B) l) f (f + ((n : Int) + 1)) = 0 := by
        unfold kcd; rw [if_pos (by omega)]
      rw [ek] at hk'
      rw [h1]
      refine ⟨by omega, fun c2 => ?_, fun c2 => ?_⟩
      · rw [vcmp_ge] at c2
        rw [if_neg (fun q => by have := q.2; omega)] at hk'
        rw [hd]
        exact ⟨by omega, ih s m1 _ (by omega) hk' hs hf h1 h2⟩
      · rw [vcmp_ge] at c2
        rw [if_pos ⟨hv, by omega⟩] at hk'
        rw [hd, show f + ((n : Int) + 1) - f = (n : Int) + 1 by omega]
        refine ⟨by omega, ih _ _ _ (by omega) hk' (by dsimp only; omega) ((hf.st (by unfold vSkx; simp)).st (by unfold vSkx; simp)) ?_ ?_⟩
        · rw [vst_k (by decide), vst_s]
        · rw [vst_s]
    · rw [if_neg (fun q => hv q.1)] at hk'
      rw [hd]
      exact ih s m1 _ (by omega) hk' hs hf h1 h2
theorem sm_lc {Q : vm_M → Prop} (l : Nat) (hl : l ≤ 12) (hB : bOK B) (hP : vPm B m) {f : Int} (hf0 : 0 ≤ f) (hfN : f ≤ bN B) (hT : vTm (bR B) l m) (h : ∀ m', vfr (vSkx (31 * (l : Int) + f)) m m' → m' 106 (31 * (l : Int) + f) = kK (bR B) l f → m' 107 (31 * (l : Int) + f) = kT (bR B) l f → Q m') : vm_C 182 [vm_r 96, vm_i l, vm_i f] m (vm_qv Q) := by
  have hR := bR_ok hB
  have hN30 := hB.2.1
  have hNN : rN (bR B) = bN B := rfl
  have hfr : ∀ v : Int, vfr (vSkx (31 * (l : Int) + f)) m (vm_st (vm_st m 106 (31 * (l : Int) + f) v) 107 (31 * (l : Int) + f) 0) := fun v => (vfr.rf.st (by unfold vSkx; simp)).st (by unfold vSkx; simp)
  refine ru11_laysCost_0 ⟨by omega, fun c => ⟨by omega, ?_⟩, fun c => ⟨by omega, ?_⟩⟩
  · rw [hP.1] at c ⊢
    cases l with
    | zero =>
      refine ru11_laysCost_46 ⟨fun c2 => by omega, fun _ => ⟨fun _ => h _ (hfr _) ?_ ?_, fun c2 => by omega⟩⟩
      · rw [vst_k (by decide), vst_s]; unfold kK; rw [if_neg (by omega)]
      · rw [vst_s]; rfl
    | succ l =>
      rw [show ((l + 1 : Nat) : Int) = (l : Int) + 1 by omega] at *
      have e : kS (bR B) (kK (bR B) l) f = kL (bR B) (kK (bR B) l) f (bN B - f).toNat (1000000000000000, 0) := by
        unfold kS; rw [if_neg (by omega)]; rfl
      have := sm_lc46 (l := l) (by omega) hB hP hf0 (by omega) (fun e a b => (hT l (by omega) e a b).1) h (bN B - f).toNat (1000000000000000, 0) _ none (by omega) e.symm (by decide) (hfr _) (by rw [vst_k (by decide), vst_s]) (by rw [vst_s])
      rw [show f + ((bN B - f).toNat : Int) = bN B by omega] at this
      exact this
  · rw [hP.1] at c ⊢
    have c := Classical.not_not.mp c
    refine ru11_laysCost_46 ⟨fun _ => h _ (hfr _) ?_ ?_, fun c2 => by omega⟩
    · rw [vst_k (by decide), vst_s, c, ← hNN, kK_N]
    · rw [vst_s, c]
      cases l with
      | zero => rfl
      | succ l => show 0 = (kS (bR B) _ _).2; unfold kS; rw [if_pos hNN.symm]
theorem sm_lcs {Q : Int → vm_M → Prop} (hB : bOK B) (hP : vPm B m) (h : ∀ m', vfr vSk m m' → vTm (bR B) 13 m' → Q (kK (bR B) 12 0) m') : vm_C 183 [vm_r 96] m (vm_ql Q) := by
  have hN30 := hB.2.1
  have hN0 := hB.1
  have hNN : rN (bR B) = bN B := rfl
  have g16 : ∀ (l : Nat), l ≤ 12 → (∀ m' w, vfr vSk m m' → vTm (bR B) (l + 1) m' → ku11_laysCosts_2 ((l : Int) + 1) w m' Q) → ∀ (n : Nat) (f : Int) (m1 : vm_M), f + 1 = n → f ≤ bN B → vfr vSk m m1 → vTm (bR B) l m1 → (∀ e, f < e → e ≤ bN B → m1 106 (31 * (l : Int) + e) = kK (bR B) l e ∧ m1 107 (31 * (l : Int) + e) = kT (bR B) l e) → ku11_laysCosts_16 l f m1 Q := by
    intro l hl hk n
    induction n with
    | zero =>
      intro f m1 h1 h2 hf hT hv
      refine ru11_laysCosts_16 ⟨fun _ => ⟨by omega, hk m1 _ hf (fun j hj e a b => ?_)⟩, fun c => by omega⟩
      rcases Nat.lt_or_ge j l with q | q
      · exact hT j q e a b
      · have q : j = l := by omega
        subst q
        exact hv e (by omega) b
    | succ n ih =>
      intro f m1 h1 h2 hf hT hv
      have hP1 := hP.fr (vSk_r hf)
      refine ru11_laysCosts_16 ⟨fun c => by omega, fun _ => sm_lc l hl hB hP1 (by omega) h2 hT (fun m2 f2 v1 v2 => ⟨by omega, ih (f + (-1)) m2 (by omega) (by omega) (hf.tr (vSkx_k f2)) (fun j hj e a b => ?_) (fun e a b => ?_)⟩)⟩
      · rw [hNN] at b
        rw [f2 106 _ (vSkx_n (by omega)), f2 107 _ (vSkx_n (by omega))]; exact hT j hj e a b
      · by_cases hq : e = f
        · rw [hq]; exact ⟨v1, v2⟩
        · rw [f2 106 _ (vSkx_n (by omega)), f2 107 _ (vSkx_n (by omega))]; exact hv e (by omega) b
  have g2 : ∀ (n l : Nat) (m1 : vm_M) (w : Option vm_V), l + n = 13 → vfr vSk m m1 → vTm (bR B) l m1 → ku11_laysCosts_2 l w m1 Q := by
    intro n
    induction n with
    | zero =>
      intro l m1 w hl hf hT
      have hl : l = 13 := by omega
      subst hl
      refine ru11_laysCosts_2 ⟨fun _ => ?_, fun c => by omega⟩
      have := (hT 12 (by omega) 0 (by omega) hN0).1
      rw [show (31 * ((12 : Nat) : Int) + 0) = 372 by omega] at this
      rw [this]
      exact h m1 hf hT
    | succ n ih =>
      intro l m1 w hl hf hT
      have hP1 := hP.fr (vSk_r hf)
      refine ru11_laysCosts_2 ⟨fun c => by omega, fun _ => ?_⟩
      rw [hP1.1]
      exact g16 l (by omega) (fun m' w' hf' hT' => ih (l + 1) m' w' (by omega) hf' hT') (bN B + 1).toNat (bN B) m1 (by omega) (Int.le_refl _) hf hT (fun e a b => by omega)
  exact ru11_laysCosts_0 (g2 13 0 m none rfl vfr.rf (fun j hj => by omega))
theorem sm_cheap {Q : vm_M → Prop} (hB : bOK B) (hP : vPm B m) (h : ∀ m', vfr vSr m m' → m' 96 14 = (bQ (bR B) 1 : Int) → (∀ j : Nat, j < bQ (bR B) 1 → m' 105 j = bF (bR B) 1 j) → Q m') : vm_C 184 [vm_r 96] m (vm_qv Q) := by
  have hR := bR_ok hB
  have hN30 := hB.2.1
  have hN0 := hB.1
  have hNN : rN (bR B) = bN B := rfl
  have f0 : vfr vSr m (vm_st m 96 14 0) := vfr.rf.st rfl
  refine ru11_breaksCheaply_0 (sm_lcs hB (hP.fr f0) (fun m1 f1 hT => ⟨fun c => ?_, fun c => ?_⟩))
  · rw [vcmp_lt] at c
    have kc := kcnt_ok hR c
    have e2 : bQ (bR B) 1 = kcnt (bR B) := by unfold bQ; rw [if_neg (by decide), if_pos c]
    have e3 : ∀ j, bF (bR B) 1 j = kF (bR B) j := fun j => by unfold bF; rw [if_neg (by decide)]
    have go : ∀ (n r : Nat) (m2 : vm_M), r + n = kcnt (bR B) → vfr vSr m m2 → vTm (bR B) 13 m2 → m2 96 14 = (r : Int) → (∀ j : Nat, j < r → m2 105 j = kF (bR B) j) → ku11_breaksCheaply_19 (kF (bR B) r) m2 Q := by
      intro n
      induction n with
      | zero =>
        intro r m2 hr hf hT2 h14 hv
        have hr : r = kcnt (bR B) := by omega
        refine ru11_breaksCheaply_19 ⟨fun _ => h m2 hf (by rw [e2, h14, hr]) (fun j hj => by rw [e3]; exact hv j (by omega)), fun q => ?_⟩
        rw [(hP.fr hf).1, hr, kc.1] at q
        omega
      | succ n ih =>
        intro r m2 hr hf hT2 h14 hv
        have hlt := kc.2 r (by omega)
        obtain ⟨l, hl, k1, k2, k3, k4⟩ := kF_t hR c r hlt
        have hb := kF_ok hR c r
        have hcell := (hT2 (l + 1) (by omega) (kF (bR B) r) hb.1 hb.2.1).2
        rw [show ((l + 1 : Nat) : Int) = (l : Int) + 1 by omega] at hcell
        refine ru11_breaksCheaply_19 ⟨fun q => by rw [(hP.fr hf).1] at q; omega, fun _ => ?_⟩
        rw [vst_k (by decide), h14, show 12 - (r : Int) = (l : Int) + 1 by omega, vst_k (by decide), hcell, ← k2]
        refine ⟨by omega, ih (r + 1) _ (by omega) ((hf.st rfl).st rfl) (fun j hj e a b => ?_) (by rw [vst_s]; omega) (fun j hj => ?_)⟩
        · rw [vst_k (by decide), vst_k (by decide), vst_k (by decide), vst_k (by decide)]; exact hT2 j hj e a b
        · rw [vst_k (by decide)]
          by_cases hq : j = r
          · rw [hq, vst_s]
          · rw [vst_i (by omega)]; exact hv j (by omega)
    exact go _ 0 m1 (Nat.zero_add _) (f0.tr (vSk_r f1)) hT (by rw [f1 96 14 rfl, vst_s]; rfl) (fun j hj => by omega)
  · rw [vcmp_lt] at c
    have e2 : bQ (bR B) 1 = 0 := by unfold bQ; rw [if_neg (by decide), if_neg c]
    exact h m1 (f0.tr (vSk_r f1)) (by rw [e2, f1 96 14 rfl, vst_s]; rfl) (fun j hj => by omega)
theorem sm_break {Q : vm_M → Prop} (hB : bOK B) (hP : vPm B m) {how : Int} (hh : how = 0 ∨ how = 1) (hm : m 100 6 = how) (h : ∀ m', vfr vSr m m' → vLm (bR B) how m' → Q m') : vm_C 185 [vm_r 96] m (vm_qv Q) := by
  have hR := bR_ok hB
  have hb := bQ_ok hR how
  have hNN : rN (bR B) = bN B := rfl
  refine ru11_breaksWords_0 ?_
  rw [hm]
  refine ⟨fun c => ?_, fun c => ?_⟩
  · have hh : how = 0 := by omega
    subst hh
    have e3 : ∀ j, bF (bR B) 0 j = gF (bR B) j := fun j => by unfold bF; rw [if_pos rfl]
    refine sm_greedy hB hP (fun m1 f1 hv => ⟨fun c2 => ?_, fun c2 => ?_⟩)
    · have e2 : bQ (bR B) 0 = gcnt (bR B) := by unfold bQ; rw [if_pos rfl, if_pos (by omega)]
      rw [vst_s, vst_k (by decide), (hP.fr f1).1]
      refine ⟨by omega, h _ ((f1.st rfl).st rfl) ⟨by rw [vst_k (by decide), vst_s, e2], fun j hj hp => ?_⟩⟩
      rw [e3]
      rw [e2] at hj
      by_cases hq : j = gcnt (bR B)
      · rw [hq, vst_s, (gcnt_ok hR).1, hNN]
      · rw [vst_i (by omega), vst_k (by decide)]; exact hv j (by omega) (by omega)
    · have e2 : bQ (bR B) 0 = 0 := by unfold bQ; rw [if_pos rfl, if_neg (by omega)]
      rw [vst_s]
      exact ⟨by decide, h _ ((f1.st rfl).st rfl) ⟨by rw [vst_k (by decide), vst_s, e2]; rfl, fun j hj hp => by omega⟩⟩
  · have hh : how = 1 := by omega
    subst hh
    refine sm_cheap hB hP (fun m1 f1 h14 hv => ?_)
    rw [h14, (hP.fr f1).1]
    refine ⟨by omega, h _ (f1.st rfl) ⟨by rw [vst_k (by decide), h14], fun j hj hp => ?_⟩⟩
    by_cases hq : j = bQ (bR B) 1
    · rw [hq, vst_s, hb.2.2.1 (by omega), hNN]
    · rw [vst_i (by omega)]; exact hv j (by omega)
end MB
