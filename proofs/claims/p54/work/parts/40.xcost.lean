/-! ===== the least cost in x ===== -/
theorem kX_t {v : Int} (h : v < 1000000000000000) : kX v = v := by unfold kX; rw [if_pos h]
theorem kX_f {v : Int} (h : ¬ v < 1000000000000000) : kX v = -1 := by unfold kX; rw [if_neg h]
theorem kX_n {v : Int} (h : 0 ≤ v) : kX v = -1 ↔ ¬ v < 1000000000000000 := by
  unfold kX
  split <;> omega
def kmn (R : vR) (K : Int → Int) (f e : Int) (c : Int) : Prop :=
  c ≤ 1000000000000000 ∧ (∀ x, f < x → x < e → kval R f x → c ≤ kcd R K f x) ∧ (c = 1000000000000000 ∨ ∃ x, f < x ∧ x < e ∧ kval R f x ∧ kcd R K f x = c)
theorem kmn_s {R : vR} {K : Int → Int} {f e c : Int} (h : kmn R K f e c) (hf : f < e) (hv : kval R f e) : kmn R K f (e + 1) (if kcd R K f e < c then kcd R K f e else c) := by
  obtain ⟨h1, h2, h3⟩ := h
  by_cases hq : kcd R K f e < c
  · rw [if_pos hq]
    refine ⟨by omega, fun x x1 x2 x3 => ?_, Or.inr ⟨e, hf, by omega, hv, rfl⟩⟩
    by_cases hx : x = e
    · rw [hx]; omega
    · have := h2 x x1 (by omega) x3; omega
  · rw [if_neg hq]
    refine ⟨h1, fun x x1 x2 x3 => ?_, ?_⟩
    · by_cases hx : x = e
      · rw [hx]; omega
      · exact h2 x x1 (by omega) x3
    · rcases h3 with a | ⟨x, x1, x2, x3, x4⟩
      · exact Or.inl a
      · exact Or.inr ⟨x, x1, by omega, x3, x4⟩
theorem kmn_e {R : vR} {K : Int → Int} {f e c : Int} (h : kmn R K f e c) (he : e ≤ rN R + 1) (hx : ∀ x, e ≤ x → x ≤ rN R → ¬ kval R f x) : kmin R K f c := by
  obtain ⟨h1, h2, h3⟩ := h
  refine ⟨h1, fun x x1 x2 x3 => ?_, ?_⟩
  · rcases Int.lt_or_le x e with a | a
    · exact h2 x x1 a x3
    · exact absurd x3 (hx x a x2)
  · rcases h3 with a | ⟨x, x1, x2, x3, x4⟩
    · exact Or.inl a
    · exact Or.inr ⟨x, x1, by omega, x3, x4⟩
theorem kval_no {R : vR} (h : rOK R) {f e : Int} (hf : 0 ≤ f) (h1 : f + 1 < e) (h2 : e ≤ rN R) (h3 : rI R < rwd R f e) : ∀ x, e ≤ x → x ≤ rN R → ¬ kval R f x := by
  intro x x1 x2 x3
  rcases x3 with a | a
  · omega
  · by_cases hq : x = e
    · rw [hq] at a; omega
    · have := rwd_r h (f := f) (t := e) (u := x) hf (by omega) (by omega) x2
      omega
theorem kK_N (R : vR) (l : Nat) : kK R l (rN R) = 0 := by
  cases l with
  | zero => unfold kK; rw [if_pos rfl]
  | succ l => show (kS R _ _).1 = 0; unfold kS; rw [if_pos rfl]
section XC
variable {B : vB} {th : Nat} {m : vm_M} {l : Nat}
theorem sx_ct {Q : Int → vm_M → Prop} (h_th : vm_is th 1 = true) (hB : bOK B) (hP : vPx B th m) (hl : l ≤ 11) (hT : ∀ e, 0 ≤ e → e ≤ bN B → m (th + 4) (31 * l + e) = kX (kK (bR B) l e)) {f e : Int} (hf : 0 ≤ f) (hfe : f < e) (he : e ≤ bN B) (h : Q (kX (kcd (bR B) (kK (bR B) l) f e)) m) : vm_C 33 [vm_r th, vm_i (rwd (bR B) f e), vm_i e, vm_i ((l : Int) + 1)] m (vm_qi Q) := by
  have hR := bR_ok hB
  have hN := hB.2.1
  have a1 := rwd_bd hR hf hfe he
  have a2 := vsq_bd (I := bI B) (w := rwd (bR B) f e) hB.2.2.2.2.2.2.2.2 a1.1
  have a3 := kK_bd hR l e (by omega) he
  have e1 : rN (bR B) = bN B := rfl
  have e2 : rI (bR B) = bI B := rfl
  refine ru1_costThrough_0 h_th ⟨by omega, ?_⟩
  rw [show ((l : Int) + 1 - 1) * 31 + e = 31 * l + e by omega, hT e (by omega) he]
  unfold kcd at h
  rw [e1, e2] at h
  refine ⟨fun c => ?_, fun c => ⟨fun c2 => ?_, fun c2 => ?_⟩⟩
  · rw [kX_n a3.1] at c
    by_cases hq : e = bN B
    · exfalso
      rw [hq] at c
      have : kK (bR B) l (bN B) = 0 := kK_N (bR B) l
      omega
    · rw [if_neg hq, kX_f (by omega)] at h
      rw [kX_f c]; exact h
  · rw [kX_n a3.1] at c
    rw [hP.1] at c2
    have c := Classical.not_not.mp c
    rw [if_neg c2, kX_t (by have := a3.2.2 c; omega)] at h
    rw [kX_t c]
    refine sx_lack h_th hB hP ⟨a1.1, by omega⟩ ⟨by have := a3.2.2 c; omega, ?_⟩
    rw [Int.add_comm]; exact h
  · rw [hP.1] at c2
    have c2 := Classical.not_not.mp c2
    rw [if_pos c2] at h
    have : kK (bR B) l e = 0 := by
      rw [c2]; exact kK_N (bR B) l
    rw [this]; exact h
theorem sx_lcf7 {Q : Int → vm_M → Prop} (h_th : vm_is th 1 = true) (hB : bOK B) (hP : vPx B th m) (hl : l ≤ 11) (hT : ∀ e, 0 ≤ e → e ≤ bN B → m (th + 4) (31 * l + e) = kX (kK (bR B) l e)) {f : Int} (hf : 0 ≤ f) (hfN : f < bN B) (h : Q (kX (kK (bR B) (l + 1) f)) m) : ∀ (n : Nat) (e c : Int) (w5 w6 : Option vm_V), f < e → e + n = bN B + 1 → kmn (bR B) (kK (bR B) l) f e c → 0 ≤ c → ku1_leastCostFrom_7 th f ((l : Int) + 1) (kX c) e w5 w6 m Q := by
  have hR := bR_ok hB
  have hN := hB.2.1
  have e1 : rN (bR B) = bN B := rfl
  have e2 : rI (bR B) = bI B := rfl
  have hfin : ∀ c, kmin (bR B) (kK (bR B) l) f c → Q (kX c) m := by
    intro c hc
    have : c = kK (bR B) (l + 1) f := kmin_u hc (kS_min (by omega))
    rw [this]; exact h
  intro n
  induction n with
  | zero =>
    intro e c w5 w6 h1 h2 h3 h4
    refine ru1_leastCostFrom_7 h_th ⟨fun _ => hfin c (kmn_e h3 (by omega) (fun x x1 x2 => by omega)), fun q => by rw [hP.1] at q; omega⟩
  | succ n ih =>
    intro e c w5 w6 h1 h2 h3 h4
    have hcd := kcd_bd hR (K := kK (bR B) l) (B := 99960004 * l) (f := f) (e := e) (fun z z1 z2 => ⟨(kK_bd hR l z z1 z2).1, (kK_bd hR l z z1 z2).2.2⟩) (by omega) hf h1 (by omega)
    have hs : kval (bR B) f e → ∀ w5 w6, ku1_leastCostFrom_7 th f ((l : Int) + 1) (kX (if kcd (bR B) (kK (bR B) l) f e < c then kcd (bR B) (kK (bR B) l) f e else c)) (e + 1) w5 w6 m Q := by
      intro hv w5 w6
      refine ih (e + 1) _ w5 w6 (by omega) (by omega) (kmn_s h3 h1 hv) ?_
      split <;> omega
    have hc := h3.1
    generalize hd : kcd (bR B) (kK (bR B) l) f e = d at hs hcd
    have hgo : ∀ w, w = rwd (bR B) f e → kval (bR B) f e → vm_C 33 [vm_r th, vm_i w, vm_i e, vm_i ((l : Int) + 1)] m (vm_qi (fun z2 m2 =>
            ((z2 = (-1) →
              ((vm_32 (e + 1))) ∧
              ku1_leastCostFrom_7 th f ((l : Int) + 1) (kX c) (e + 1) (some (vm_i w)) (some (vm_i z2)) m2 Q) ∧ (¬ z2 = (-1) →
              ((kX c = (-1) →
                ((vm_32 (e + 1))) ∧
                ku1_leastCostFrom_7 th f ((l : Int) + 1) z2 (e + 1) (some (vm_i w)) (some (vm_i z2)) m2 Q) ∧ (¬ kX c = (-1) →
                ((kX c ≤ z2 →
                  ((vm_32 (e + 1))) ∧
                  ku1_leastCostFrom_7 th f ((l : Int) + 1) (kX c) (e + 1) (some (vm_i w)) (some (vm_i z2)) m2 Q) ∧ (¬ kX c ≤ z2 →
                  ((vm_32 (e + 1))) ∧
                  ku1_leastCostFrom_7 th f ((l : Int) + 1) z2 (e + 1) (some (vm_i w)) (some (vm_i z2)) m2 Q)))))))) := by
      intro w hw hv
      have hs' := hs hv (some (vm_i w)) (some (vm_i (kX d)))
      rw [hw] at hs' ⊢
      refine sx_ct h_th hB hP hl hT hf h1 (by omega) ?_
      rw [hd]
      have x1 := kX_n hcd.1
      have x2 := kX_n h4
      refine ⟨fun q => ⟨by omega, ?_⟩, fun q => ⟨fun q2 => ⟨by omega, ?_⟩, fun q2 => ⟨fun q3 => ⟨by omega, ?_⟩, fun q3 => ⟨by omega, ?_⟩⟩⟩⟩
      · have := x1.mp q
        rw [if_neg (by omega)] at hs'; exact hs'
      · have := Classical.not_not.mp (fun k => q (x1.mpr k))
        have := x2.mp q2
        rw [if_pos (by omega)] at hs'; exact hs'
      · have y1 := Classical.not_not.mp (fun k => q (x1.mpr k))
        have y2 := Classical.not_not.mp (fun k => q2 (x2.mpr k))
        rw [kX_t y1, kX_t y2] at q3
        rw [if_neg (by omega)] at hs'; exact hs'
      · have y1 := Classical.not_not.mp (fun k => q (x1.mpr k))
        have y2 := Classical.not_not.mp (fun k => q2 (x2.mpr k))
        rw [kX_t y1, kX_t y2] at q3
        rw [if_pos (by omega)] at hs'; exact hs'
    refine ru1_leastCostFrom_7 h_th ⟨fun q => by rw [hP.1] at q; omega, fun _ => sx_rw h_th hB hP hf h1 (by omega) ⟨by omega, fun q => hgo _ rfl (Or.inl (by omega)), fun q => ⟨fun q2 => hgo _ rfl (Or.inr (by rw [hP.2.1] at q2; exact q2)), fun q2 => ?_⟩⟩⟩
    rw [hP.2.1] at q2
    exact hfin c (kmn_e h3 (by omega) (kval_no hR hf (by omega) (by omega) (by omega)))
theorem sx_lcf {Q : Int → vm_M → Prop} (h_th : vm_is th 1 = true) (hB : bOK B) (hP : vPx B th m) (hl : l ≤ 11) (hT : ∀ e, 0 ≤ e → e ≤ bN B → m (th + 4) (31 * l + e) = kX (kK (bR B) l e)) {f : Int} (hf : 0 ≤ f) (hfN : f < bN B) (h : Q (kX (kK (bR B) (l + 1) f)) m) : vm_C 31 [vm_r th, vm_i f, vm_i ((l : Int) + 1)] m (vm_qi Q) := by
  have hN := hB.2.1
  refine ru1_leastCostFrom_0 h_th ⟨by omega, ?_⟩
  have := sx_lcf7 h_th hB hP hl hT hf hfN h (bN B - f).toNat (f + 1) 1000000000000000 none none (by omega) (by omega) ⟨Int.le_refl _, fun x x1 x2 => by omega, Or.inl rfl⟩ (by decide)
  exact this
/-- the table of least costs, rows up to L -/
def vTx (R : vR) (th : Nat) (L : Nat) (m : vm_M) : Prop := ∀ l : Nat, l < L → ∀ e, 0 ≤ e → e ≤ rN R → m (th + 4) (31 * l + e) = kX (kK R l e)
def vSc (th k : Nat) (_ : Int) : Bool := Nat.beq k (th + 4)
theorem vSc_b {th : Nat} {m m' : vm_M} (h : vfr (vSc th) m m') : vfr (vSb th) m m' := h.sub (fun k i hk => by
  unfold vSc at hk
  unfold vSb
  rw [hk]; simp)
theorem vSc_t {th : Nat} {i : Int} : vSc th (th + 4) i = true := by unfold vSc; exact Nat.beq_refl _
theorem sx_flc67 {Q : Int → vm_M → Prop} (h_th : vm_is th 1 = true) (hB : bOK B) (hP : vPx B th m) (hl : l ≤ 11) (h : ∀ m' w, vfr (vSc th) m m' → vTx (bR B) th (l + 2) m' → (∀ j : Nat, j ≤ 12 → m' (th + 4) (31 * j + bN B) = 0) → ku1_findLeastCost_54 th ((l : Int) + 1 + 1) w m' Q) : ∀ (n : Nat) (f : Int) (m1 : vm_M), f + 1 = n → f < bN B → vfr (vSc th) m m1 → vTx (bR B) th (l + 1) m1 → (∀ j : Nat, j ≤ 12 → m1 (th + 4) (31 * j + bN B) = 0) → (∀ e, f < e → e ≤ bN B → m1 (th + 4) (31 * ((l : Int) + 1) + e) = kX (kK (bR B) (l + 1) e)) → ku1_findLeastCost_67 th ((l : Int) + 1) f m1 Q := by
  have hN := hB.2.1
  have e1 : rN (bR B) = bN B := rfl
  intro n
  induction n with
  | zero =>
    intro f m1 h1 h2 hf hT hz hv
    refine ru1_findLeastCost_67 h_th ⟨fun _ => ⟨by omega, h m1 _ hf (fun j hj e a b => ?_) hz⟩, fun c => by omega⟩
    rcases Nat.lt_or_ge j (l + 1) with q | q
    · exact hT j q e a b
    · have q : j = l + 1 := by omega
      subst q
      exact hv e (by omega) b
  | succ n ih =>
    intro f m1 h1 h2 hf hT hz hv
    have hP1 := hP.fr (vSc_b hf)
    refine ru1_findLeastCost_67 h_th ⟨fun c => by omega, fun _ => ⟨by omega, sx_lcf h_th hB hP1 hl (fun e a b => hT l (by omega) e a b) (by omega) h2 ⟨by omega, ?_⟩⟩⟩
    rw [show ((l : Int) + 1) * 31 + f = 31 * ((l : Int) + 1) + f by omega]
    refine ih _ _ (by omega) (by omega) (hf.st vSc_t) (fun j hj e a b => ?_) (fun j hj => ?_) (fun e a b => ?_)
    · rw [vst_i (by omega)]; exact hT j hj e a b
    · rw [vst_i (by omega)]; exact hz j hj
    · by_cases hq : e = f
      · rw [hq, vst_s]
      · rw [vst_i (by omega)]; exact hv e (by omega) b
theorem sx_flc54 {Q : Int → vm_M → Prop} (h_th : vm_is th 1 = true) (hB : bOK B) (hP : vPx B th m) (h : ∀ m', vfr (vSc th) m m' → vTx (bR B) th 13 m' → Q (kX (kK (bR B) 12 0)) m') : ∀ (n l : Nat) (m1 : vm_M) (w : Option vm_V), l + n = 12 → vfr (vSc th) m m1 → vTx (bR B) th (l + 1) m1 → (∀ j : Nat, j ≤ 12 → m1 (th + 4) (31 * j + bN B) = 0) → ku1_findLeastCost_54 th ((l : Int) + 1) w m1 Q := by
  have hN := hB.2.1
  have hN0 := hB.1
  have e1 : rN (bR B) = bN B := rfl
  intro n
  induction n with
  | zero =>
    intro l m1 w hl hf hT hz
    have hl : l = 12 := by omega
    subst hl
    refine ru1_findLeastCost_54 h_th ⟨fun _ => ?_, fun c => by omega⟩
    have := hT 12 (by omega) 0 (by omega) hB.1
    rw [show (31 * ((12 : Nat) : Int) + 0) = 372 by omega] at this
    rw [this]
    exact h m1 hf hT
  | succ n ih =>
    intro l m1 w hl hf hT hz
    have hP1 := hP.fr (vSc_b hf)
    refine ru1_findLeastCost_54 h_th ⟨fun c => by omega, fun _ => ?_⟩
    rw [hP1.1]
    refine ⟨by omega, sx_flc67 h_th hB hP1 (by omega) (fun m' w' hf2 hT2 hz2 => ?_) (bN B).toNat (bN B - 1) m1 (by have := hB.1; omega) (by omega) vfr.rf hT hz (fun e a b => ?_)⟩
    · have := ih (l + 1) m' w' (by omega) (hf.tr hf2) hT2 hz2
      exact this
    · have he : e = bN B := by omega
      have := hz (l + 1) (by omega)
      rw [he, ← e1, kK_N, e1, show (31 * ((l : Int) + 1) + bN B) = 31 * ((l + 1 : Nat) : Int) + bN B by omega, this]
      rfl
theorem sx_flc {Q : Int → vm_M → Prop} (h_th : vm_is th 1 = true) (hB : bOK B) (hP : vPx B th m) (h : ∀ m', vfr (vSc th) m m' → vTx (bR B) th 13 m' → Q (kX (kK (bR B) 12 0)) m') : vm_C 23 [vm_r th] m (vm_qi Q) := by
  have hN := hB.2.1
  have hN0 := hB.1
  have e1 : rN (bR B) = bN B := rfl
  have h25 : ∀ (n : Nat) (j : Int) (m1 : vm_M), 0 ≤ j → j + n = 13 → vfr (vSc th) m m1 → (∀ e, 0 ≤ e → e < bN B → m1 (th + 4) e = -1) → (∀ i : Nat, (i : Int) < j → m1 (th + 4) (31 * i + bN B) = 0) → ku1_findLeastCost_25 th j none m1 Q := by
    intro n
    induction n with
    | zero =>
      intro j m1 h0 h1 hf hv hz
      refine ru1_findLeastCost_25 h_th ⟨fun _ => ?_, fun c => by omega⟩
      refine sx_flc54 h_th hB hP h 12 0 m1 none rfl hf (fun l hl e a b => ?_) (fun i hi => hz i (by omega))
      have hl : l = 0 := by omega
      subst hl
      rw [show (31 * ((0 : Nat) : Int) + e) = e by omega]
      by_cases hq : e = bN B
      · have := hz 0 (by omega)
        rw [show (31 * ((0 : Nat) : Int) + bN B) = bN B by omega] at this
        rw [hq, this, ← e1, kK_N]; rfl
      · rw [hv e a (by omega)]
        unfold kK
        rw [e1, if_neg hq, kX_f (by omega)]
    | succ n ih =>
      intro j m1 h0 h1 hf hv hz
      have hP1 := hP.fr (vSc_b hf)
      refine ru1_findLeastCost_25 h_th ⟨fun c => by omega, fun _ => ?_⟩
      rw [hP1.1, show j * 31 + bN B = 31 * j + bN B by omega]
      refine ⟨by omega, ih (j + 1) _ (by omega) (by omega) (hf.st vSc_t) (fun e a b => ?_) (fun i hi => ?_)⟩
      · rw [vst_i (by omega)]; exact hv e a b
      · by_cases hq : (i : Int) = j
        · rw [hq, vst_s]
        · rw [vst_i (by omega)]; exact hz i (by omega)
  have h2 : ∀ (n : Nat) (j : Int) (m1 : vm_M), 0 ≤ j → j + n = bN B → vfr (vSc th) m m1 → (∀ e, 0 ≤ e → e < j → m1 (th + 4) e = -1) → ku1_findLeastCost_2 th j none m1 Q := by
    intro n
    induction n with
    | zero =>
      intro j m1 h0 h1 hf hv
      refine ru1_findLeastCost_2 h_th ⟨fun _ => h25 13 0 m1 (by omega) (by omega) hf (fun e a b => hv e a (by omega)) (fun i hi => by omega), fun c => by rw [(hP.fr (vSc_b hf)).1] at c; omega⟩
    | succ n ih =>
      intro j m1 h0 h1 hf hv
      have hP1 := hP.fr (vSc_b hf)
      refine ru1_findLeastCost_2 h_th ⟨fun c => by rw [hP1.1] at c; omega, fun _ => ⟨by omega, ih (j + 1) _ (by omega) (by omega) (hf.st vSc_t) (fun e a b => ?_)⟩⟩
      by_cases hq : e = j
      · rw [hq, vst_s]
      · rw [vst_i (by omega)]; exact hv e a (by omega)
  exact ru1_findLeastCost_0 h_th (h2 (bN B).toNat 0 m (by omega) (by omega) vfr.rf (fun e a b => by omega))
/-- the best end of a row -/
theorem sx_ce23 {Q : Int → vm_M → Prop} (h_th : vm_is th 1 = true) (hB : bOK B) (hP : vPx B th m) (hl : l ≤ 11) (hT : ∀ e, 0 ≤ e → e ≤ bN B → m (th + 4) (31 * l + e) = kX (kK (bR B) l e)) {f : Int} (hf : 0 ≤ f) (hfN : f < bN B) (hw : kK (bR B) (l + 1) f < 1000000000000000) (h : Q (f + kT (bR B) (l + 1) f) m) : ∀ (n : Nat) (e b : Int) (w6 : Option vm_V), f < e → e + n = bN B + 1 → (f + kT (bR B) (l + 1) f < e → b = f + kT (bR B) (l + 1) f) → ku1_cheapestEnd_23 th f ((l : Int) + 1) (kK (bR B) (l + 1) f) b e w6 m Q := by
  have hR := bR_ok hB
  have hN := hB.2.1
  have e1 : rN (bR B) = bN B := rfl
  have e2 : rI (bR B) = bI B := rfl
  obtain ⟨t1, t2, t3, t4, t5, t6⟩ := kT_ok hR hf (by omega) hw
  have hk0 := (kK_bd hR (l + 1) f hf (by omega)).1
  generalize htt : f + kT (bR B) (l + 1) f = t at *
  intro n
  induction n with
  | zero =>
    intro e b w6 h1 h2 h3
    refine ru1_cheapestEnd_23 h_th ⟨fun _ => by rw [h3 (by omega)]; exact h, fun q => by rw [hP.1] at q; omega⟩
  | succ n ih =>
    intro e b w6 h1 h2 h3
    have hcd := kcd_bd hR (K := kK (bR B) l) (B := 99960004 * l) (f := f) (e := e) (fun z z1 z2 => ⟨(kK_bd hR l z z1 z2).1, (kK_bd hR l z z1 z2).2.2⟩) (by omega) hf h1 (by omega)
    have hgo : ∀ w, w = rwd (bR B) f e → kval (bR B) f e → vm_C 33 [vm_r th, vm_i w, vm_i e, vm_i ((l : Int) + 1)] m (vm_qi (fun z2 m2 =>
            ((¬ z2 = (kK (bR B) (l + 1) f) →
              ((vm_32 (e + 1))) ∧
              ku1_cheapestEnd_23 th f ((l : Int) + 1) (kK (bR B) (l + 1) f) b (e + 1) (some (vm_i w)) m2 Q) ∧ (¬ ¬ z2 = (kK (bR B) (l + 1) f) →
              ((vm_32 (e + 1))) ∧
              ku1_cheapestEnd_23 th f ((l : Int) + 1) (kK (bR B) (l + 1) f) e (e + 1) (some (vm_i w)) m2 Q)))) := by
      intro w hw2 hv
      rw [hw2]
      refine sx_ct h_th hB hP hl hT hf h1 (by omega) ⟨fun q => ⟨by omega, ih (e + 1) b _ (by omega) (by omega) (fun q2 => ?_)⟩, fun q => ⟨by omega, ih (e + 1) e _ (by omega) (by omega) (fun q2 => ?_)⟩⟩
      · by_cases hq : t < e
        · exact h3 hq
        · have hq : e = t := by omega
          rw [hq, t4, kX_t hw] at q
          exact absurd rfl q
      · have q := Classical.not_not.mp q
        by_cases hq : t < e
        · have := t5 e hq (by omega) hv
          rcases Int.lt_or_le (kcd (bR B) (kK (bR B) l) f e) 1000000000000000 with a | a
          · rw [kX_t a] at q; omega
          · rw [kX_f (by omega)] at q; omega
        · omega
    refine ru1_cheapestEnd_23 h_th ⟨fun q => by rw [hP.1] at q; omega, fun _ => sx_rw h_th hB hP hf h1 (by omega) ⟨by omega, fun q => hgo _ rfl (Or.inl (by omega)), fun q => ⟨fun q2 => hgo _ rfl (Or.inr (by rw [hP.2.1] at q2; exact q2)), fun q2 => ?_⟩⟩⟩
    rw [hP.2.1] at q2
    have hno := kval_no hR hf (by omega) (by omega) (by omega : rI (bR B) < rwd (bR B) f e)
    rcases Int.lt_or_le t e with a | a
    · rw [h3 a]; exact h
    · exact absurd t3 (hno t a (by omega))
theorem sx_ce {Q : Int → vm_M → Prop} (h_th : vm_is th 1 = true) (hB : bOK B) (hP : vPx B th m) (hl : l ≤ 11) (hT : vTx (bR B) th 13 m) {f : Int} (hf : 0 ≤ f) (hfN : f < bN B) (hw : kK (bR B) (l + 1) f < 1000000000000000) (h : Q (f + kT (bR B) (l + 1) f) m) : vm_C 32 [vm_r th, vm_i f, vm_i ((l : Int) + 1)] m (vm_qi Q) := by
  have hN := hB.2.1
  have e1 : rN (bR B) = bN B := rfl
  obtain ⟨t1, t2, t3, t4, t5, t6⟩ := kT_ok (bR_ok hB) hf (by omega) hw
  have hx := hT (l + 1) (by omega) f hf (by omega)
  refine ru1_cheapestEnd_0 h_th ⟨by omega, ?_⟩
  rw [show ((l : Int) + 1) * 31 + f = 31 * ((l + 1 : Nat) : Int) + f by omega, hx, kX_t hw]
  exact sx_ce23 h_th hB hP hl (fun e a b => hT l (by omega) e a b) hf hfN hw h (bN B - f).toNat (f + 1) (m th 4) none (by omega) (by omega) (fun q => by omega)
theorem kcnt_is {R : vR} (h : rOK R) (hw : kK R 12 0 < 1000000000000000) {r : Nat} (h1 : kF R r = rN R) (h2 : ∀ j, j < r → kF R j < rN R) : kcnt R = r := by
  have g := kcnt_ok h hw
  rcases Nat.lt_trichotomy (kcnt R) r with a | a | a
  · have := h2 _ a; omega
  · exact a
  · have := g.2 _ a; omega
theorem sx_cheap7 {Q : vm_M → Prop} (h_th : vm_is th 1 = true) (hB : bOK B) (hP : vPx B th m) (hT : vTx (bR B) th 13 m) (hw : kK (bR B) 12 0 < 1000000000000000) (h : ∀ m', vfr (vSb th) m m' → vLx (bR B) 1 th m' → Q m') : ∀ (n r : Nat) (m1 : vm_M), r + n = 12 → vfr (vSb th) m m1 → vTx (bR B) th 13 m1 → m1 th 8 = (r : Int) → (∀ j : Nat, j < r → m1 (th + 3) j = kF (bR B) j) → (∀ j, j < r → kF (bR B) j < bN B) → ku1_breakCheaply_7 th (kF (bR B) r) m1 Q := by
  have hR := bR_ok hB
  have hN := hB.2.1
  have hNN : rN (bR B) = bN B := rfl
  have hend : ∀ (r : Nat) (m1 : vm_M), r ≤ 12 → vfr (vSb th) m m1 → m1 th 8 = (r : Int) → (∀ j : Nat, j < r → m1 (th + 3) j = kF (bR B) j) → (∀ j, j < r → kF (bR B) j < bN B) → bN B ≤ kF (bR B) r → Q (vm_st m1 (th + 3) (m1 th 8) (kF (bR B) r)) := by
    intro r m1 hr hf h8 hv hlt hor
    have hb := kF_ok hR hw r
    rw [h8]
    refine h _ (hf.st vSb_3) ?_
    have e : kcnt (bR B) = r := kcnt_is hR hw (by omega) hlt
    have e2 : bQ (bR B) 1 = r := by unfold bQ; rw [if_neg (by decide), if_pos hw, e]
    refine ⟨by rw [vst_k (by omega), h8, e2], fun j hj _ => ?_⟩
    rw [e2] at hj
    have e3 : bF (bR B) 1 j = kF (bR B) j := by unfold bF; rw [if_neg (by decide)]
    rw [e3]
    by_cases hq : j = r
    · rw [hq, vst_s]
    · rw [vst_i (by omega)]; exact hv j (by omega)
  intro n
  induction n with
  | zero =>
    intro r m1 hr hf hT1 h8 hv hlt
    have hr : r = 12 := by omega
    have h12 := kF_12 hR hw
    have h9 := hend r m1 (by omega) hf h8 hv hlt (by rw [hr]; omega)
    exact ru1_breakCheaply_7 h_th ⟨fun c => ⟨by omega, h9⟩, fun c => by omega⟩
  | succ n ih =>
    intro r m1 hr hf hT1 h8 hv hlt
    have hP1 := hP.fr hf
    have hb := kF_ok hR hw r
    refine ru1_breakCheaply_7 h_th ⟨fun c => by omega, fun _ => ⟨fun c => ⟨by omega, hend r m1 (by omega) hf h8 hv hlt (by rw [hP1.1] at c; exact c)⟩, fun c => ?_⟩⟩
    rw [hP1.1] at c
    obtain ⟨l, hl, k1, k2, k3, k4⟩ := kF_t hR hw r (by omega)
    have hw2 := hb.2.2
    rw [hl] at hw2
    have hf1 := hf.st (k := th + 3) (i := (r : Int)) (v := kF (bR B) r) vSb_3
    have hP2 := hP.fr hf1
    have hT2 : vTx (bR B) th 13 (vm_st m1 (th + 3) (r : Int) (kF (bR B) r)) := fun j hj e a b => by rw [vst_k (by omega)]; exact hT1 j hj e a b
    rw [vst_k (by omega), h8, show (12 - (r : Int)) = (l : Int) + 1 by omega]
    refine ⟨by omega, sx_ce h_th hB hP2 (by omega) hT2 hb.1 (by omega) hw2 ?_⟩
    rw [vst_k (by omega), h8, ← k2]
    refine ⟨by omega, ih (r + 1) _ (by omega) (hf1.st vSb_8) (fun j hj e a b => by rw [vst_k (by omega)]; exact hT2 j hj e a b) (by rw [vst_s]; omega) (fun j hj => ?_) (fun j hj => ?_)⟩
    · rw [vst_k (by omega)]
      by_cases hq : j = r
      · rw [hq, vst_s]
      · rw [vst_i (by omega)]; exact hv j (by omega)
    · rcases Nat.lt_or_ge j r with a | a
      · exact hlt j a
      · rw [show j = r by omega]; omega
theorem sx_break {Q : vm_M → Prop} (h_th : vm_is th 1 = true) (hB : bOK B) (hP : vPx B th m) {how : Int} (hh : how = 0 ∨ how = 1) (h : ∀ m', vfr (vSb th) m m' → vLx (bR B) how th m' → Q m') : vm_C 14 [vm_r th, vm_i how] m (vm_qv Q) := by
  have hR := bR_ok hB
  refine ru1_breakWords_0 h_th ⟨fun c => ?_, fun c => ?_⟩
  · have hh : how = 1 := by omega
    subst hh
    refine sx_flc h_th hB hP (fun m1 hf hT => ⟨fun c2 => ?_, fun c2 => ?_⟩)
    · have c3 : kK (bR B) 12 0 < 1000000000000000 := Classical.not_not.mp (fun k => c2 (kX_f k))
      have hf1 := vSc_b hf
      refine ru1_breakCheaply_0 h_th ?_
      have hf2 := hf1.st (k := th) (i := 8) (v := 0) vSb_8
      refine sx_cheap7 h_th hB (hP.fr hf2) (fun j hj e a b => by rw [vst_k (by omega)]; exact hT j hj e a b) c3 (fun m' hf3 hL => h m' (hf2.tr hf3) hL) 12 0 _ rfl vfr.rf (fun j hj e a b => by rw [vst_k (by omega)]; exact hT j hj e a b) (by rw [vst_s]; rfl) (fun j hj => by omega) (fun j hj => by omega)
    · have c3 : ¬ kK (bR B) 12 0 < 1000000000000000 := by
        intro k
        rw [kX_t k] at c2
        have := (kK_bd hR 12 0 (Int.le_refl _) hB.1).1
        omega
      refine h _ ((vSc_b hf).st vSb_8) ⟨?_, fun j _ q => ?_⟩
      · rw [vst_s]; unfold bQ; rw [if_neg (by decide), if_neg c3]; rfl
      · unfold bQ at q; rw [if_neg (by decide), if_neg c3] at q; omega
  · have hh : how = 0 := Classical.not_not.mp c
    subst hh
    exact sx_early h_th hB hP h
end XC
