/-! ===== undone operations; a setup read again: the method ===== -/
theorem ln_Nx {S : lwS} {P : Nat → lwS → Prop} (x y : Nat) (hb : 96 + x ≤ S.2.1 ∧ 18373 + y ≤ S.2.2) (kk : ∀ a S1, 100 ≤ a → S.1 a = none → lfr a S S1 → lO d0 e0 z0 a S1 → (x ≤ S1.2.1 ∧ y ≤ S1.2.2) → P a S1) : lNx S P := by
  have h1 : vm_mc 100 = 95 := by decide
  have h2 : vm_ms 100 = 18357 := by decide
  have h3 : vm_nf 10 = 16 := by decide
  refine ⟨by rw [h1, h2, h3]; exact ⟨by omega, by omega⟩, fun a ha hn => kk a _ ha hn (fun r hr => lup_n hr) (lO_new (lup_s _ _ _)) ?_⟩
  rw [h1, h2, h3]
  exact ⟨by show x ≤ S.2.1 - (1 + 95); omega, by show y ≤ S.2.2 - (16 + 18357); omega⟩
theorem lk2.kx {o q a : Nat} {S0 S S' : lwS} (h : lk2 o q S0 S) (hn : S0.1 a = none) (hk : lkp a S S') : lk2 o q S0 S' := fun r h1 h2 h3 => by
  have e := h r h1 h2 h3
  rw [hk r (by rw [e]; exact h1) (fun c => h1 (by rw [c]; exact hn)), e]
theorem lk2.none {o q a : Nat} {S0 S : lwS} (h : lk2 o q S0 S) (ha : S.1 a = none) (ho : a ≠ o) (hq : a ≠ q) : S0.1 a = none := by
  cases hS : S0.1 a with
  | none => rfl
  | some B =>
    have := h.s hS ho hq
    rw [ha] at this
    cases this
theorem lO.some {D : vD} {E : Int → Int} {z : vZs} {o : Nat} {S : lwS} (h : lO D E z o S) : ∃ m, S.1 o = some (lbI m) := by
  obtain ⟨-, -, m, h3, -⟩ := h
  exact ⟨m, h3⟩
theorem lO.nn {D : vD} {E : Int → Int} {z : vZs} {o a : Nat} {S : lwS} (h : lO D E z o S) (ha : S.1 a = none) : a ≠ o := by
  obtain ⟨m, h3⟩ := h.some
  intro e
  rw [e, h3] at ha
  cases ha
theorem lQ.nn {q a : Nat} {S : lwS} (h : lQ q S) (ha : S.1 a = none) : a ≠ q := by
  obtain ⟨l, h3, -⟩ := h
  intro e
  rw [e, h3] at ha
  cases ha
section LUD
variable {L : Nat} {D : vD} {t : vTE} {o q : Nat}
/-- a new one reads what this one writes -/
theorem lud_end {z : vZs} {S S0 : lwS} {x y : Nat} {Qp : Option vm_V → lwS → Prop} (hT : lT D t z o S) (hQ : lQ q S) (hG : lGd L (teD D t) t.2) (hk0 : lk2 o q S0 S) (hb : 20000 + x ≤ S.2.1 ∧ 60000 + y ≤ S.2.2) (kk : ∀ S', lQ q S' → lk2 o q S0 S' → (x ≤ S'.2.1 ∧ y ≤ S'.2.2) → Qp (some (vm_i 1)) S') : lG lK_undone 319 [some (vm_r (o)), none, none, none, none, none, none] [vm_i 1] S Qp := by
  have hOC : OC (teD D t) t.2 := hT.1
  obtain ⟨hA, hK, -, -⟩ := hG
  have es : lTX (teD D t) t.2 0 = lSetT t.2 (dC (teD D t)) (dW (teD D t)) (dS (teD D t)) L (lcps (teD D t) 676 0) := vset_is hOC hA
  have ok := lgood_ok hOC hA hK
  have tx := lSetT_tx ok
  have ln := lgood_len hOC hA hK
  refine rL_undone_319 (ln_Nx (19000 + x) (41000 + y) ⟨by omega, by omega⟩ (fun a S1 ha1 ha2 hf1 hX1 hc1 => ⟨fun c => absurd c (by decide), fun _ => ?_⟩))
  have nao := lO.nn hT ha2
  have naq := hQ.nn ha2
  have hT1 : lO (teD D t) t.2 z o S1 := hT.fr hf1 nao.symm
  have hQ1 := hQ.fr hf1 naq.symm
  have ha0 := hk0.none ha2 nao naq
  have hk1 : lk2 o q S0 S1 := hk0.b ha0 hf1
  refine ln_text (N := 1500) (x := 17000 + x) (y := 33000 + y) hT1 (Or.inl rfl) (by rw [es]; exact tx) (by rw [es]; exact ln) (by decide) ⟨by omega, by omega⟩ (fun r4 S3 _ hn4 hA4 hT3 hk3 hc3 => ?_)
  rw [es] at hA4
  have hX3 : lO d0 e0 z0 a S3 := hX1.kp hk3 nao
  have hQ3 := hQ1.kp hk3 (lOQ hT1 hQ1).symm
  have hk03 : lk2 o q S0 S3 := hk1.tr hk3.ko
  refine ln_loads (x := 16000 + x) (y := 32000 + y) hX3 (Or.inr hA4) ok tx (by omega) ⟨by omega, by omega⟩ (fun s' z' S5 hR hX5 _ hk5 hc5 => ⟨fun c => absurd c (by decide), fun _ => ?_⟩)
  have hT5 : lO (teD D t) t.2 z o S5 := hT3.kp hk5 nao.symm
  have hQ5 := hQ3.kp hk5 naq.symm
  have hk05 : lk2 o q S0 S5 := hk03.kx ha0 hk5
  have sm := lread_same hOC hA hK hR hX5.1
  have eX : lTX (pD s') (pN6 s') 0 = vset (teD D t) t.2 := sm.1
  have eO : lTX (teD D t) t.2 0 = vset (teD D t) t.2 := rfl
  have ex : vset (teD D t) t.2 = lSetT t.2 (dC (teD D t)) (dW (teD D t)) (dS (teD D t)) L (lcps (teD D t) 676 0) := es
  refine ln_text (N := 1500) (x := 14000 + x) (y := 24000 + y) hX5 (Or.inl rfl) (by rw [eX, ex]; exact tx) (by rw [eX, ex]; exact ln) (by decide) ⟨by omega, by omega⟩ (fun r8 S7 _ hn8 hA8 hX7 hk7 hc7 => ?_)
  rw [eX] at hA8
  have hT7 : lO (teD D t) t.2 z o S7 := hT5.kp hk7 nao.symm
  have hQ7 := hQ5.kp hk7 naq.symm
  have hk07 : lk2 o q S0 S7 := hk05.kx ha0 hk7
  have n8o : r8 ≠ o := lT.ne (D := D) (t := t) (z := z) hT7 hA8 (fun m e => by cases e)
  refine ln_text (N := 1500) (x := 12000 + x) (y := 16000 + y) hT7 (Or.inl rfl) (by rw [es]; exact tx) (by rw [es]; exact ln) (by decide) ⟨by omega, by omega⟩ (fun r10 S9 _ hn10 hA10 hT9 hk9 hc9 => ?_)
  rw [eO] at hA10
  have hX9 : lO (pD s') (pN6 s') z' a S9 := hX7.kp hk9 nao
  have hQ9 := hQ7.kp hk9 (lOQ hT7 hQ7).symm
  have hk09 : lk2 o q S0 S9 := hk07.tr hk9.ko
  refine ⟨_, Or.inr (hk9.s hA8 n8o), Or.inr hA10, lq_value hX9 (fun S10 hs10 hX10 => ⟨fun c => absurd rfl c, fun _ => lq_value hX10 (fun S11 hs11 hX11 => lq_value (D := teD D t) (E := t.2) (z := z) ((hT9.fr hs10.fr nao.symm).fr hs11.fr nao.symm) (fun S12 hs12 hT12 => ⟨fun c => absurd sm.2 c, fun _ => ?_⟩))⟩)⟩
  refine kk S12 (((hQ9.fr hs10.fr naq.symm).fr hs11.fr naq.symm).fr hs12.fr (lOQ hT9 hQ9).symm) (((hk09.kx ha0 hs10.fr.kp).kx ha0 hs11.fr.kp).tr hs12.ko) ?_
  rw [hs12.2, hs11.2, hs10.2]
  exact ⟨by omega, by omega⟩
/-- what is refused -/
theorem lud_refused {z : vZs} {S S0 : lwS} {r cx cy : Nat} {w : List Int} {Qp : Option vm_V → lwS → Prop} {n v : Int} (hG : lGd L (teD D t) t.2) (h : lB5 D t z o q S0 r w cx cy S) (hv : t.2 7 = v) (kk : ∀ S', lB5 D t z o q S0 r w cx cy S' → lG lK_undone 267 [some (vm_r (o)), none, some (vm_r (r)), some (vm_i (n)), none, none, none] [vm_i 1] S' Qp) : lG lK_undone 185 [some (vm_r (o)), none, some (vm_r (r)), some (vm_i (n)), none, none, none] [vm_i v, vm_r o] S Qp := by
  have hOC : OC (teD D t) t.2 := h.1.1
  have e7 := hOC.2.2.2.2.2.2.2.2.2
  have q12 := (eQ_ok hOC.1 hOC.2.1 hOC.2.2).1
  have a12 : a_row (teD D t) t.2 12 0 = -1 := by unfold a_row; rw [vif_f (fun c => by have := c.2; omega)]
  have a130 : a_place (teD D t) t.2 (-1) 0 = -1 := by unfold a_place; rw [vif_f (fun c => by have := c.1.1; omega)]
  refine rL_undone_185 (lp_setFill (by omega) h.1 (fun _ S1 hs1 hO1 => ?_) (fun ne => absurd hv ne))
  have hO1 : lT D t z o S1 := hO1
  refine ⟨fun c => absurd rfl c, fun _ => lp_swap hO1 (fun _ S2 hs2 hO2 => ?_) (fun c => absurd rfl c.2.2)⟩
  have hO2 : lT D t z o S2 := hO2
  refine ⟨fun c => absurd rfl c, fun _ => lp_swap hO2 (fun _ S3 hs3 hO3 => ?_) (fun c => absurd c.1.1 (by decide))⟩
  have hO3 : lT D t z o S3 := hO3
  refine ⟨fun c => absurd rfl c, fun _ => lp_keep hO3 (fun _ S4 hs4 hO4 => ?_) (fun u e u2 => absurd e (by omega))⟩
  have hO4 : lT D t z o S4 := hO4
  refine ⟨fun c => absurd rfl c, fun _ => lp_restore hO4 (fun _ S5 hs5 hO5 => ?_) (fun u e u2 => absurd e (by omega)) (fun u e u2 => absurd e (by omega))⟩
  have hO5 : lT D t z o S5 := hO5
  refine ⟨fun c => absurd rfl c, fun _ => lq_row hO5 (fun S6 hs6 hO6 => ?_)⟩
  have hO6 : lT D t z o S6 := hO6
  rw [a12]
  refine ⟨fun c => absurd rfl c, fun _ => lq_place ⟨by decide, by decide⟩ hO6 (fun S7 hs7 hO7 => ?_)⟩
  have hO7 : lT D t z o S7 := hO7
  rw [a130]
  refine ⟨fun c => absurd rfl c, fun _ => lq_leastInner hO7 (fun ans ha S8 hs8 hO8 => ⟨fun c => absurd (ha.1 (by decide)) c, fun _ => ?_⟩)⟩
  have hO8 : lT D t z o S8 := hO8
  exact kk S8 ((((((((h.nx hs1 hO1).nx hs2 hO2).nx hs3 hO3).nx hs4 hO4).nx hs5 hO5).nx hs6 hO6).nx hs7 hO7).nx hs8 hO8)
theorem ld_undone {z : vZs} {S : lwS} {x y : Nat} {Qp : Option vm_V → lwS → Prop} (hT : lT D t z o S) (hQ : lQ q S) (hG : lGd L (teD D t) t.2) (hb : 16000 + (16000 + (16000 + (20000 + x))) ≤ S.2.1 ∧ 100000 + (100000 + (100000 + (60000 + y))) ≤ S.2.2) (kk : ∀ S', lQ q S' → lk2 o q S S' → (x ≤ S'.2.1 ∧ y ≤ S'.2.2) → Qp (some (vm_i 1)) S') : lG lK_undone 0 (lEn lK_undone [vm_r o, vm_r q]) [] S Qp := by
  have hOC : OC (teD D t) t.2 := hT.1
  have htold := lgood_told hOC hG
  obtain ⟨w, hw⟩ : ∃ w, w = lTold (teD D t) t.2 := ⟨_, rfl⟩
  obtain ⟨X, hX⟩ : ∃ X, X = 16000 + (20000 + x) := ⟨_, rfl⟩
  obtain ⟨Y, hY⟩ : ∃ Y, Y = 100000 + (60000 + y) := ⟨_, rfl⟩
  rw [← hX, ← hY] at hb
  have v11 : a_value (teD D t) t.2 11 = dN (teD D t) := rfl
  have v0 : a_value (teD D t) t.2 0 = t.2 0 := rfl
  have v7 : a_value (teD D t) t.2 7 = t.2 6 := rfl
  have v8 : a_value (teD D t) t.2 8 = t.2 7 := rfl
  have main : ∀ (a : Nat) (z1 : vZs) (S1 : lwS), zk z1 0 = 1 → zs z1 0 = t → lB5 D t z1 o q S a w (16000 + X) (100000 + Y) S1 → lG lK_undone 17 [some (vm_r (o)), some (vm_r (q)), some (vm_r (a)), some (vm_i (0)), some (vm_i (dN (teD D t))), some (vm_i (0)), none] [] S1 Qp := by
    intro a z1 S1 hzk hzs h1
    -- the last part
    have f298 : ∀ (z2 : vZs) (S2 : lwS), lB5 D t z2 o q S a w X Y S2 → lG lK_undone 298 [some (vm_r (o)), none, some (vm_r (a)), none, none, some (vm_i (1)), none] [] S2 Qp := fun z2 S2 h2 => by
      rw [hX, hY] at h2
      refine rL_undone_298 ⟨fun c => absurd c (by decide), fun _ => h2.told htold (fun b S3 hA h3 => ⟨w, Or.inr (by rw [hw]; exact hA), Or.inr h3.2.2.2.1, ?_⟩)⟩
      exact lud_end h3.1 h3.2.1 hG h3.2.2.1 h3.2.2.2.2 kk
    -- undoing
    have f269 : ∀ (ts : List vTE) (u : vTE) (z2 : vZs) (S2 : lwS), lHl z2 ts → (u :: ts).getLast? = some t → ts.length ≤ 8 → lB5 D u z2 o q S a w X Y S2 → lG lK_undone 269 [some (vm_r (o)), none, some (vm_r (a)), some (vm_i ((ts.length : Int))), none, some (vm_i (1)), none] [] S2 Qp := by
      intro ts
      induction ts with
      | nil =>
        intro u z2 S2 _ hl _ h2
        have hl : some u = some t := hl
        cases hl
        exact rL_undone_269 ⟨fun _ => f298 z2 S2 h2, fun c => absurd (Int.le_refl _) c⟩
      | cons u' ts ih =>
        intro u z2 S2 hh hl h8 h2
        rw [List.length_cons] at h8
        have hl : (u' :: ts).getLast? = some t := by rw [List.getLast?_cons_cons] at hl; exact hl
        have e9 : ((u' :: ts).length : Int) = (ts.length : Int) + 1 := by rw [List.length_cons]; omega
        rw [e9]
        refine rL_undone_269 ⟨fun c => absurd c (by omega), fun _ => ⟨fun c => absurd c (by decide), fun _ => lt_undo h2.1 hh (fun ru S3 hu hs3 hT3 => ⟨fun c => absurd c (by omega), fun _ => rL_undone_290 ⟨⟨by omega, by omega⟩, ?_⟩⟩)⟩⟩
        rw [show (ts.length : Int) + 1 + (-1) = (ts.length : Int) by omega]
        exact ih u' (zU z2) S3 hh.pop.2.2 hl (by omega) (h2.nx hs3 hT3)
    -- what is refused
    have f60 : ∀ (ts : List vTE) (z2 : vZs) (S2 : lwS) (x0 x1 : Int), lHl z2 ts → (t :: ts).getLast? = some t → ts.length ≤ 8 → x1 + x0 = (ts.length : Int) → lB5 D t z2 o q S a w (16000 + X) (100000 + Y) S2 → lG lK_undone 60 [some (vm_r (o)), none, some (vm_r (a)), none, some (vm_i (dN (teD D t))), none, none] [vm_i x0, vm_i x1] S2 Qp := by
      intro ts z2 S2 x0 x1 hh hl h8 hx h2
      refine rL_undone_60 ?_
      rw [hx]
      refine ⟨⟨by omega, by omega⟩, h2.told htold (fun b S3 hA h3 => ⟨w, Or.inr (by rw [hw]; exact hA), Or.inr h3.2.2.2.1, ?_⟩)⟩
      have f267 : ∀ S4, lB5 D t z2 o q S a w X Y S4 → lG lK_undone 267 [some (vm_r (o)), none, some (vm_r (a)), some (vm_i ((ts.length : Int))), none, none, none] [vm_i 1] S4 Qp := fun S4 h4 => rL_undone_267 (f269 ts t z2 S4 hh hl h8 h4)
      have c0 := hOC.2.2.1
      have c6 := hOC.2.2.2.2.2.2.2.2.1
      have c7 := hOC.2.2.2.2.2.2.2.2.2
      refine lq_value h3.1 (fun S4 hs4 hO4 => ⟨fun c => absurd v11 c, fun _ => ?_⟩)
      have hO4 : lT D t z2 o S4 := hO4
      refine lp_setNumber hO4 (fun _ S5 hs5 hO5 => ⟨fun c => absurd rfl c, fun _ => ?_⟩) (fun c => absurd c.1 (by decide)) (fun c => absurd c.1 (by decide))
      have hO5 : lT D t z2 o S5 := hO5
      refine lp_setNumber hO5 (fun _ S6 hs6 hO6 => ⟨fun c => absurd rfl c, fun _ => ?_⟩) (fun c => absurd c.2 (by unfold vok; omega)) (fun c => absurd c.2 (by unfold vok; omega))
      have hO6 : lT D t z2 o S6 := hO6
      refine lq_value hO6 (fun S7 hs7 hO7 => ?_)
      have hO7 : lT D t z2 o S7 := hO7
      rw [v0]
      refine lp_setNumber hO7 (fun c => absurd ⟨by decide, Or.inl ⟨rfl, c0⟩⟩ c) (fun _ _ S8 hs8 hO8 => ⟨fun c => absurd rfl c, fun _ => ?_⟩) (fun _ ne => absurd rfl ne)
      have hO8 : lT D t z2 o S8 := hO8
      refine lp_correct hO8 (fun _ S9 hs9 hO9 => ⟨fun c => absurd rfl c, fun _ => ?_⟩) (fun c => absurd c.2.2.2 (by decide)) (fun c => absurd c.2.2.2 (by decide))
      have hO9 : lT D t z2 o S9 := hO9
      refine lp_correct hO9 (fun _ S10 hs10 hO10 => ⟨fun c => absurd rfl c, fun _ => ?_⟩) (fun c => absurd c.1.2.1 (by decide)) (fun c => absurd c.1.2.1 (by decide))
      have hO10 : lT D t z2 o S10 := hO10
      refine lp_setBreak hO10 (fun _ S11 hs11 hO11 => ⟨fun c => absurd rfl c, fun _ => ?_⟩) (fun c => absurd c (by decide)) (fun c => absurd c (by decide))
      have hO11 : lT D t z2 o S11 := hO11
      refine lq_value hO11 (fun S12 hs12 hO12 => ?_)
      have hO12 : lT D t z2 o S12 := hO12
      rw [v7]
      refine lp_setBreak hO12 (fun c => absurd c6 c) (fun _ _ S13 hs13 hO13 => ⟨fun c => absurd rfl c, fun _ => ?_⟩) (fun _ ne => absurd rfl ne)
      have hO13 : lT D t z2 o S13 := hO13
      refine lq_value hO13 (fun S14 hs14 hO14 => ?_)
      have hO14 : lT D t z2 o S14 := hO14
      rw [v8]
      have h14 := ((((((((((h3.nx hs4 hO4).nx hs5 hO5).nx hs6 hO6).nx hs7 hO7).nx hs8 hO8).nx hs9 hO9).nx hs10 hO10).nx hs11 hO11).nx hs12 hO12).nx hs13 hO13).nx hs14 hO14
      exact ⟨fun c => lud_refused hG h14 (by omega) f267, fun c => lud_refused hG h14 (by omega) f267⟩
    -- the acts
    have f17 : ∀ (n k : Nat) (ts : List vTE) (u : vTE) (z2 : vZs) (S2 : lwS), k + n = 7 → zk z2 0 = 1 → zs z2 0 = t → lHl z2 ts → (u :: ts).getLast? = some t → ts.length ≤ k → lGd L (teD D u) u.2 → lB5 D u z2 o q S a w (16000 + X) (100000 + Y) S2 → lG lK_undone 17 [some (vm_r (o)), some (vm_r (q)), some (vm_r (a)), some (vm_i ((ts.length : Int))), some (vm_i (dN (teD D t))), some (vm_i ((k : Int))), none] [] S2 Qp := by
      intro n
      induction n with
      | zero =>
        intro k ts u z2 S2 hk hz1 hz2 hh hl hlk hg h2
        refine rL_undone_17 ⟨fun _ => lp_restore h2.1 (fun c => absurd (by decide) c) (fun v e v2 ne => absurd ?_ ne) (fun v e v2 ez S3 hs3 hO3 => ?_), fun c => absurd (by omega) c⟩
        · rw [show v = 0 by omega]; exact hz1
        · have ev : v = 0 := by omega
          subst ev
          rw [hz2] at hO3 ⊢
          have hO3 : lT D t (zP z2 u) o S3 := hO3
          have hN : 0 ≤ dN (teD D t) := hOC.2.1.2.1
          refine ⟨fun c => absurd c (show ¬ dN (teD D t) < 0 by omega), fun _ => ?_⟩
          exact f60 (u :: ts) (zP z2 u) S3 1 (ts.length : Int) (hh.push h2.1.c8 (by omega) u) (by rw [List.getLast?_cons_cons]; exact hl) (by rw [List.length_cons]; omega) (by rw [List.length_cons]; omega) (h2.nx hs3 hO3)
      | succ n ih =>
        intro k ts u z2 S2 hk hz1 hz2 hh hl hlk hg h2
        refine rL_undone_17 ⟨fun c => absurd c (by omega), fun _ => ln_acts h2.1 h2.2.1 hg (fun r u' z3 S3 hA hT3 hQ3 hk3 hb3 => ?_)⟩
        have hT3 : lT D u' z3 o S3 := hT3
        have naq : a ≠ q := fun e => by
          obtain ⟨l, h9, -⟩ := h2.2.1
          rw [← e, h2.2.2.2.1] at h9
          cases h9
        have h3 : lB5 D u' z3 o q S a w (16000 + X) (100000 + Y) S3 := ⟨hT3, hQ3, h2.2.2.1.tr hk3, hk3.s h2.2.2.2.1 (h2.1.ne h2.2.2.2.1 (fun m e => by cases e)) naq, by rw [hb3]; exact h2.2.2.2.2⟩
        have hg' : lGd L (teD D u') u'.2 := hA.1
        rcases hA.2 with ⟨r0, eu, ez⟩ | ⟨r0, ez⟩
        · have eu : u' = u := eu
          subst eu
          subst ez
          refine ⟨fun _ => rL_undone_38 ⟨⟨by omega, by omega⟩, ⟨by omega, by omega⟩, ?_⟩, fun c => absurd r0 c⟩
          have := ih (k + 1) ts u' z3 S3 (by omega) hz1 hz2 hh hl (by omega) hg' h3
          rw [show ((k + 1 : Nat) : Int) = (k : Int) + 1 by omega] at this
          rwa [show (ts.length : Int) + 0 = (ts.length : Int) by omega]
        · have ez : z3 = zP z2 u := ez
          subst ez
          refine ⟨fun c => absurd c (by omega), fun _ => rL_undone_38 ⟨⟨by omega, by omega⟩, ⟨by omega, by omega⟩, ?_⟩⟩
          have := ih (k + 1) (u :: ts) u' (zP z2 u) S3 (by omega) hz1 hz2 (hh.push h2.1.c8 (by omega) u) (by rw [List.getLast?_cons_cons]; exact hl) (by rw [List.length_cons]; omega) hg' h3
          rw [show ((k + 1 : Nat) : Int) = (k : Int) + 1 by omega, List.length_cons, show ((ts.length + 1 : Nat) : Int) = (ts.length : Int) + 1 by omega] at this
          exact this
    exact f17 7 0 [] t z1 S1 (by decide) hzk hzs lHl.nil rfl (Nat.le_refl _) hG h1
  refine rL_undone_0 (ln_told hT htold hb (fun a S1 ha hn hA hT1 hk1 hc1 => ?_))
  have hT1 : lT D t z o S1 := hT1
  have h1 : lB5 D t z o q S a w (16000 + X) (100000 + Y) S1 := ⟨hT1, hQ.kp hk1 (lOQ hT hQ).symm, hk1.ko, by rw [hw]; exact hA, hc1⟩
  refine lp_keep hT1 (fun c => absurd (by decide) c) (fun u e u2 S2 hs2 hO2 => ?_)
  have eu : u = 0 := by omega
  subst eu
  have hO2 : lT D t (zK z 0 t) o S2 := hO2
  exact main a (zK z 0 t) S2 rfl rfl (h1.nx hs2 hO2)
end LUD
