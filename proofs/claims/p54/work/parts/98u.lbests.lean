/-! ===== best sizes, gaps, widths, exchanges: the method ===== -/
section LBT
variable {L : Nat} {D : vD} {t : vTE} {o q : Nat}
theorem ld_bests {z : vZs} {S : lwS} {x y : Nat} {Qp : Option vm_V → lwS → Prop} (hT : lT D t z o S) (hQ : lQ q S) (hG : lGd L (teD D t) t.2) (hb : 16000 + (16000 + (16000 + (16000 + x))) ≤ S.2.1 ∧ 100000 + (100000 + (100000 + (100000 + y))) ≤ S.2.2) (kk : ∀ z' S', lT D t z' o S' → lQ q S' → lk2 o q S S' → (x ≤ S'.2.1 ∧ y ≤ S'.2.2) → Qp (some (vm_i 1)) S') : lG lK_bests 0 (lEn lK_bests [vm_r o, vm_r q]) [] S Qp := by
  have hOC : OC (teD D t) t.2 := hT.1
  have htold := lgood_told hOC hG
  obtain ⟨hD, hS, hE⟩ := hOC
  have hOC : OC (teD D t) t.2 := hT.1
  obtain ⟨⟨⟨L2, L5⟩, ⟨C1, C2⟩, -, -⟩, -, hGe, ⟨⟨n1, n9⟩, -⟩⟩ := hG
  obtain ⟨e0, e1, e2, e3, e4, e5, e6, e7⟩ := hE
  have hB := eB_ok hD hS hT.1.2.2
  have hR := bR_ok hB
  have hQ0 : 0 < eQ (teD D t) t.2 := bQ_pos hR (show 0 < dN (teD D t) by omega) (show dN (teD D t) ≤ 12 by omega) (t.2 6)
  have ec : a_cost (teD D t) t.2 = bcost (bR (eB (teD D t) t.2)) (t.2 6) := by unfold a_cost; rw [if_neg (by omega)]
  have cb := bcost_bd hR (t.2 6) (bQ (bR (eB (teD D t) t.2)) (t.2 6) - 1) (by omega)
  have c0 : 0 ≤ bcost (bR (eB (teD D t) t.2)) (t.2 6) := cb.1
  have c1 : bcost (bR (eB (teD D t) t.2)) (t.2 6) ≤ 99960004 * 12 := cb.2
  -- exchanges
  have xc : ∀ i j, (0 ≤ i ∧ i < dN (teD D t)) → (0 ≤ j ∧ j < dN (teD D t)) → (0 < bQ (bR (bX (eB (teD D t) t.2) i j)) (t.2 6) ∧ a_cost (teD D (tS t i j)) (tS t i j).2 = bcost (bR (bX (eB (teD D t) t.2) i j)) (t.2 6) ∧ 0 ≤ bcost (bR (bX (eB (teD D t) t.2) i j)) (t.2 6)) := fun i j hi hj => by
    have hX := bR_ok (bX_ok hB hi hj)
    have h1 : 0 < bQ (bR (bX (eB (teD D t) t.2) i j)) (t.2 6) := bQ_pos hX (show 0 < dN (teD D t) by omega) (show dN (teD D t) ≤ 12 by omega) (t.2 6)
    have hr := eB_swap hOC hi hj
    have h2 : bQ (bR (bX (eB (teD D t) t.2) i j)) (t.2 6) = eQ (teD D (tS t i j)) (tS t i j).2 := bQ_cg hr hX (t.2 6)
    have h3 : bcost (bR (bX (eB (teD D t) t.2) i j)) (t.2 6) = bcost (bR (eB (teD D (tS t i j)) (tS t i j).2)) ((tS t i j).2 6) := bcost_cg hr hX (t.2 6)
    refine ⟨h1, ?_, (bcost_bd hX (t.2 6) (bQ (bR (bX (eB (teD D t) t.2) i j)) (t.2 6) - 1) (by omega)).1⟩
    rw [h3]
    unfold a_cost
    rw [if_neg (by omega)]
  have hbs : lbs (eB (teD D t) t.2) (t.2 6) (a_cost (teD D t) t.2) (fun a b => 0 ≤ a ∧ a < b ∧ b < dN (teD D t)) (ybi (eB (teD D t) t.2) (t.2 6) (dN (teD D t)).toNat 0 (-2, a_cost (teD D t) t.2)) := lbs_all hS.2.1
  have eb : a_bestSwap (teD D t) t.2 = (ybi (eB (teD D t) t.2) (t.2 6) (dN (teD D t)).toNat 0 (-2, a_cost (teD D t) t.2)).1 := by
    unfold a_bestSwap
    rw [if_neg (by omega), ec]
  have hbest : (a_bestSwap (teD D t) t.2 = -2 ∧ ∀ i j, 0 ≤ i → i < j → j < dN (teD D t) → a_cost (teD D t) t.2 ≤ bcost (bR (bX (eB (teD D t) t.2) i j)) (t.2 6)) ∨ (∃ i j, (0 ≤ i ∧ i < j ∧ j < dN (teD D t)) ∧ a_bestSwap (teD D t) t.2 = 100 * i + j ∧ bcost (bR (bX (eB (teD D t) t.2) i j)) (t.2 6) < a_cost (teD D t) t.2 ∧ ∀ i' j', 0 ≤ i' → i' < j' → j' < dN (teD D t) → bcost (bR (bX (eB (teD D t) t.2) i j)) (t.2 6) ≤ bcost (bR (bX (eB (teD D t) t.2) i' j')) (t.2 6)) := by
    rw [eb]
    rcases hbs with ⟨a, b⟩ | ⟨i, j, a, b, c, d, e⟩
    · refine Or.inl ⟨by rw [a], fun i j h1 h2 h3 => ?_⟩
      have := b i j ⟨h1, h2, h3⟩
      have p := (xc i j ⟨h1, by omega⟩ ⟨by omega, h3⟩).1
      rcases Int.lt_or_le (bcost (bR (bX (eB (teD D t) t.2) i j)) (t.2 6)) (a_cost (teD D t) t.2) with g | g
      · exact absurd ⟨p, g⟩ this
      · exact g
    · refine Or.inr ⟨i, j, a, by rw [b], d, fun i' j' h1 h2 h3 => ?_⟩
      exact e i' j' ⟨h1, h2, h3⟩ (xc i' j' ⟨h1, by omega⟩ ⟨by omega, h3⟩).1
  clear hbs eb
  have v6 : a_value (teD D t) t.2 6 = dC (teD D t) := rfl
  have v11 : a_value (teD D t) t.2 11 = dN (teD D t) := rfl
  generalize hcost : a_cost (teD D t) t.2 = cost at *
  generalize hbst : a_bestSwap (teD D t) t.2 = best at *
  generalize hsz : a_bestSize (teD D t) t.2 = size at *
  generalize hgp : a_bestGap (teD D t) t.2 = gap at *
  have main : ∀ (r : Nat) (rows inner : Int) (z2 : vZs) (S2 : lwS), (1 ≤ rows ∧ rows ≤ 4) → (0 < inner → (10 ≤ inner ∧ inner ≤ 9999) ∧ benough (bJ (eB (teD D t) t.2) inner) rows) → lB5 D t z2 o q S r (lTold (teD D t) t.2) (16000 + (16000 + x)) (100000 + (100000 + y)) S2 → lG lK_bests 60 [some (vm_r (o)), none, some (vm_r (r)), some (vm_i (size)), some (vm_i (gap)), some (vm_i (rows)), some (vm_i (inner)), some (vm_i (best)), some (vm_i (cost)), some (vm_i (1)), some (vm_i (9)), none] [] S2 Qp := by
    intro r rows inner z2 S2 hrows hin h2
    obtain ⟨X, hX⟩ : ∃ X, X = 16000 + (16000 + x) := ⟨_, rfl⟩
    obtain ⟨Y, hY⟩ : ∃ Y, Y = 100000 + (100000 + y) := ⟨_, rfl⟩
    rw [← hX, ← hY] at h2
    -- the end
    have f554 : ∀ (z3 : vZs) (S3 : lwS), lB5 D t z3 o q S r (lTold (teD D t) t.2) (16000 + x) (100000 + y) S3 → lG lK_bests 554 [some (vm_r (o)), none, some (vm_r (r)), none, none, none, none, none, none, some (vm_i (1)), none, none] [] S3 Qp := fun z3 S3 h3 => by
      refine rL_bests_554 ⟨fun c => absurd c (by decide), fun _ => h3.told htold (fun a S4 hA h4 => ⟨_, Or.inr hA, Or.inr h4.2.2.2.1, kk z3 S4 h4.1 h4.2.1 h4.2.2.1 h4.2.2.2.2⟩)⟩
    -- the exchanges of neighbours
    have f398 : ∀ (n : Nat) (i : Nat) (z3 : vZs) (S3 : lwS), i + n = 9 → lB5 D t z3 o q S r (lTold (teD D t) t.2) (16000 + x) (100000 + y) S3 → lG lK_bests 398 [some (vm_r (o)), none, some (vm_r (r)), none, none, none, none, some (vm_i (best)), some (vm_i (cost)), some (vm_i (1)), some (vm_i ((i : Int))), none] [] S3 Qp := by
      intro n
      induction n with
      | zero =>
        intro i z3 S3 hi h3
        refine rL_bests_398 ⟨⟨by omega, by omega⟩, lq_value h3.1 (fun S4 hs4 hO4 => ⟨fun _ => f554 z3 S4 (h3.nx hs4 hO4), fun c => absurd ?_ c⟩)⟩
        rw [v11]; omega
      | succ n ih =>
        intro i z3 S3 hi h3
        refine rL_bests_398 ⟨⟨by omega, by omega⟩, lq_value h3.1 (fun S4 hs4 hO4 => ⟨fun _ => f554 z3 S4 (h3.nx hs4 hO4), fun lt => ?_⟩)⟩
        rw [v11] at lt
        have hO4 : lT D t z3 o S4 := hO4
        have bi : (0 ≤ (i : Int) ∧ (i : Int) < dN (teD D t)) ∧ (0 ≤ (i : Int) + 1 ∧ (i : Int) + 1 < dN (teD D t)) ∧ (i : Int) ≠ (i : Int) + 1 := by omega
        obtain ⟨x1, x2, x3⟩ := xc (i : Int) ((i : Int) + 1) bi.1 bi.2.1
        have f548 : ∀ (z5 : vZs) (S5 : lwS), lB5 D t z5 o q S r (lTold (teD D t) t.2) (16000 + x) (100000 + y) S5 → lG lK_bests 548 [some (vm_r (o)), none, some (vm_r (r)), none, none, none, none, some (vm_i (best)), some (vm_i (cost)), some (vm_i (1)), some (vm_i ((i : Int))), none] [] S5 Qp := fun z5 S5 h5 => by
          refine rL_bests_548 ⟨⟨by omega, by omega⟩, ?_⟩
          have := ih (i + 1) z5 S5 (by omega) h5
          rwa [show ((i + 1 : Nat) : Int) = (i : Int) + 1 by omega] at this
        have f464 : ∀ (z5 : vZs) (S5 : lwS), lB5 D t z5 o q S r (lTold (teD D t) t.2) (16000 + x) (100000 + y) S5 → lG lK_bests 464 [some (vm_r (o)), none, some (vm_r (r)), none, none, none, none, some (vm_i (best)), some (vm_i (cost)), none, some (vm_i ((i : Int))), some (vm_i (bcost (bR (bX (eB (teD D t) t.2) (i : Int) ((i : Int) + 1))) (t.2 6)))] [vm_i 1] S5 Qp := fun z5 S5 h5 => by
          rcases hbest with ⟨b1, b2⟩ | ⟨bi, bj, b1, b2, b3, b4⟩
          · have := b2 (i : Int) ((i : Int) + 1) (by omega) (by omega) (by omega)
            exact rL_bests_464 ⟨fun _ => rL_bests_524 ⟨fun c => absurd c (by decide), fun _ => ⟨fun c => absurd c (by omega), fun _ => ⟨fun c => absurd c (by omega), fun _ => rL_bests_546 (f548 z5 S5 h5)⟩⟩⟩, fun c => absurd (by omega) c⟩
          · have := b4 (i : Int) ((i : Int) + 1) (by omega) (by omega) (by omega)
            obtain ⟨y1, y2, y3⟩ := xc bi bj ⟨by omega, by omega⟩ ⟨by omega, by omega⟩
            refine rL_bests_464 ⟨fun c => absurd c (by omega), fun _ => ⟨fun c => absurd c (by decide), fun _ => ⟨⟨by omega, by decide⟩, ⟨by omega, by decide⟩, ?_⟩⟩⟩
            rw [show best / 100 = bi by omega, show best % 100 = bj by omega]
            refine lt_swap h5.1 ⟨⟨by omega, by omega⟩, ⟨by omega, by omega⟩, by omega⟩ (fun rr S6 hr hs6 hT6 => ⟨fun c => absurd c (by omega), fun _ => ⟨fun c => absurd c (by omega), fun _ => lq_cost hT6 (fun S7 hs7 hO7 => ?_)⟩⟩)
            have hO7 : lT D (tS t bi bj) (zP z5 t) o S7 := hO7
            have y2 : a_cost (teD D (tS t bi bj)) (tS t bi bj).2 = _ := y2
            rw [y2]
            refine ⟨fun c => absurd c (by omega), fun _ => rL_bests_507 (lt_undo hO7 (lHl.nil.push h5.1.c8 (by decide) t) (fun ru S8 hu hs8 hT8 => ⟨fun c => absurd c (by omega), fun _ => rL_bests_519 (f548 (zU (zP z5 t)) S8 (((h5.nx hs6 hT6).nx hs7 hO7).nx hs8 hT8))⟩))⟩
        refine ⟨fun c => absurd c (by decide), fun _ => ⟨fun c => absurd c (by omega), fun _ => ⟨⟨by omega, by omega⟩, ?_⟩⟩⟩
        refine lt_swap hO4 bi (fun rr S5 hr hs5 hT5 => ⟨fun c => absurd c (by omega), fun _ => rL_bests_439 (lq_cost hT5 (fun S6 hs6 hO6 => ?_))⟩)
        have hO6 : lT D (tS t (i : Int) ((i : Int) + 1)) (zP z3 t) o S6 := hO6
        have x2 : a_cost (teD D (tS t (i : Int) ((i : Int) + 1))) (tS t (i : Int) ((i : Int) + 1)).2 = _ := x2
        rw [x2]
        exact ⟨fun c => absurd c (by decide), fun _ => lt_undo hO6 (lHl.nil.push h3.1.c8 (by decide) t) (fun ru S7 hu hs7 hT7 => ⟨fun c => absurd c (by omega), fun _ => f464 (zU (zP z3 t)) S7 ((((h3.nx hs4 hO4).nx hs5 hT5).nx hs6 hO6).nx hs7 hT7)⟩)⟩
    have f395 : ∀ (z3 : vZs) (S3 : lwS), lB5 D t z3 o q S r (lTold (teD D t) t.2) (16000 + x) (100000 + y) S3 → lG lK_bests 395 [some (vm_r (o)), none, some (vm_r (r)), none, none, none, none, some (vm_i (best)), some (vm_i (cost)), some (vm_i (1)), none, none] [] S3 Qp := fun z3 S3 h3 => rL_bests_395 (f398 9 0 z3 S3 (by decide) h3)
    have less : ∀ (z3 : vZs) (S3 : lwS), lB5 D t z3 o q S r (lTold (teD D t) t.2) X Y S3 → lB5 D t z3 o q S r (lTold (teD D t) t.2) (16000 + x) (100000 + y) S3 := fun z3 S3 h3 => by
      obtain ⟨g1, g2, g3, g4, g5, g6⟩ := h3
      rw [hX] at g5
      rw [hY] at g6
      exact ⟨g1, g2, g3, g4, Nat.le_trans (Nat.le_add_left _ _) g5, Nat.le_trans (Nat.le_add_left _ _) g6⟩
    -- the best exchange
    have f303 : ∀ (z3 : vZs) (S3 : lwS), lB5 D t z3 o q S r (lTold (teD D t) t.2) X Y S3 → lG lK_bests 303 [some (vm_r (o)), none, some (vm_r (r)), none, none, none, none, some (vm_i (best)), some (vm_i (cost)), some (vm_i (1)), none, none] [] S3 Qp := fun z3 S3 h3 => by
      rcases hbest with ⟨b1, b2⟩ | ⟨bi, bj, b1, b2, b3, b4⟩
      · exact rL_bests_303 ⟨fun _ => f395 z3 S3 (less z3 S3 h3), fun c => absurd (by omega) c⟩
      · obtain ⟨y1, y2, y3⟩ := xc bi bj ⟨by omega, by omega⟩ ⟨by omega, by omega⟩
        have y2 : a_cost (teD D (tS t bi bj)) (tS t bi bj).2 = _ := y2
        refine rL_bests_303 ⟨fun c => absurd c (by omega), fun _ => ⟨fun c => absurd c (by decide), fun _ => ⟨⟨by omega, by decide⟩, ⟨by omega, by decide⟩, ?_⟩⟩⟩
        rw [show best / 100 = bi by omega, show best % 100 = bj by omega]
        refine lt_swap h3.1 ⟨⟨by omega, by omega⟩, ⟨by omega, by omega⟩, by omega⟩ (fun rr S4 hr hs4 hT4 => ⟨fun c => absurd c (by omega), fun _ => lq_cost hT4 (fun S5 hs5 hO5 => ?_)⟩)
        have hO5 : lT D (tS t bi bj) (zP z3 t) o S5 := hO5
        rw [y2]
        refine ⟨fun c => absurd c (by omega), fun _ => lq_cost hO5 (fun S6 hs6 hO6 => ?_)⟩
        have hO6 : lT D (tS t bi bj) (zP z3 t) o S6 := hO6
        rw [y2]
        have h6 := ((h3.nx hs4 hT4).nx hs5 hO5).nx hs6 hO6
        refine ⟨fun c => absurd c (by omega), fun _ => ⟨⟨by omega, by decide⟩, ⟨by omega, by decide⟩, lt_swap hO6 ⟨⟨by omega, by show bj < dN (teD D t); omega⟩, ⟨by omega, by show bi < dN (teD D t); omega⟩, by omega⟩ (fun rr S7 hr7 hs7 hT7 => ⟨fun c => absurd c (by omega), fun _ => ?_⟩)⟩⟩
        rw [tS_2] at hT7
        have h7 := h6.nx hs7 hT7
        rw [hX, hY] at h7
        refine h7.told htold (fun a S8 hA h8 => ⟨_, Or.inr hA, Or.inr h8.2.2.2.1, ?_⟩)
        have l1 := lHl.nil.push h3.1.c8 (by decide) t
        have l2 := l1.push hT4.c8 (show 1 ≤ 7 by decide) (tS t bi bj)
        refine lt_undo h8.1 l2 (fun ru S9 hu hs9 hT9 => ⟨fun c => absurd c (by omega), fun _ => lt_undo hT9 l2.pop.2.2 (fun ru S10 hu hs10 hT10 => ⟨fun c => absurd c (by omega), fun _ => rL_bests_393 (f395 _ S10 ((h8.nx hs9 hT9).nx hs10 hT10))⟩)⟩)
    -- the least width
    have f210 : ∀ (z3 : vZs) (S3 : lwS), lB5 D t z3 o q S r (lTold (teD D t) t.2) X Y S3 → lG lK_bests 210 [some (vm_r (o)), none, some (vm_r (r)), none, none, some (vm_i (rows)), some (vm_i (inner)), some (vm_i (best)), some (vm_i (cost)), some (vm_i (1)), none, none] [] S3 Qp := fun z3 S3 h3 => by
      refine rL_bests_210 ⟨fun _ => f303 z3 S3 h3, fun pos => ⟨fun c => absurd c (by decide), fun _ => ?_⟩⟩
      obtain ⟨⟨i10, i99⟩, ⟨en, -⟩⟩ := hin (by omega)
      have hJ := bR_ok (bJ_ok hB ⟨i10, i99⟩)
      have gp := gcnt_pos hJ (show 0 < dN (teD D t) by omega)
      have f301 : ∀ (z4 : vZs) (S4 : lwS), lB5 D t z4 o q S r (lTold (teD D t) t.2) X Y S4 → lG lK_bests 301 [some (vm_r (o)), none, some (vm_r (r)), none, none, none, none, some (vm_i (best)), some (vm_i (cost)), none, none, none] [vm_i 1] S4 Qp := fun z4 S4 h4 => rL_bests_301 (f303 z4 S4 h4)
      -- the setting t2, with what undoes it
      have at12 : ∀ (t2 : vTE) (z4 : vZs) (broken had : Int) (S4 : lwS), t2.1 = t.1 → t2.2 6 = 0 → t2.2 0 = inner → t2.2 3 = t.2 3 → t2.2 4 = t.2 4 → t2.2 5 = t.2 5 → lB5 D t2 z4 o q S r (lTold (teD D t) t.2) X Y S4 → (∀ S5, lB5 D t2 z4 o q S r (lTold (teD D t) t.2) X Y S5 → lG lK_bests 261 [some (vm_r (o)), none, some (vm_r (r)), none, none, none, none, some (vm_i (best)), some (vm_i (cost)), none, some (vm_i (broken)), some (vm_i (had))] [vm_i 1] S5 Qp) → lNn 115 o [12] S4 (fun z6 S5 => (rows < z6 → (lG lK_bests 261 [some (vm_r (o)), none, some (vm_r (r)), none, none, none, none, some (vm_i (best)), some (vm_i (cost)), none, some (vm_i (broken)), some (vm_i (had))] [vm_i 0] S5 Qp)) ∧ (¬ (rows < z6) → (lNn 115 o [12] S5 (fun z8 S7 => (z8 ≤ 0 → (lG lK_bests 261 [some (vm_r (o)), none, some (vm_r (r)), none, none, none, none, some (vm_i (best)), some (vm_i (cost)), none, some (vm_i (broken)), some (vm_i (had))] [vm_i 0] S7 Qp)) ∧ (¬ (z8 ≤ 0) → (lG lK_bests 261 [some (vm_r (o)), none, some (vm_r (r)), none, none, none, none, some (vm_i (best)), some (vm_i (cost)), none, some (vm_i (broken)), some (vm_i (had))] [vm_i 1] S7 Qp)))))) := by
        intro t2 z4 broken had S4 k1 k6 k0 k3 k4 k5 h4 go
        have eq12 : a_value (teD D t2) t2.2 12 = (gcnt (bR (bJ (eB (teD D t) t.2) inner)) : Nat) := by
          show (eQ (teD D t2) t2.2 : Int) = _
          have eD : teD D t2 = teD D t := by unfold teD; rw [k1]
          have eb : eB (teD D t2) t2.2 = bJ (eB (teD D t) t.2) inner := by
            rw [eD]
            show (vww (teD D t) (t2.2 3), dN (teD D t), t2.2 4, t2.2 5, t2.2 0) = (vww (teD D t) (t.2 3), dN (teD D t), t.2 4, t.2 5, inner)
            rw [k0, k3, k4, k5]
          have g12 : gcnt (bR (bJ (eB (teD D t) t.2) inner)) ≤ 12 := by omega
          unfold eQ bQ
          rw [eb, k6, if_pos rfl, if_pos g12]
        refine lq_value h4.1 (fun S5 hs5 hO5 => ?_)
        rw [eq12]
        refine ⟨fun c => absurd c (by omega), fun _ => lq_value hO5 (fun S6 hs6 hO6 => ?_)⟩
        have eq12 : a_value (teD D t2) t2.2 12 = (gcnt (bR (bJ (eB (teD D t) t.2) inner)) : Nat) := eq12
        rw [eq12]
        exact ⟨fun c => absurd c (by omega), fun _ => go S6 ((h4.nx hs5 hO5).nx hs6 hO6)⟩
      refine lt_setBreak h3.1 (Or.inl rfl) (fun k6 S4 hs4 hT4 => ?_) (fun k6 S4 hs4 hT4 => ?_)
      · refine lt_setNumber hT4 ⟨by decide, Or.inl ⟨rfl, i10, i99⟩⟩ (fun k0 S5 hs5 hT5 => ?_) (fun k0 S5 hs5 hT5 => ?_)
        · refine at12 t z3 (-2) (-2) S5 rfl k6 k0 rfl rfl rfl ((h3.nx hs4 hT4).nx hs5 hT5) (fun S6 h6 => ?_)
          exact rL_bests_261 ⟨fun c => absurd c (by decide), fun _ => ⟨fun _ => rL_bests_282 ⟨fun _ => f301 z3 S6 h6, fun c => absurd rfl c⟩, fun c => absurd rfl c⟩⟩
        · refine at12 (tE t 0 inner) (zP z3 t) (-2) (t.2 0) S5 rfl k6 rfl rfl rfl rfl ((h3.nx hs4 hT4).nx hs5 hT5) (fun S6 h6 => ?_)
          exact rL_bests_261 ⟨fun c => absurd c (by decide), fun _ => ⟨fun c => absurd c (by omega), fun _ => lt_undo h6.1 (lHl.nil.push h3.1.c8 (by decide) t) (fun ru S7 hu hs7 hT7 => ⟨fun c => absurd c (by omega), fun _ => rL_bests_282 ⟨fun _ => f301 _ S7 (h6.nx hs7 hT7), fun c => absurd rfl c⟩⟩)⟩⟩
      · have e60 : ¬ t.2 6 = -2 := by omega
        refine lt_setNumber hT4 ⟨by decide, Or.inl ⟨rfl, i10, i99⟩⟩ (fun k0 S5 hs5 hT5 => ?_) (fun k0 S5 hs5 hT5 => ?_)
        · refine at12 (tE t 6 0) (zP z3 t) (t.2 6) (-2) S5 rfl rfl k0 rfl rfl rfl ((h3.nx hs4 hT4).nx hs5 hT5) (fun S6 h6 => ?_)
          exact rL_bests_261 ⟨fun c => absurd c (by decide), fun _ => ⟨fun _ => rL_bests_282 ⟨fun c => absurd c e60, fun _ => lt_undo h6.1 (lHl.nil.push h3.1.c8 (by decide) t) (fun ru S7 hu hs7 hT7 => ⟨fun c => absurd c (by omega), fun _ => f301 _ S7 (h6.nx hs7 hT7)⟩)⟩, fun c => absurd rfl c⟩⟩
        · have l1 := lHl.nil.push h3.1.c8 (by decide) t
          have l2 := l1.push hT4.c8 (show 1 ≤ 7 by decide) (tE t 6 0)
          have e00 : ¬ (tE t 6 0).2 0 = -2 := by show ¬ t.2 0 = -2; omega
          refine at12 (tE (tE t 6 0) 0 inner) (zP (zP z3 t) (tE t 6 0)) (t.2 6) ((tE t 6 0).2 0) S5 rfl rfl rfl rfl rfl rfl ((h3.nx hs4 hT4).nx hs5 hT5) (fun S6 h6 => ?_)
          exact rL_bests_261 ⟨fun c => absurd c (by decide), fun _ => ⟨fun c => absurd c e00, fun _ => lt_undo h6.1 l2 (fun ru S7 hu hs7 hT7 => ⟨fun c => absurd c (by omega), fun _ => rL_bests_282 ⟨fun c => absurd c e60, fun _ => lt_undo hT7 l2.pop.2.2 (fun ru S8 hu8 hs8 hT8 => ⟨fun c => absurd c (by omega), fun _ => f301 _ S8 ((h6.nx hs7 hT7).nx hs8 hT8)⟩)⟩⟩)⟩⟩
    -- the best gap
    have gsz : gap = ygr (fun v => fitU (teD D t) (eU t.2 3 v)) (dC (teD D t) - 0 + 1).toNat (dC (teD D t)) := hgp.symm
    have f138 : ∀ (n : Nat) (v : Int) (z3 : vZs) (S3 : lwS), v + 1 = n → v ≤ dC (teD D t) → lB5 D t z3 o q S r (lTold (teD D t) t.2) X Y S3 → lG lK_bests 138 [some (vm_r (o)), none, some (vm_r (r)), none, some (vm_i (gap)), some (vm_i (rows)), some (vm_i (inner)), some (vm_i (best)), some (vm_i (cost)), some (vm_i (1)), some (vm_i (v)), none] [] S3 Qp := by
      intro n
      induction n with
      | zero =>
        intro v z3 S3 hv hv9 h3
        exact rL_bests_138 ⟨fun _ => f210 z3 S3 h3, fun c => absurd (by omega) c⟩
      | succ n ih =>
        intro v z3 S3 hv hv9 h3
        have f202 : ∀ (z4 : vZs) (S4 : lwS), lB5 D t z4 o q S r (lTold (teD D t) t.2) X Y S4 → lG lK_bests 202 [some (vm_r (o)), none, some (vm_r (r)), none, some (vm_i (gap)), some (vm_i (rows)), some (vm_i (inner)), some (vm_i (best)), some (vm_i (cost)), none, some (vm_i (v)), none] [vm_i 1] S4 Qp := fun z4 S4 h4 => rL_bests_202 ⟨⟨by omega, by omega⟩, ih (v + (-1)) z4 S4 (by omega) (by omega) h4⟩
        refine rL_bests_138 ⟨fun c => absurd c (by omega), fun _ => ⟨fun _ => f210 z3 S3 h3, fun ge => ⟨fun c => absurd c (by decide), fun _ => ?_⟩⟩⟩
        have ge : gap ≤ v := by omega
        have hiff : fitU (teD D t) (eU t.2 3 v) ↔ v = gap := by
          rw [gsz] at ge ⊢
          exact ygr_iff (P := fun v => fitU (teD D t) (eU t.2 3 v)) (by omega) ge (by omega) hv9
        have af : ∀ (t2 : vTE), t2.1 = t.1 → t2.2 = eU t.2 3 v → a_fits (teD D t2) t2.2 = (if v = gap then 1 else 0) := fun t2 k1 k2 => by
          have eD : teD D t2 = teD D t := by unfold teD; rw [k1]
          rw [eD, k2]
          show vif (fitU (teD D t) (eU t.2 3 v)) (1 : Int) 0 = _
          by_cases g : v = gap
          · rw [vif_t (hiff.mpr g), if_pos g]
          · rw [vif_f (fun c => g (hiff.mp c)), if_neg g]
        refine lt_setNumber h3.1 ⟨by decide, Or.inr (Or.inr (Or.inr (Or.inl ⟨rfl, by omega, hv9⟩)))⟩ (fun k S4 hs4 hT4 => lq_fits hT4 (fun S5 hs5 hO5 => ?_)) (fun k S4 hs4 hT4 => lq_fits hT4 (fun S5 hs5 hO5 => ?_))
        · have hO5 : lT D t z3 o S5 := hO5
          rw [af t rfl (eU_id k).symm]
          have h5 := (h3.nx hs4 hT4).nx hs5 hO5
          refine ⟨fun ne => ?_, fun e => ?_⟩
          · rw [if_neg ne]
            exact rL_bests_180 ⟨fun c => absurd rfl c, fun _ => ⟨fun _ => f202 z3 S5 h5, fun c => absurd rfl c⟩⟩
          · rw [if_pos (by omega)]
            exact rL_bests_180 ⟨fun c => absurd rfl c, fun _ => ⟨fun _ => f202 z3 S5 h5, fun c => absurd rfl c⟩⟩
        · have hO5 : lT D (tE t 3 v) (zP z3 t) o S5 := hO5
          rw [af (tE t 3 v) rfl rfl]
          have h5 := (h3.nx hs4 hT4).nx hs5 hO5
          have un : lNn 113 o [] S5 (fun z2 S1 => (z2 < 0 → (lG lK_bests 202 [some (vm_r (o)), none, some (vm_r (r)), none, some (vm_i (gap)), some (vm_i (rows)), some (vm_i (inner)), some (vm_i (best)), some (vm_i (cost)), none, some (vm_i (v)), none] [vm_i 0] S1 Qp)) ∧ (¬ (z2 < 0) → (lG lK_bests 202 [some (vm_r (o)), none, some (vm_r (r)), none, some (vm_i (gap)), some (vm_i (rows)), some (vm_i (inner)), some (vm_i (best)), some (vm_i (cost)), none, some (vm_i (v)), none] [vm_i 1] S1 Qp))) := lt_undo h5.1 (lHl.nil.push h3.1.c8 (by decide) t) (fun ru S6 hu hs6 hT6 => ⟨fun c => absurd c (by omega), fun _ => f202 _ S6 (h5.nx hs6 hT6)⟩)
          refine ⟨fun ne => ?_, fun e => ?_⟩
          · rw [if_neg ne]
            exact rL_bests_180 ⟨fun c => absurd rfl c, fun _ => ⟨fun c => absurd c (by omega), fun _ => un⟩⟩
          · rw [if_pos (by omega)]
            exact rL_bests_180 ⟨fun c => absurd rfl c, fun _ => ⟨fun c => absurd c (by omega), fun _ => un⟩⟩
    have f130 : ∀ (z3 : vZs) (S3 : lwS), lB5 D t z3 o q S r (lTold (teD D t) t.2) X Y S3 → lG lK_bests 130 [some (vm_r (o)), none, some (vm_r (r)), none, some (vm_i (gap)), some (vm_i (rows)), some (vm_i (inner)), some (vm_i (best)), some (vm_i (cost)), some (vm_i (1)), none, none] [] S3 Qp := fun z3 S3 h3 => by
      refine rL_bests_130 (lq_value h3.1 (fun S4 hs4 hO4 => ?_))
      rw [v6]
      exact f138 (dC (teD D t) + 1).toNat (dC (teD D t)) z3 S4 (by omega) (Int.le_refl _) (h3.nx hs4 hO4)
    -- the best size
    have ssz : size = ygr (fun v => fitU (teD D t) (eU t.2 5 v)) (9 - 1 + 1 : Int).toNat 9 := hsz.symm
    have f60 : ∀ (n : Nat) (v : Int) (z3 : vZs) (S3 : lwS), v = n → v ≤ 9 → lB5 D t z3 o q S r (lTold (teD D t) t.2) X Y S3 → lG lK_bests 60 [some (vm_r (o)), none, some (vm_r (r)), some (vm_i (size)), some (vm_i (gap)), some (vm_i (rows)), some (vm_i (inner)), some (vm_i (best)), some (vm_i (cost)), some (vm_i (1)), some (vm_i (v)), none] [] S3 Qp := by
      intro n
      induction n with
      | zero =>
        intro v z3 S3 hv hv9 h3
        exact rL_bests_60 ⟨fun _ => f130 z3 S3 h3, fun c => absurd (by omega) c⟩
      | succ n ih =>
        intro v z3 S3 hv hv9 h3
        have f122 : ∀ (z4 : vZs) (S4 : lwS), lB5 D t z4 o q S r (lTold (teD D t) t.2) X Y S4 → lG lK_bests 122 [some (vm_r (o)), none, some (vm_r (r)), some (vm_i (size)), some (vm_i (gap)), some (vm_i (rows)), some (vm_i (inner)), some (vm_i (best)), some (vm_i (cost)), none, some (vm_i (v)), none] [vm_i 1] S4 Qp := fun z4 S4 h4 => rL_bests_122 ⟨⟨by omega, by omega⟩, ih (v + (-1)) z4 S4 (by omega) (by omega) h4⟩
        refine rL_bests_60 ⟨fun c => absurd c (by omega), fun _ => ⟨fun _ => f130 z3 S3 h3, fun ge => ⟨fun c => absurd c (by decide), fun _ => ?_⟩⟩⟩
        have ge : size ≤ v := by omega
        have hiff : fitU (teD D t) (eU t.2 5 v) ↔ v = size := by
          rw [ssz] at ge ⊢
          exact ygr_iff (P := fun v => fitU (teD D t) (eU t.2 5 v)) (by decide) ge (by show (9 : Int) - 9 < v; omega) hv9
        have af : ∀ (t2 : vTE), t2.1 = t.1 → t2.2 = eU t.2 5 v → a_fits (teD D t2) t2.2 = (if v = size then 1 else 0) := fun t2 k1 k2 => by
          have eD : teD D t2 = teD D t := by unfold teD; rw [k1]
          rw [eD, k2]
          show vif (fitU (teD D t) (eU t.2 5 v)) (1 : Int) 0 = _
          by_cases g : v = size
          · rw [vif_t (hiff.mpr g), if_pos g]
          · rw [vif_f (fun c => g (hiff.mp c)), if_neg g]
        refine lt_setNumber h3.1 ⟨by decide, Or.inr (Or.inr (Or.inr (Or.inr (Or.inr (Or.inl ⟨rfl, by omega, hv9⟩)))))⟩ (fun k S4 hs4 hT4 => lq_fits hT4 (fun S5 hs5 hO5 => ?_)) (fun k S4 hs4 hT4 => lq_fits hT4 (fun S5 hs5 hO5 => ?_))
        · have hO5 : lT D t z3 o S5 := hO5
          rw [af t rfl (eU_id k).symm]
          have h5 := (h3.nx hs4 hT4).nx hs5 hO5
          refine ⟨fun ne => ?_, fun e => ?_⟩
          · rw [if_neg ne]
            exact rL_bests_100 ⟨fun c => absurd rfl c, fun _ => ⟨fun _ => f122 z3 S5 h5, fun c => absurd rfl c⟩⟩
          · rw [if_pos (by omega)]
            exact rL_bests_100 ⟨fun c => absurd rfl c, fun _ => ⟨fun _ => f122 z3 S5 h5, fun c => absurd rfl c⟩⟩
        · have hO5 : lT D (tE t 5 v) (zP z3 t) o S5 := hO5
          rw [af (tE t 5 v) rfl rfl]
          have h5 := (h3.nx hs4 hT4).nx hs5 hO5
          have un : lNn 113 o [] S5 (fun z2 S1 => (z2 < 0 → (lG lK_bests 122 [some (vm_r (o)), none, some (vm_r (r)), some (vm_i (size)), some (vm_i (gap)), some (vm_i (rows)), some (vm_i (inner)), some (vm_i (best)), some (vm_i (cost)), none, some (vm_i (v)), none] [vm_i 0] S1 Qp)) ∧ (¬ (z2 < 0) → (lG lK_bests 122 [some (vm_r (o)), none, some (vm_r (r)), some (vm_i (size)), some (vm_i (gap)), some (vm_i (rows)), some (vm_i (inner)), some (vm_i (best)), some (vm_i (cost)), none, some (vm_i (v)), none] [vm_i 1] S1 Qp))) := lt_undo h5.1 (lHl.nil.push h3.1.c8 (by decide) t) (fun ru S6 hu hs6 hT6 => ⟨fun c => absurd c (by omega), fun _ => f122 _ S6 (h5.nx hs6 hT6)⟩)
          refine ⟨fun ne => ?_, fun e => ?_⟩
          · rw [if_neg ne]
            exact rL_bests_100 ⟨fun c => absurd rfl c, fun _ => ⟨fun c => absurd c (by omega), fun _ => un⟩⟩
          · rw [if_pos (by omega)]
            exact rL_bests_100 ⟨fun c => absurd rfl c, fun _ => ⟨fun c => absurd c (by omega), fun _ => un⟩⟩
    exact f60 9 9 z2 S2 rfl (Int.le_refl _) h2
  -- the beginning
  refine rL_bests_0 (ln_told hT htold hb (fun a S1 ha hn hA hT1 hk1 hc1 => ?_))
  have hT1 : lT D t z o S1 := hT1
  have h1 : lB5 D t z o q S a (lTold (teD D t) t.2) (16000 + (16000 + (16000 + x))) (100000 + (100000 + (100000 + y))) S1 := ⟨hT1, hQ.kp hk1 (lOQ hT hQ).symm, hk1.ko, hA, hc1⟩
  refine lq_bestSize hT1 (fun S2 hs2 hO2 => lq_bestGap hO2 (fun S3 hs3 hO3 => ?_))
  have h3 := (h1.nx (t' := t) (z' := z) hs2 hO2).nx (t' := t) (z' := z) hs3 hO3
  have nqa : a ≠ q := fun e => by
    obtain ⟨l, h9, -⟩ := hQ
    rw [e, h9] at hn
    cases hn
  refine ln_draw h3.2.1 (fun d S4 hd hs4 hQ4 => ?_)
  have hO4 : lT D t z o S4 := hO3.q h3.2.1 hs4.fr
  have h4 : lB5 D t z o q S a (lTold (teD D t) t.2) (16000 + (16000 + (16000 + x))) (100000 + (100000 + (100000 + y))) S4 := ⟨hO4, hQ4, h3.2.2.1.tr hs4.kq, by rw [hs4.1 a nqa]; exact h3.2.2.2.1, by rw [hs4.2]; exact h3.2.2.2.2⟩
  have m0 := Int.emod_nonneg d (show (4 : Int) ≠ 0 by decide)
  have m1 := Int.emod_lt_of_pos d (show (0 : Int) < 4 by decide)
  rw [hsz, hgp]
  refine ⟨⟨hd.1, by decide⟩, ⟨by omega, by omega⟩, lq_leastInner hO4 (fun inner hin S5 hs5 hO5 => lq_bestSwap hO5 (fun S6 hs6 hO6 => lq_cost hO6 (fun S7 hs7 hO7 => ?_)))⟩
  have hO5 : lT D t z o S5 := hO5
  have hO6 : lT D t z o S6 := hO6
  have hO7 : lT D t z o S7 := hO7
  rw [hbst, hcost]
  refine (((h4.nx hs5 hO5).nx hs6 hO6).nx hs7 hO7).told htold (fun a2 S8 hA2 h8 => ⟨_, Or.inr hA2, Or.inr h8.2.2.2.1, main a (1 + d % 4) inner z S8 ⟨by omega, by omega⟩ (fun pos => ?_) h8⟩)
  have hh := hin.2.2 ⟨by omega, by omega⟩ (by omega)
  by_cases g : benough (bJ (eB (teD D t) t.2) 9999) (1 + d % 4)
  · have := hh.2 g
    exact ⟨⟨this.1, this.2.1⟩, this.2.2.1⟩
  · have := hh.1 g
    omega
end LBT
