/-! ===== what stands in the rows: a row's letters ===== -/
section LSL
variable {D : vD} {E : Int → Int} {z : vZs} {o : Nat} {S : lwS} {Qp : Option vm_V → lwS → Prop}
theorem lst_row (hO : OC D E) {r : Nat} (hr : r < eQ D E) : 0 ≤ eF D E r ∧ eF D E r < eF D E (r + 1) ∧ eF D E (r + 1) ≤ dN D ∧ r < 12 := by
  have q := eQ_ok hO.1 hO.2.1 hO.2.2
  have := q.2.2.2.1 r hr
  omega
/-- behind a row's letters -/
theorem lst_behind {r : Nat} (hr : r < eQ D E) {S2 : lwS} (h2 : lS1 D E z o S S2) {v : Int} (nxt : ∀ S3, lS1 D E z o S S3 → lG lK_stands 59 [some (vm_r (o)), some (vm_i ((eQ D E : Nat))), some (vm_i (eF D E (r + 1))), some (vm_i (lht E (r + 1))), none, some (vm_i (v)), some (vm_i (1)), some (vm_l (lco D E (r + 1))), none, some (vm_d (FP.i2d (Int32.ofInt (vs (yms D E) (r + 1))))), none, some (vm_i (vs (ymn D E) (r + 1))), some (vm_i ((r : Int) + 1)), none, none, none, none, none, none, none, none, none, none, none] [] S3 Qp) : lG lK_stands 794 [some (vm_r (o)), some (vm_i ((eQ D E : Nat))), some (vm_i (eF D E r)), some (vm_i (lht E r)), none, some (vm_i (v)), some (vm_i (1)), some (vm_l (lco D E (r + 1))), none, some (vm_d (FP.i2d (Int32.ofInt (vs (yms D E) (r + 1))))), none, some (vm_i (vs (ymn D E) (r + 1))), some (vm_i ((r : Int))), some (vm_i (eF D E (r + 1) - eF D E r)), none, none, none, none, some (vm_i (lyl D E (eF D E r) (eF D E (r + 1)) (vcl D (eF D E r) (eF D E (r + 1))).toNat)), some (vm_i (lyg D E (eF D E r) (eF D E (r + 1)) (vcl D (eF D E r) (eF D E (r + 1))).toNat)), none, none, none, none] [] S2 Qp := by
  have hOC := h2.1.1
  obtain ⟨hD, hS, hE⟩ := hOC
  have hOC := h2.1.1
  obtain ⟨f0, ft, tN, r12⟩ := lst_row hOC hr
  have hN := hS.2.2.1
  have cb := vcl_bd2 hS f0 (show eF D E r ≤ eF D E (r + 1) by omega) tN
  have a2 : a_row D E (r : Int) 2 = vcl D (eF D E r) (eF D E (r + 1)) := ar hr 2
  have e5 : a_value D E 5 = E 5 := rfl
  have e2 : a_value D E 2 = E 2 := rfl
  have b5 := hE.2.2.2.2.2.1
  have b2 := hE.2.2.1
  have lb := lht_bd hE (r := r) (by omega)
  have yb := lyg_bd (E := E) hD (f := eF D E r) (t := eF D E (r + 1)) (vcl D (eF D E r) (eF D E (r + 1))).toNat
  have au : a_uneven D E (r : Int) = if (yun D E (eF D E r) (eF D E (r + 1)) (vcl D (eF D E r) (eF D E (r + 1))).toNat).1 = -2 then -2 else (yun D E (eF D E r) (eF D E (r + 1)) (vcl D (eF D E r) (eF D E (r + 1))).toNat).2 - (yun D E (eF D E r) (eF D E (r + 1)) (vcl D (eF D E r) (eF D E (r + 1))).toNat).1 := by
    unfold a_uneven
    rw [vif_t ⟨by omega, by omega⟩]
    unfold yf yt
    rw [Int.toNat_natCast]
  have al : a_letterAt D E (r : Int) (vcl D (eF D E r) (eF D E (r + 1))) = -2 := by
    unfold a_letterAt
    rw [vif_t ⟨⟨by omega, by omega⟩, by omega⟩]
    unfold yf yt
    rw [Int.toNat_natCast, if_neg (by omega)]
  have f846 : ∀ S3, lS1 D E z o S S3 → lG lK_stands 846 [some (vm_r (o)), some (vm_i ((eQ D E : Nat))), some (vm_i (eF D E r)), some (vm_i (lht E r)), none, some (vm_i (v)), none, some (vm_l (lco D E (r + 1))), none, some (vm_d (FP.i2d (Int32.ofInt (vs (yms D E) (r + 1))))), none, some (vm_i (vs (ymn D E) (r + 1))), some (vm_i ((r : Int))), some (vm_i (eF D E (r + 1) - eF D E r)), none, none, none, none, none, none, none, none, none, none] [vm_i 1] S3 Qp := fun S3 h3 => by
    have es := lht_s E r
    refine rL_stands_846 ⟨⟨by omega, by omega⟩, lq_value h3.1 (fun S4 hs4 hO4 => ?_)⟩
    rw [e5, show eF D E r + (eF D E (r + 1) - eF D E r) = eF D E (r + 1) by omega]
    refine ⟨⟨by omega, by omega⟩, fun c => rL_stands_876 ⟨⟨by omega, by omega⟩, ⟨by omega, by omega⟩, ⟨by omega, by omega⟩, ?_⟩, fun c => lq_value hO4 (fun S5 hs5 hO5 => rL_stands_876 ?_)⟩
    · rw [if_pos (by omega)] at es
      rw [← es]
      exact nxt S4 (h3.nx hs4 hO4)
    · rw [if_neg (by omega)] at es
      rw [e2]
      refine ⟨⟨by omega, by omega⟩, ⟨by omega, by omega⟩, ⟨by omega, by omega⟩, ?_⟩
      rw [← es]
      exact nxt S5 ((h3.nx hs4 hO4).nx hs5 hO5)
  have f820 : ∀ S3 (x : Int), x = a_uneven D E (r : Int) → lS1 D E z o S S3 → lG lK_stands 820 [some (vm_r (o)), some (vm_i ((eQ D E : Nat))), some (vm_i (eF D E r)), some (vm_i (lht E r)), none, some (vm_i (v)), none, some (vm_l (lco D E (r + 1))), none, some (vm_d (FP.i2d (Int32.ofInt (vs (yms D E) (r + 1))))), none, some (vm_i (vs (ymn D E) (r + 1))), some (vm_i ((r : Int))), some (vm_i (eF D E (r + 1) - eF D E r)), none, none, none, none, none, none, none, none, none, none] [vm_i x, vm_i (a_uneven D E (r : Int))] S3 Qp := fun S3 x hx h3 => by
    refine rL_stands_820 ⟨fun c => absurd hx.symm c, fun _ => lq_row h3.1 (fun S4 hs4 hO4 => ?_)⟩
    rw [a2]
    refine lq_letterAt ⟨by omega, by omega⟩ hO4 (fun S5 hs5 hO5 => ?_)
    rw [al]
    exact ⟨fun c => absurd rfl c, fun _ => f846 S5 ((h3.nx hs4 hO4).nx hs5 hO5)⟩
  refine rL_stands_794 ⟨fun c => absurd c (by decide), fun _ => lq_uneven h2.1 (fun S3 hs3 hO3 => ⟨fun c => ⟨⟨by omega, by omega⟩, f820 S3 _ ?_ (h2.nx hs3 hO3)⟩, fun c => f820 S3 _ ?_ (h2.nx hs3 hO3)⟩)⟩
  · rw [au, if_neg (fun x => by have := yb.2.2.1.mpr x; omega)]
    exact yb.2.2.2 c
  · rw [au, if_pos (yb.2.2.1.mp (by omega))]
theorem lst_letters {r : Nat} (hr : r < eQ D E) {S2 : lwS} (h2 : lS1 D E z o S S2) {v : Int} (nxt : ∀ S3, lS1 D E z o S S3 → lG lK_stands 59 [some (vm_r (o)), some (vm_i ((eQ D E : Nat))), some (vm_i (eF D E (r + 1))), some (vm_i (lht E (r + 1))), none, some (vm_i (v)), some (vm_i (1)), some (vm_l (lco D E (r + 1))), none, some (vm_d (FP.i2d (Int32.ofInt (vs (yms D E) (r + 1))))), none, some (vm_i (vs (ymn D E) (r + 1))), some (vm_i ((r : Int) + 1)), none, none, none, none, none, none, none, none, none, none, none] [] S3 Qp) : lG lK_stands 596 [some (vm_r (o)), some (vm_i ((eQ D E : Nat))), some (vm_i (eF D E r)), some (vm_i (lht E r)), none, some (vm_i (v)), some (vm_i (1)), some (vm_l (lco D E (r + 1))), none, some (vm_d (FP.i2d (Int32.ofInt (vs (yms D E) r)))), none, some (vm_i (vs (ymn D E) r)), some (vm_i ((r : Int))), some (vm_i (eF D E (r + 1) - eF D E r)), some (vm_i (yG D E (eF D E r) (eF D E (r + 1)))), none, none, none, none, none, none, none, none, none] [] S2 Qp := by
  have hOC := h2.1.1
  obtain ⟨hD, hS, hE⟩ := hOC
  have hOC := h2.1.1
  obtain ⟨f0, ft, tN, r12⟩ := lst_row hOC hr
  have hN := hS.2.2.1
  have cb := vcl_bd2 hS f0 (show eF D E r ≤ eF D E (r + 1) by omega) tN
  have a2 : a_row D E (r : Int) 2 = vcl D (eF D E r) (eF D E (r + 1)) := ar hr 2
  have e5 : a_value D E 5 = E 5 := rfl
  have e10 : a_value D E 10 = vs (vnz D) 676 := rfl
  have b5 := hE.2.2.2.2.2.1
  have gb := yG_bd hD hE (f := eF D E r) (t := eF D E (r + 1))
  have g0 := hE.2.2.2.1
  have mt := ymt_bd hOC (show r ≤ eQ D E by omega)
  have bh := fun S3 h3 => lst_behind (S := S) (Qp := Qp) (z := z) (o := o) hr (S2 := S3) h3 nxt
  have es : vs (yms D E) (r + 1) = vs (yms D E) r + vs (ymz D E (eF D E r) (eF D E (r + 1))) (vcl D (eF D E r) (eF D E (r + 1))).toNat := by
    show vs (yms D E) r + yms D E (r : Int) = _
    unfold yms
    rw [Int.toNat_natCast]
  have en : vs (ymn D E) (r + 1) = vs (ymn D E) r + vs (ymc D (eF D E r) (eF D E (r + 1))) (vcl D (eF D E r) (eF D E (r + 1))).toNat := by
    show vs (ymn D E) r + ymn D E (r : Int) = _
    unfold ymn
    rw [Int.toNat_natCast]
  have kl : ∀ i : Int, 0 ≤ i → a_letterAt D E (r : Int) i = if i < vcl D (eF D E r) (eF D E (r + 1)) then ya D (eF D E r) i else -2 := fun i i0 => by
    unfold a_letterAt
    rw [vif_t ⟨⟨by omega, by omega⟩, i0⟩]
    unfold yf yt
    rw [Int.toNat_natCast]
  have kg : ∀ i : Int, 0 ≤ i → a_gap D E (r : Int) i = ygi D E (eF D E r) (eF D E (r + 1)) i := fun i i0 => by
    unfold a_gap
    rw [vif_t ⟨⟨by omega, by omega⟩, i0⟩]
    unfold yf yt
    rw [Int.toNat_natCast]
  have kp : ∀ i : Int, 0 ≤ i → a_place D E (r : Int) i = if i < vcl D (eF D E r) (eF D E (r + 1)) then ypl D E (eF D E r) (eF D E (r + 1)) i + 1000 else -2 := fun i i0 => by
    unfold a_place
    rw [vif_t ⟨⟨by omega, by omega⟩, i0⟩]
    unfold yf yt
    rw [Int.toNat_natCast]
  have zb := fun n : Nat => vs_bd (f := ymz D E (eF D E r) (eF D E (r + 1))) (lo := 0) (hi := 30) n (fun i _ _ => ymz_bd hD)
  have cb2 := fun n : Nat => vs_bd (f := ymc D (eF D E r) (eF D E (r + 1))) (lo := 0) (hi := 1) n (fun i _ _ => ymc_bd)
  generalize hf : eF D E r = f at *
  generalize ht : eF D E (r + 1) = t at *
  have loop : ∀ (n i : Nat) (S3 : lwS), (i : Int) + n = vcl D f t → lS1 D E z o S S3 → lG lK_stands 607 [some (vm_r (o)), some (vm_i ((eQ D E : Nat))), some (vm_i (f)), some (vm_i (lht E r)), none, some (vm_i (v)), some (vm_i (1)), some (vm_l (lco D E (r + 1))), none, some (vm_d (FP.i2d (Int32.ofInt (vs (yms D E) r + vs (ymz D E f t) i)))), none, some (vm_i (vs (ymn D E) r + vs (ymc D f t) i)), some (vm_i ((r : Int))), some (vm_i (t - f)), some (vm_i (yG D E f t)), none, none, none, some (vm_i (lyl D E f t i)), some (vm_i (lyg D E f t i)), some (vm_i ((i : Int))), none, none, none] [] S3 Qp := by
    intro n
    induction n with
    | zero =>
      intro i S3 hi h3
      have ei : (vcl D f t).toNat = i := by omega
      refine rL_stands_607 (lq_row h3.1 (fun S4 hs4 hO4 => ?_))
      rw [a2]
      refine ⟨fun _ => ?_, fun c => absurd (by omega) c⟩
      have := bh S4 (h3.nx hs4 hO4)
      rw [ei] at this es en
      rw [es, en] at this
      exact this
    | succ n ih =>
      intro i S3 hi h3
      have b1 := zb i
      have b2 := cb2 i
      have ei : ((i + 1 : Nat) : Int) = (i : Int) + 1 := by omega
      refine rL_stands_607 (lq_row h3.1 (fun S4 hs4 hO4 => ?_))
      rw [a2]
      refine ⟨fun c => absurd c (by omega), fun _ => ⟨fun c => absurd c (by decide), fun _ => lq_letterAt ⟨by omega, by omega⟩ hO4 (fun S5 hs5 hO5 => lq_gap ⟨by omega, by omega⟩ hO5 (fun S6 hs6 hO6 => ?_))⟩⟩
      have h6 := ((h3.nx hs4 hO4).nx hs5 hO5).nx hs6 hO6
      rw [kg _ (by omega), kl _ (by omega), if_pos (by omega)]
      have ez : vs (ymz D E f t) (i + 1) = vs (ymz D E f t) i + ymz D E f t i := rfl
      have ec : vs (ymc D f t) (i + 1) = vs (ymc D f t) i + ymc D f t i := rfl
      by_cases hy : yn D f t i
      · have eg : ygi D E f t i = ygp D E f t i := by unfold ygi; rw [vif_t hy]
        have egz : ymz D E f t i = ygp D E f t i := by unfold ymz; rw [vif_t hy]
        have egc : ymc D f t i = 1 := by unfold ymc; rw [vif_t hy]
        have pb := ygp_bd (D := D) (E := E) hD (f := f) (t := t) (i := (i : Int))
        have nx := vlc_next hS f0 ft tN (show (0 : Int) ≤ i by omega) hy
        have kan := ya_next hS f0 ft tN (show (0 : Int) ≤ i by omega) hy
        have ka := ya_ok hS f0 ft tN (show (0 : Int) ≤ i by omega) hy.1
        have kb := yb_ok hS f0 ft tN (show (0 : Int) ≤ i by omega) hy
        have db := ydi_bd hD hS hE f0 ft tN (show (0 : Int) ≤ i by omega) hy
        have ed : a_distance D E (ya D f i) (yb D f i) (yG D E f t) = ydi D E f t i + 9 := by
          unfold a_distance
          rw [vif_t ⟨ka, kb, by omega, gb.2⟩, ydi_is]
        have eo : a_gapAt D E (ya D f i) (yb D f i) (ydi D E f t i) = ygp D E f t i := by
          unfold a_gapAt
          rw [vif_t ⟨ka, kb, by omega, by omega⟩]
          rfl
        have el : a_letter D E (ya D f i) 0 = dW D (ya D f i) := by
          unfold a_letter
          rw [vif_t ka, if_pos rfl]
        have wb := hD.2.2.1 _ ka.1 ka.2.1
        have pn := ypl_next (E := E) hS f0 ft tN (show (0 : Int) ≤ i by omega) hy
        have pb1 := ypl_bd hD hS hE f0 ft tN (show (0 : Int) ≤ i by omega) hy.1
        have pb2 := ypl_bd hD hS hE f0 ft tN (show (0 : Int) ≤ (i : Int) + 1 by omega) nx.1
        have sl := lyl_s (E := E) hD (n := i) hy
        have go757 : ∀ S7, lS1 D E z o S S7 → lG lK_stands 757 [some (vm_r (o)), some (vm_i ((eQ D E : Nat))), some (vm_i (f)), some (vm_i (lht E r)), none, some (vm_i (v)), none, some (vm_l (lco D E (r + 1))), none, some (vm_d (FP.i2d (Int32.ofInt (vs (yms D E) r + vs (ymz D E f t) i)))), none, some (vm_i (vs (ymn D E) r + vs (ymc D f t) i)), some (vm_i ((r : Int))), some (vm_i (t - f)), some (vm_i (yG D E f t)), none, none, none, some (vm_i (lyl D E f t i)), some (vm_i (lyg D E f t i)), some (vm_i ((i : Int))), none, some (vm_i (ygp D E f t i)), none] [vm_i 1] S7 Qp := fun S7 h7 => by
          refine rL_stands_757 ?_
          rw [fl_sum ⟨by omega, by omega⟩ ⟨by omega, by omega⟩]
          refine ⟨fl_n0 ⟨by omega, by omega⟩, ⟨by omega, by omega⟩, rL_stands_788 ⟨⟨by omega, by omega⟩, ?_⟩⟩
          have := ih (i + 1) S7 (by omega) h7
          rw [ez, ec, egz, egc, sl.1, sl.2, ei, ← Int.add_assoc, ← Int.add_assoc] at this
          exact this
        rw [eg]
        refine ⟨fun _ => ⟨⟨by omega, by omega⟩, lq_letterAt ⟨by omega, by omega⟩ hO6 (fun S7 hs7 hO7 => ?_)⟩, fun c => absurd pb.1 c⟩
        rw [kl _ (by omega), if_pos nx.1, kan]
        refine lq_distance hO7 (fun S8 hs8 hO8 => ?_)
        rw [ed, show ydi D E f t i + 9 - 9 = ydi D E f t i by omega]
        refine ⟨⟨by omega, by omega⟩, ⟨by omega, by omega⟩, lq_letterAt ⟨by omega, by omega⟩ hO8 (fun S9 hs9 hO9 => ?_)⟩
        rw [kl _ (by omega), if_pos nx.1, kan]
        refine lq_gapAt hO9 (fun S10 hs10 hO10 => ?_)
        rw [eo]
        refine ⟨fun c => absurd rfl c, fun _ => ⟨⟨by omega, by omega⟩, lq_place ⟨by omega, by omega⟩ hO10 (fun S11 hs11 hO11 => lq_place ⟨by omega, by omega⟩ hO11 (fun S12 hs12 hO12 => lq_letter hO12 (fun S13 hs13 hO13 => ?_)))⟩⟩
        rw [kp ((i : Int) + 1) (by omega), if_pos nx.1, kp (i : Int) (by omega), if_pos (by omega), el]
        refine ⟨⟨by omega, by omega⟩, lq_value hO13 (fun S14 hs14 hO14 => ?_)⟩
        rw [e5]
        have h14 := (((((((h6.nx hs7 hO7).nx hs8 hO8).nx hs9 hO9).nx hs10 hO10).nx hs11 hO11).nx hs12 hO12).nx hs13 hO13).nx hs14 hO14
        refine ⟨⟨by omega, by omega⟩, ⟨by omega, by omega⟩, fun c => absurd (by omega) c, fun _ => ⟨fun _ => go757 S14 h14, fun c => lq_value hO14 (fun S15 hs15 hO15 => ⟨fun c2 => absurd ?_ c, fun _ => go757 S15 (h14.nx hs15 hO15)⟩)⟩⟩
        rw [e10] at c2
        exact ygp_ge hOC f0 ft tN (by omega) hy c2
      · have eg : ygi D E f t i = -2 := by unfold ygi; rw [vif_f hy]
        have egz : ymz D E f t i = 0 := by unfold ymz; rw [vif_f hy]
        have egc : ymc D f t i = 0 := by unfold ymc; rw [vif_f hy]
        have sl := lyl_n (E := E) (n := i) hy
        rw [eg]
        refine ⟨fun c => absurd c (by decide), fun _ => rL_stands_788 ⟨⟨by omega, by omega⟩, ?_⟩⟩
        have := ih (i + 1) S6 (by omega) h6
        rw [ez, ec, egz, egc, sl.1, sl.2, ei, Int.add_zero, Int.add_zero] at this
        exact this
  refine rL_stands_596 ?_
  have := loop (vcl D f t).toNat 0 S2 (by omega) h2
  have z1 : vs (ymz D E f t) 0 = 0 := rfl
  have z2 : vs (ymc D f t) 0 = 0 := rfl
  rw [z1, z2, Int.add_zero, Int.add_zero] at this
  exact this
end LSL
