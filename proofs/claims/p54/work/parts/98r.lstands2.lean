/-! ===== what stands in the rows: a row ===== -/
section LSR
variable {D : vD} {E : Int → Int} {z : vZs} {o : Nat} {S : lwS} {Qp : Option vm_V → lwS → Prop}
/-- behind a row's measures -/
theorem lst_meas {r : Nat} (hr : r < eQ D E) {S2 : lwS} (h2 : lS1 D E z o S S2) {v : Int} (hv : lfw D E r v) (nxt : ∀ (v : Int) S3, lfw D E (r + 1) v → lS1 D E z o S S3 → lG lK_stands 59 [some (vm_r (o)), some (vm_i ((eQ D E : Nat))), some (vm_i (eF D E (r + 1))), some (vm_i (lht E (r + 1))), none, some (vm_i (v)), some (vm_i (1)), some (vm_l (lco D E (r + 1))), none, some (vm_d (FP.i2d (Int32.ofInt (vs (yms D E) (r + 1))))), none, some (vm_i (vs (ymn D E) (r + 1))), some (vm_i ((r : Int) + 1)), none, none, none, none, none, none, none, none, none, none, none] [] S3 Qp) : lG lK_stands 480 [some (vm_r (o)), some (vm_i ((eQ D E : Nat))), some (vm_i (eF D E r)), some (vm_i (lht E r)), none, some (vm_i (v)), none, some (vm_l (lco D E r)), none, some (vm_d (FP.i2d (Int32.ofInt (vs (yms D E) r)))), none, some (vm_i (vs (ymn D E) r)), some (vm_i ((r : Int))), some (vm_i (eF D E (r + 1) - eF D E r)), some (vm_i (yG D E (eF D E r) (eF D E (r + 1)))), none, some (vm_i (E 0)), some (vm_i (lpl D E (eF D E r) (eF D E (r + 1)))), none, none, none, none, none, none] [vm_i 1] S2 Qp := by
  have hOC := h2.1.1
  obtain ⟨hD, hS, hE⟩ := hOC
  have hOC := h2.1.1
  obtain ⟨f0, ft, tN, r12⟩ := lst_row hOC hr
  have hN := hS.2.2.1
  have e7 : a_value D E 7 = E 6 := rfl
  have e4 : a_value D E 4 = E 4 := rfl
  have e5 : a_value D E 5 = E 5 := rfl
  have b0 := hE.1
  have b6 := hE.2.2.2.2.2.2.1
  have hR := bR_ok (eB_ok hD hS hE)
  have pb : 1 ≤ lpl D E (eF D E r) (eF D E (r + 1)) ∧ lpl D E (eF D E r) (eF D E (r + 1)) ≤ 347490 := rwd_bd hR f0 ft tN
  have ab := yP_bd hE
  have lb := lco_bd hOC r
  have lb1 := lco_bd hOC (r + 1)
  have l596 := fun (v : Int) S3 hv h3 => lst_letters (S := S) (Qp := Qp) (z := z) (o := o) hr (S2 := S3) h3 (v := v) (fun S4 h4 => nxt v S4 hv h4)
  have f536 : ∀ (x : Int) S3, lfw D E (r + 1) x → lS1 D E z o S S3 → lG lK_stands 536 [some (vm_r (o)), some (vm_i ((eQ D E : Nat))), some (vm_i (eF D E r)), some (vm_i (lht E r)), none, none, some (vm_i (1)), some (vm_l (lco D E (r + 1))), none, some (vm_d (FP.i2d (Int32.ofInt (vs (yms D E) r)))), none, some (vm_i (vs (ymn D E) r)), some (vm_i ((r : Int))), some (vm_i (eF D E (r + 1) - eF D E r)), some (vm_i (yG D E (eF D E r) (eF D E (r + 1)))), none, some (vm_i (E 0)), some (vm_i (lpl D E (eF D E r) (eF D E (r + 1)))), none, none, none, none, none, none] [vm_i x] S3 Qp := fun x S3 hx h3 => by
    refine rL_stands_536 (lq_value h3.1 (fun S4 hs4 hO4 => ?_))
    rw [e7]
    have h4 := h3.nx hs4 hO4
    refine ⟨fun _ => l596 x S4 hx h4, fun n6 => ⟨⟨by omega, by omega⟩, fun _ => l596 x S4 hx h4, fun lt => ⟨fun c => absurd c (by decide), fun _ => lq_value hO4 (fun S5 hs5 hO5 => lq_value hO5 (fun S6 hs6 hO6 => ?_))⟩⟩⟩
    rw [e4, e5, show eF D E r + (eF D E (r + 1) - eF D E r) = eF D E (r + 1) by omega]
    have h6 := (h4.nx hs5 hO5).nx hs6 hO6
    have er := early_full hOC (by omega) (r := r) (by omega)
    rw [lpl_s (by omega)] at er
    obtain ⟨g0, gt, gN, g12⟩ := lst_row hOC (r := r + 1) (by omega)
    have wb := ywz_bd hD hS hE (g := E 3) (w := eF D E (r + 1)) ⟨by omega, by omega⟩ hE.2.2.2.1.2
    have aw : a_word D E (eF D E (r + 1)) 1 = vww D (E 3) (eF D E (r + 1)) * E 5 := by
      unfold a_word
      rw [vif_t ⟨by omega, by omega⟩]
      rfl
    refine ⟨⟨by omega, by omega⟩, ⟨by omega, by omega⟩, ⟨by omega, by omega⟩, lq_word hO6 (fun S7 hs7 hO7 => ?_)⟩
    rw [aw]
    exact ⟨⟨by omega, by omega⟩, fun le => absurd le (by omega), fun _ => rL_stands_594 (l596 x S7 hx (h6.nx hs7 hO7))⟩
  have f516 : ∀ (y : Int) S3, lco D E (r + 1) = lco D E r + y → lS1 D E z o S S3 → lG lK_stands 516 [some (vm_r (o)), some (vm_i ((eQ D E : Nat))), some (vm_i (eF D E r)), some (vm_i (lht E r)), none, some (vm_i (v)), some (vm_i (1)), none, none, some (vm_d (FP.i2d (Int32.ofInt (vs (yms D E) r)))), none, some (vm_i (vs (ymn D E) r)), some (vm_i ((r : Int))), some (vm_i (eF D E (r + 1) - eF D E r)), some (vm_i (yG D E (eF D E r) (eF D E (r + 1)))), none, some (vm_i (E 0)), some (vm_i (lpl D E (eF D E r) (eF D E (r + 1)))), none, none, none, none, none, none] [vm_l y, vm_l (lco D E r)] S3 Qp := fun y S3 hy h3 => by
    refine rL_stands_516 ?_
    rw [← hy]
    refine ⟨⟨by omega, by omega⟩, fun v0 => f536 0 S3 (lfw_s hv 0 (by rw [if_pos v0])) h3, fun v1 => ⟨fun lt => f536 0 S3 (lfw_s hv 0 (by rw [if_neg v1, if_pos lt])) h3, fun lt => f536 1 S3 (lfw_s hv 1 (by rw [if_neg v1, if_neg lt])) h3⟩⟩
  refine rL_stands_480 ⟨⟨by omega, by omega⟩, fun le => rL_stands_515 (f516 0 S2 (by rw [lco_e hr (by omega)]; omega) h2), fun lt => ⟨fun le => rL_stands_515 (f516 0 S2 ?_ h2), fun le => ⟨⟨by omega, by omega⟩, ⟨by omega, by omega⟩, ?_, f516 _ S2 ?_ h2⟩⟩⟩
  · rw [lco_s (by omega)]
    unfold vsq
    rw [if_neg (by omega)]
  · have := vmul_bd (a := E 0 - lpl D E (eF D E r) (eF D E (r + 1))) (b := E 0 - lpl D E (eF D E r) (eF D E (r + 1))) (A := 9999) (B := 9999) ⟨by omega, by omega⟩ ⟨by omega, by omega⟩
    exact ⟨by omega, by omega⟩
  · rw [lco_s (by omega)]
    unfold vsq
    rw [if_pos (by omega)]
theorem lst_one {r : Nat} (hr : r < eQ D E) {S2 : lwS} (h2 : lS1 D E z o S S2) {v : Int} (hv : lfw D E r v) (nxt : ∀ (v : Int) S3, lfw D E (r + 1) v → lS1 D E z o S S3 → lG lK_stands 59 [some (vm_r (o)), some (vm_i ((eQ D E : Nat))), some (vm_i (eF D E (r + 1))), some (vm_i (lht E (r + 1))), none, some (vm_i (v)), some (vm_i (1)), some (vm_l (lco D E (r + 1))), none, some (vm_d (FP.i2d (Int32.ofInt (vs (yms D E) (r + 1))))), none, some (vm_i (vs (ymn D E) (r + 1))), some (vm_i ((r : Int) + 1)), none, none, none, none, none, none, none, none, none, none, none] [] S3 Qp) : lG lK_stands 59 [some (vm_r (o)), some (vm_i ((eQ D E : Nat))), some (vm_i (eF D E r)), some (vm_i (lht E r)), none, some (vm_i (v)), some (vm_i (1)), some (vm_l (lco D E r)), none, some (vm_d (FP.i2d (Int32.ofInt (vs (yms D E) r)))), none, some (vm_i (vs (ymn D E) r)), some (vm_i ((r : Int))), none, none, none, none, none, none, none, none, none, none, none] [] S2 Qp := by
  have hOC := h2.1.1
  obtain ⟨hD, hS, hE⟩ := hOC
  have hOC := h2.1.1
  obtain ⟨f0, ft, tN, r12⟩ := lst_row hOC hr
  have hN := hS.2.2.1
  have e0 : a_value D E 0 = E 0 := rfl
  have e3 : a_value D E 3 = E 3 := rfl
  have e4 : a_value D E 4 = E 4 := rfl
  have e5 : a_value D E 5 = E 5 := rfl
  have e8 : a_value D E 8 = E 7 := rfl
  have b0 := hE.1
  have b4 := hE.2.2.2.2.1
  have b5 := hE.2.2.2.2.2.1
  have b7 := hE.2.2.2.2.2.2.2
  have gb := yG_bd hD hE (f := eF D E r) (t := eF D E (r + 1))
  have wb := yW_bd hD hS hE f0 ft tN
  have yb0 := y0_bd hD hS hE f0 ft tN
  have sb := yS_bd hD hS hE f0 ft tN
  have Lb := yL_bd hD hS hE f0 ft tN
  have ab := yP_bd hE
  have a0 : a_row D E (r : Int) 0 = eF D E r := ar hr 0
  have a1 : a_row D E (r : Int) 1 = eF D E (r + 1) - eF D E r := ar hr 1
  have a3 : a_row D E (r : Int) 3 = yG D E (eF D E r) (eF D E (r + 1)) := ar hr 3
  have a4 : a_row D E (r : Int) 4 = yW D E (eF D E r) (eF D E (r + 1)) := ar hr 4
  have a5 : a_row D E (r : Int) 5 = y0 D E (eF D E r) (eF D E (r + 1)) := ar hr 5
  have a6 : a_row D E (r : Int) 6 = ylack E (yW D E (eF D E r) (eF D E (r + 1))) := ar hr 6
  have a7 : a_row D E (r : Int) 7 = (if eF D E (r + 1) - eF D E r = 1 then -2 else yS D E (eF D E r) (eF D E (r + 1))) := ar hr 7
  have a8 : a_row D E (r : Int) 8 = (if eF D E (r + 1) - eF D E r = 1 then -2 else yS D E (eF D E r) (eF D E (r + 1)) + (if 0 < yX D E (eF D E r) (eF D E (r + 1)) then 1 else 0)) := ar hr 8
  have yv1 : yv D E (r : Int) := ⟨by omega, by omega⟩
  have p0 := ypl_0 (E := E) hS f0 ft tN
  have ap : a_place D E (r : Int) 0 = y0 D E (eF D E r) (eF D E (r + 1)) + 1000 := by
    unfold a_place
    rw [vif_t ⟨yv1, Int.le_refl _⟩]
    unfold yf yt
    rw [Int.toNat_natCast, if_pos p0.1, p0.2]
  have af : a_full D E (r : Int) = FP.fdiv (FP.i2f (Int32.ofInt (yW D E (eF D E r) (eF D E (r + 1))))) (FP.i2f (Int32.ofInt (E 0))) := by
    unfold a_full yfull
    rw [vif_t yv1]
    unfold yf yt
    rw [Int.toNat_natCast]
  have ag : a_fillGap D E (r : Int) = yfg D E (eF D E r) (eF D E (r + 1)) := by
    unfold a_fillGap
    rw [vif_t yv1]
    unfold yf yt
    rw [Int.toNat_natCast]
  have kv : eF D E (r + 1) = eF D E r + 1 ∨ lpl D E (eF D E r) (eF D E (r + 1)) ≤ E 0 := by
    have hR := bR_ok (eB_ok hD hS hE)
    exact ((bQ_ok hR (E 6)).2.2.2.1 r hr).2.2.2
  have f480 := fun S3 h3 => lst_meas (S := S) (Qp := Qp) (z := z) (o := o) hr (S2 := S3) h3 hv nxt
  have f397 : ∀ S3, lS1 D E z o S S3 → lG lK_stands 397 [some (vm_r (o)), some (vm_i ((eQ D E : Nat))), some (vm_i (eF D E r)), some (vm_i (lht E r)), none, some (vm_i (v)), none, some (vm_l (lco D E r)), none, some (vm_d (FP.i2d (Int32.ofInt (vs (yms D E) r)))), none, some (vm_i (vs (ymn D E) r)), some (vm_i ((r : Int))), some (vm_i (eF D E (r + 1) - eF D E r)), some (vm_i (yG D E (eF D E r) (eF D E (r + 1)))), none, some (vm_i (E 0)), some (vm_i (lpl D E (eF D E r) (eF D E (r + 1)))), none, none, none, none, none, none] [] S3 Qp := fun S3 h3 => by
    refine rL_stands_397 ⟨fun n1 => lq_row h3.1 (fun S4 hs4 hO4 => lq_row hO4 (fun S5 hs5 hO5 => ?_)), fun n1 => lq_row h3.1 (fun S4 hs4 hO4 => ?_)⟩
    · rw [if_neg n1] at a7 a8
      rw [a7, a8]
      have ys : yS D E (eF D E r) (eF D E (r + 1)) = E 4 * E 5 + yL D E (eF D E r) (eF D E (r + 1)) / (eF D E (r + 1) - eF D E r - 1) := by
        unfold yS
        rw [if_pos (by omega)]
      have yd := Int.ediv_nonneg (a := yL D E (eF D E r) (eF D E (r + 1))) (b := eF D E (r + 1) - eF D E r - 1) Lb.1 (by omega)
      have yx : (if 0 < yX D E (eF D E r) (eF D E (r + 1)) then (1 : Int) else 0) = 0 ∨ (if 0 < yX D E (eF D E r) (eF D E (r + 1)) then (1 : Int) else 0) = 1 := by split <;> omega
      generalize (if 0 < yX D E (eF D E r) (eF D E (r + 1)) then (1 : Int) else 0) = g at *
      refine ⟨⟨by omega, by omega⟩, fun c => absurd c (by omega), fun _ => lq_row hO5 (fun S6 hs6 hO6 => lq_value hO6 (fun S7 hs7 hO7 => lq_value hO7 (fun S8 hs8 hO8 => ?_)))⟩
      rw [a7, e4, e5]
      exact ⟨⟨by omega, by omega⟩, fun c => absurd c (by omega), fun _ => f480 S8 (((((h3.nx hs4 hO4).nx hs5 hO5).nx hs6 hO6).nx hs7 hO7).nx hs8 hO8)⟩
    · have n1 := Decidable.not_not.mp n1
      rw [if_pos n1] at a7 a8
      rw [a7]
      refine ⟨fun c => absurd rfl c, fun _ => lq_row hO4 (fun S5 hs5 hO5 => ?_)⟩
      rw [a8]
      exact ⟨fun c => absurd rfl c, fun _ => f480 S5 ((h3.nx hs4 hO4).nx hs5 hO5)⟩
  have f354 : ∀ S3, lS1 D E z o S S3 → lG lK_stands 354 [some (vm_r (o)), some (vm_i ((eQ D E : Nat))), some (vm_i (eF D E r)), some (vm_i (lht E r)), none, some (vm_i (v)), none, some (vm_l (lco D E r)), none, some (vm_d (FP.i2d (Int32.ofInt (vs (yms D E) r)))), none, some (vm_i (vs (ymn D E) r)), some (vm_i ((r : Int))), some (vm_i (eF D E (r + 1) - eF D E r)), some (vm_i (yG D E (eF D E r) (eF D E (r + 1)))), some (vm_i (yW D E (eF D E r) (eF D E (r + 1)))), some (vm_i (E 0)), some (vm_i (lpl D E (eF D E r) (eF D E (r + 1)))), none, none, none, none, none, none] [] S3 Qp := fun S3 h3 => by
    have f380 : ∀ S3, lS1 D E z o S S3 → lG lK_stands 380 [some (vm_r (o)), some (vm_i ((eQ D E : Nat))), some (vm_i (eF D E r)), some (vm_i (lht E r)), none, some (vm_i (v)), none, some (vm_l (lco D E r)), none, some (vm_d (FP.i2d (Int32.ofInt (vs (yms D E) r)))), none, some (vm_i (vs (ymn D E) r)), some (vm_i ((r : Int))), some (vm_i (eF D E (r + 1) - eF D E r)), some (vm_i (yG D E (eF D E r) (eF D E (r + 1)))), some (vm_i (yW D E (eF D E r) (eF D E (r + 1)))), some (vm_i (E 0)), some (vm_i (lpl D E (eF D E r) (eF D E (r + 1)))), none, none, none, none, none, none] [] S3 Qp := fun S3 h3 => by
      refine rL_stands_380 (lq_value h3.1 (fun S4 hs4 hO4 => ?_))
      rw [e8]
      exact ⟨fun _ => f397 S4 (h3.nx hs4 hO4), fun n7 => ⟨fun c => absurd (yW_plain (by omega)) c, fun _ => f397 S4 (h3.nx hs4 hO4)⟩⟩
    refine rL_stands_354 (lq_value h3.1 (fun S4 hs4 hO4 => ?_))
    rw [e8]
    exact ⟨fun _ => f380 S4 (h3.nx hs4 hO4), fun n7 => ⟨fun _ => f380 S4 (h3.nx hs4 hO4), fun n1 => ⟨fun c => absurd (yW_full hOC (by omega) (by omega) (by omega)) c, fun _ => f397 S4 (h3.nx hs4 hO4)⟩⟩⟩
  -- the words
  have words : ∀ (n : Nat) (w : Int) S3, w + n = eF D E (r + 1) → eF D E r ≤ w → lS1 D E z o S S3 → lG lK_stands 271 [some (vm_r (o)), some (vm_i ((eQ D E : Nat))), some (vm_i (eF D E r)), some (vm_i (lht E r)), none, some (vm_i (v)), some (vm_i (1)), some (vm_l (lco D E r)), none, some (vm_d (FP.i2d (Int32.ofInt (vs (yms D E) r)))), none, some (vm_i (vs (ymn D E) r)), some (vm_i ((r : Int))), some (vm_i (eF D E (r + 1) - eF D E r)), some (vm_i (yG D E (eF D E r) (eF D E (r + 1)))), some (vm_i (yW D E (eF D E r) (eF D E (r + 1)))), some (vm_i (E 0)), some (vm_i (lpw D E (eF D E r) (eF D E (r + 1)) w)), some (vm_i (w)), none, none, none, none, none] [] S3 Qp := by
    intro n
    induction n with
    | zero =>
      intro w S3 hw hw0 h3
      have hw : w = eF D E (r + 1) := by omega
      subst hw
      rw [lpw_t]
      exact rL_stands_271 ⟨⟨by omega, by omega⟩, fun _ => rL_stands_336 ⟨fun c => absurd c (by decide), fun _ => ⟨fun _ => f354 S3 h3, fun n1 => ⟨fun c => absurd c (by omega), fun _ => f354 S3 h3⟩⟩⟩, fun c => absurd (by omega) c⟩
    | succ n ih =>
      intro w S3 hw hw0 h3
      have aw1 : a_word D E w 1 = vww D (E 3) w * E 5 := by
        unfold a_word
        rw [vif_t ⟨by omega, by omega⟩]
        rfl
      have yr := yro_is hOC hr hw0 (show w < eF D E (r + 1) by omega) (eQ D E) 0 (Nat.zero_add _) (Nat.zero_le _)
      have aw2 : a_word D E w 2 = (r : Int) := by
        unfold a_word
        rw [vif_t ⟨by omega, by omega⟩]
        exact yr
      have aw3 : a_word D E w 3 = w - eF D E r := by
        unfold a_word
        rw [vif_t ⟨by omega, by omega⟩]
        show (if yro D E w (eQ D E) 0 = -2 then -2 else w - eF D E (yro D E w (eQ D E) 0).toNat) = _
        rw [yr, if_neg (by omega), Int.toNat_natCast]
      have pb := lpw_bd hOC f0 ft tN (w := w) ⟨by omega, by omega⟩
      have pb1 := lpw_bd hOC f0 ft tN (w := w + 1) ⟨by omega, by omega⟩
      have ps := lpw_s (D := D) (E := E) (f := eF D E r) (t := eF D E (r + 1)) (w := w) (by omega)
      refine rL_stands_271 ⟨⟨by omega, by omega⟩, fun c => absurd c (by omega), fun _ => ⟨fun c => absurd c (by decide), fun _ => lq_word h3.1 (fun S4 hs4 hO4 => ?_)⟩⟩
      rw [aw1, ← ps]
      refine ⟨⟨by omega, by omega⟩, lq_word hO4 (fun S5 hs5 hO5 => ?_)⟩
      rw [aw2]
      refine ⟨fun c => absurd rfl c, fun _ => lq_word hO5 (fun S6 hs6 hO6 => ?_)⟩
      rw [aw3]
      exact ⟨⟨by omega, by omega⟩, fun c => absurd rfl c, fun _ => rL_stands_328 ⟨⟨by omega, by omega⟩, ih (w + 1) S6 (by omega) (by omega) (((h3.nx hs4 hO4).nx hs5 hO5).nx hs6 hO6)⟩⟩
  have f248 : ∀ S3, lS1 D E z o S S3 → lG lK_stands 248 [some (vm_r (o)), some (vm_i ((eQ D E : Nat))), some (vm_i (eF D E r)), some (vm_i (lht E r)), none, some (vm_i (v)), none, some (vm_l (lco D E r)), none, some (vm_d (FP.i2d (Int32.ofInt (vs (yms D E) r)))), none, some (vm_i (vs (ymn D E) r)), some (vm_i ((r : Int))), some (vm_i (eF D E (r + 1) - eF D E r)), some (vm_i (yG D E (eF D E r) (eF D E (r + 1)))), some (vm_i (yW D E (eF D E r) (eF D E (r + 1)))), some (vm_i (E 0)), none, none, none, none, none, none, none] [vm_i 1] S3 Qp := fun S3 h3 => by
    have m1 := vmul_bd (a := E 4) (b := eF D E (r + 1) - eF D E r - 1) (A := 99) (B := 29) b4 ⟨by omega, by omega⟩
    have m2 := vmul_bd (a := E 4 * (eF D E (r + 1) - eF D E r - 1)) (b := E 5) (A := 2871) (B := 9) ⟨m1.1, by omega⟩ ⟨by omega, b5.2⟩
    refine rL_stands_248 (lq_value h3.1 (fun S4 hs4 hO4 => ?_))
    rw [e4]
    refine ⟨⟨by omega, by omega⟩, ⟨by omega, by omega⟩, lq_value hO4 (fun S5 hs5 hO5 => ?_)⟩
    rw [e5]
    refine ⟨⟨by omega, by omega⟩, ?_⟩
    have := words (eF D E (r + 1) - eF D E r).toNat (eF D E r) S5 (by omega) (by omega) ((h3.nx hs4 hO4).nx hs5 hO5)
    rw [lpw_f] at this
    exact this
  refine rL_stands_59 ⟨fun c => absurd c (by omega), fun _ => ⟨fun c => absurd c (by decide), fun _ => lq_row h2.1 (fun S3 hs3 hO3 => lq_row hO3 (fun S4 hs4 hO4 => lq_row hO4 (fun S5 hs5 hO5 => lq_value hO5 (fun S6 hs6 hO6 => ?_))))⟩⟩
  rw [a1, a3, a4, e0]
  have h6 := (((h2.nx hs3 hO3).nx hs4 hO4).nx hs5 hO5).nx hs6 hO6
  refine ⟨fun c => absurd c (by omega), fun _ => lq_row hO6 (fun S7 hs7 hO7 => ?_)⟩
  rw [a0]
  refine ⟨fun c => absurd rfl c, fun _ => lq_row hO7 (fun S8 hs8 hO8 => ?_)⟩
  rw [a6]
  have e6 : ylack E (yW D E (eF D E r) (eF D E (r + 1))) = if 0 < E 0 - yW D E (eF D E r) (eF D E (r + 1)) then E 0 - yW D E (eF D E r) (eF D E (r + 1)) else 0 := by
    unfold ylack
    (repeat' split) <;> omega
  have ey : y0 D E (eF D E r) (eF D E (r + 1)) = (if 0 < E 0 - yW D E (eF D E r) (eF D E (r + 1)) then E 0 - yW D E (eF D E r) (eF D E (r + 1)) else 0) / 2 := by rw [← e6]; rfl
  refine ⟨⟨by omega, by omega⟩, fun c => absurd e6 c, fun _ => lq_row hO8 (fun S9 hs9 hO9 => ?_)⟩
  rw [a5]
  refine ⟨⟨by omega, by omega⟩, ⟨by split <;> omega, by decide⟩, fun c => absurd ey c, fun _ => lq_place ⟨by decide, by decide⟩ hO9 (fun S10 hs10 hO10 => lq_row hO10 (fun S11 hs11 hO11 => ?_))⟩
  rw [a5, ap]
  have h11 := ((((h6.nx hs7 hO7).nx hs8 hO8).nx hs9 hO9).nx hs10 hO10).nx hs11 hO11
  have nn := fl_fdiv (a := yW D E (eF D E r) (eF D E (r + 1))) (b := E 0) ⟨by omega, by omega⟩ ⟨by omega, by omega⟩
  refine ⟨⟨by omega, by omega⟩, fun c => absurd rfl c, fun _ => lq_full hO11 (fun S12 hs12 hO12 => ?_)⟩
  rw [af]
  have ec : FP.fcmp (FP.fdiv (FP.i2f (Int32.ofInt (yW D E (eF D E r) (eF D E (r + 1))))) (FP.i2f (Int32.ofInt (E 0)))) (FP.fdiv (FP.i2f (Int32.ofInt (yW D E (eF D E r) (eF D E (r + 1))))) (FP.i2f (Int32.ofInt (E 0)))) = some .eq := FP.Core.fcmp_self nn
  refine ⟨fl_n32 nn, fun c => absurd (by rw [ec]; decide) c, fun _ => lq_value hO12 (fun S13 hs13 hO13 => ?_)⟩
  rw [e3]
  have h13 := (h11.nx hs12 hO12).nx hs13 hO13
  refine ⟨fun c => absurd c (by omega), fun _ => lq_value hO13 (fun S14 hs14 hO14 => ?_)⟩
  rw [e8]
  have h14 := h13.nx hs14 hO14
  refine ⟨fun n7 => lq_value hO14 (fun S15 hs15 hO15 => ?_), fun n7 => lq_fillGap hO14 (fun S15 hs15 hO15 => ?_)⟩
  · rw [e3]
    exact ⟨fun c => absurd (by unfold yG; rw [if_pos (by omega)]) c, fun _ => f248 S15 (h14.nx hs15 hO15)⟩
  · rw [ag]
    exact ⟨fun c => absurd (by unfold yG; rw [if_neg (by omega)]) c, fun _ => f248 S15 (h14.nx hs15 hO15)⟩
/-- all stands as it should -/
theorem ld_stands (hO : lO D E z o S) (hw : 1 ≤ dN D ∧ dN D ≤ 12) (kk : ∀ S', lS1 D E z o S S' → Qp (some (vm_i 1)) S') : lG lK_stands 0 (lEn lK_stands [vm_r o]) [] S Qp := by
  have hOC := hO.1
  have q := eQ_ok hOC.1 hOC.2.1 hOC.2.2
  have hQ : 0 < eQ D E := bQ_pos (bR_ok (eB_ok hOC.1 hOC.2.1 hOC.2.2)) (show 0 < dN D by omega) hw.2 (E 6)
  have e12 : a_value D E 12 = (eQ D E : Nat) := rfl
  have rows : ∀ (n r : Nat) (v : Int) S3, r + n = eQ D E → lfw D E r v → lS1 D E z o S S3 → lG lK_stands 59 [some (vm_r (o)), some (vm_i ((eQ D E : Nat))), some (vm_i (eF D E r)), some (vm_i (lht E r)), none, some (vm_i (v)), some (vm_i (1)), some (vm_l (lco D E r)), none, some (vm_d (FP.i2d (Int32.ofInt (vs (yms D E) r)))), none, some (vm_i (vs (ymn D E) r)), some (vm_i ((r : Int))), none, none, none, none, none, none, none, none, none, none, none] [] S3 Qp := by
    intro n
    induction n with
    | zero =>
      intro r v S3 hr hv h3
      obtain rfl : r = eQ D E := by omega
      exact rL_stands_59 ⟨fun _ => lst_end hQ h3 kk hv, fun c => absurd (Int.le_refl _) c⟩
    | succ n ih =>
      intro r v S3 hr hv h3
      refine lst_one (by omega) h3 hv (fun v4 S4 hv4 h4 => ?_)
      have := ih (r + 1) v4 S4 (by omega) hv4 h4
      rwa [show ((r + 1 : Nat) : Int) = (r : Int) + 1 by omega] at this
  have h0 : lS1 D E z o S S := ⟨hO, lsame.rf⟩
  refine rL_stands_0 (lq_value hO (fun S1 hs1 hO1 => ?_))
  rw [e12]
  refine ⟨fun _ => rL_stands_32 ⟨fun c => absurd c (by omega), fun _ => rL_stands_45 ?_⟩, fun c => absurd (by omega) c⟩
  have := rows (eQ D E) 0 1 S1 (Nat.zero_add _) (Or.inl ⟨rfl, fun j hj => absurd hj (by omega)⟩) (h0.nx hs1 hO1)
  rw [q.2.1] at this
  have s0 : vs (yms D E) 0 = 0 := rfl
  have n0 : vs (ymn D E) 0 = 0 := rfl
  rw [s0, n0, fl_i2d0] at this
  exact this
end LSR
section LSR2
variable {D : vD} {E : Int → Int} {z : vZs} {o : Nat} {S : lwS}
theorem ln_stands {P : Int → lwS → Prop} (hO : lO D E z o S) (hw : 1 ≤ dN D ∧ dN D ≤ 12) (kk : ∀ S', lS1 D E z o S S' → P 1 S') : lCi lK_stands [vm_r o] S P :=
  ⟨0, 0, ⟨Nat.zero_le _, Nat.zero_le _⟩, ld_stands (S := (S.1, 0, 0)) hO hw (fun S' h => ⟨1, rfl, kk _ ⟨h.1, h.2.1, rfl⟩⟩)⟩
end LSR2
