/-! ===== rows' mathematics: how many, what they cost, words that change places ===== -/
section RM
variable {R R' : vR} {K K' : Int → Int}
theorem gcnt_N (h : rOK R) : (gcnt R : Int) ≤ rN R := by
  rcases Nat.lt_or_ge (rN R).toNat (gcnt R) with a | a
  · have h1 := (gcnt_ok h).2 _ a
    rcases gF_ge h (rN R).toNat with b | b
    · have := h.1; omega
    · omega
  · have := h.1; omega
theorem gcnt_pos (h : rOK R) (hN : 0 < rN R) : 0 < gcnt R := by
  rcases Nat.eq_zero_or_pos (gcnt R) with a | a
  · have h1 := (gcnt_ok h).1
    rw [a] at h1
    have : gF R 0 = 0 := rfl
    omega
  · exact a
theorem kcnt_pos (h : rOK R) (hw : kK R 12 0 < 1000000000000000) (hN : 0 < rN R) : 0 < kcnt R := by
  rcases Nat.eq_zero_or_pos (kcnt R) with a | a
  · have h1 := (kcnt_ok h hw).1
    rw [a] at h1
    have : kF R 0 = 0 := rfl
    omega
  · exact a
/-- with as many rows as words there is a way -/
theorem kK_way (h : rOK R) : ∀ (l : Nat) (f : Int), 0 ≤ f → f ≤ rN R → rN R - f ≤ l → l ≤ 12 → kK R l f < 1000000000000000
  | 0, f, h0, h1, h2, _ => by
    have : f = rN R := by omega
    rw [this, kK_N]
    decide
  | l + 1, f, h0, h1, h2, h3 => by
    by_cases q : f = rN R
    · rw [q, kK_N]; decide
    · have i := kK_way h l (f + 1) (by omega) (by omega) (by omega) (by omega)
      have b := (kK_bd h l (f + 1) (by omega) (by omega)).2.2 i
      have m := (kS_min (R := R) (K := kK R l) (f := f) (by omega)).2.1 (f + 1) (by omega) (by omega) (Or.inl rfl)
      have e : kK R (l + 1) f = (kS R (kK R l) f).1 := rfl
      have v := vsq_bd (I := rI R) (w := rwd R f (f + 1)) h.2.2.2.2.2.1 (rwd_bd h h0 (by omega) (by omega)).1
      rw [e]
      unfold kcd at m
      split at m <;> omega
theorem bQ_pos (h : rOK R) (hN : 0 < rN R) (h12 : rN R ≤ 12) (how : Int) : 0 < bQ R how := by
  have hw := kK_way h 12 0 (Int.le_refl _) h.1 (by omega) (by decide)
  have g := gcnt_N h
  unfold bQ
  split
  · rw [if_pos (by omega)]; exact gcnt_pos h hN
  · exact kcnt_pos h hw hN
/-- the rows from one on cost at least what the least cost from there is -/
theorem least_from (h : rOK R) (how : Int) : ∀ (n r : Nat), r + n + 1 = bQ R how → kK R (12 - r) (bF R how r) ≤ vs (bsq R how) (bQ R how - 1) - vs (bsq R how) r
  | 0, r, hr => by
    obtain ⟨q1, q2, q3, q4, q5⟩ := bQ_ok h how
    obtain ⟨b1, b2, b3, b4⟩ := q4 r (by omega)
    have e : bF R how (r + 1) = rN R := by rw [← q3 (by omega)]; congr 1
    obtain ⟨l, hl⟩ : ∃ l, 12 - r = l + 1 := ⟨11 - r, by omega⟩
    have m := (kS_min (R := R) (K := kK R l) (f := bF R how r) (by omega)).2.1 (bF R how (r + 1)) (by omega) b3 b4
    have e2 : kK R (l + 1) (bF R how r) = (kS R (kK R l) (bF R how r)).1 := rfl
    rw [hl, e2]
    unfold kcd at m
    rw [if_pos e] at m
    rw [show bQ R how - 1 = r by omega]
    omega
  | n + 1, r, hr => by
    obtain ⟨q1, q2, q3, q4, q5⟩ := bQ_ok h how
    obtain ⟨b1, b2, b3, b4⟩ := q4 r (by omega)
    obtain ⟨c1, c2, c3, c4⟩ := q4 (r + 1) (by omega)
    have i := least_from h how n (r + 1) (by omega)
    obtain ⟨l, hl⟩ : ∃ l, 12 - r = l + 1 := ⟨11 - r, by omega⟩
    have hl2 : 12 - (r + 1) = l := by omega
    have m := (kS_min (R := R) (K := kK R l) (f := bF R how r) (by omega)).2.1 (bF R how (r + 1)) (by omega) b3 b4
    have e2 : kK R (l + 1) (bF R how r) = (kS R (kK R l) (bF R how r)).1 := rfl
    rw [hl2] at i
    rw [hl, e2]
    unfold kcd at m
    rw [if_neg (by omega)] at m
    have e3 : vs (bsq R how) (r + 1) = vs (bsq R how) r + bsq R how r := rfl
    have e4 : bsq R how r = vsq (rI R) (rwd R (bF R how r) (bF R how (r + 1))) := by unfold bsq; rw [Int.toNat_natCast]
    omega
theorem least_le (h : rOK R) {how : Int} (hQ : 0 < bQ R how) : kK R 12 0 ≤ bcost R how := by
  have := least_from h how (bQ R how - 1) 0 (by omega)
  have e : bF R how 0 = 0 := (bQ_ok h how).2.1
  rw [e] at this
  have e2 : vs (bsq R how) 0 = 0 := rfl
  unfold bcost
  rw [show (12 - 0 : Nat) = 12 by rfl] at this
  omega
theorem least_at (h : rOK R) (hw : kK R 12 0 < 1000000000000000) : ∀ (n r : Nat), r + n + 1 = kcnt R → kK R (12 - r) (kF R r) = vs (bsq R 1) (kcnt R - 1) - vs (bsq R 1) r
  | 0, r, hr => by
    have k12 := kcnt_12 h hw
    have hc := kcnt_ok h hw
    have hf := kF_ok h hw r
    have hN := hc.2 r (by omega)
    obtain ⟨l, hl⟩ : ∃ l, 12 - r = l + 1 := ⟨11 - r, by omega⟩
    have hk := hf.2.2
    rw [hl] at hk
    have t := kT_ok h hf.1 hN hk
    have e : kF R r + kT R (l + 1) (kF R r) = rN R := by
      have := kF_s r hN
      rw [hl] at this
      rw [← this, ← hc.1]
      congr 1
    rw [hl]
    have t4 := t.2.2.2.1
    unfold kcd at t4
    rw [if_pos e] at t4
    rw [show kcnt R - 1 = r by omega]
    omega
  | n + 1, r, hr => by
    have k12 := kcnt_12 h hw
    have hc := kcnt_ok h hw
    have hf := kF_ok h hw r
    have hN := hc.2 r (by omega)
    have hN2 := hc.2 (r + 1) (by omega)
    have i := least_at h hw n (r + 1) (by omega)
    obtain ⟨l, hl⟩ : ∃ l, 12 - r = l + 1 := ⟨11 - r, by omega⟩
    have hl2 : 12 - (r + 1) = l := by omega
    have hk := hf.2.2
    rw [hl] at hk
    have t := kT_ok h hf.1 hN hk
    have e : kF R (r + 1) = kF R r + kT R (l + 1) (kF R r) := by
      have := kF_s r hN
      rwa [hl] at this
    rw [hl2] at i
    rw [hl]
    have t4 := t.2.2.2.1
    rw [← e] at t4
    unfold kcd at t4
    rw [if_neg (by omega)] at t4
    have e3 : vs (bsq R 1) (r + 1) = vs (bsq R 1) r + bsq R 1 r := rfl
    have e5 : bF R 1 = kF R := by funext r; unfold bF; rw [if_neg (by decide)]
    have e4 : bsq R 1 r = vsq (rI R) (rwd R (kF R r) (kF R (r + 1))) := by unfold bsq; rw [Int.toNat_natCast, e5]
    omega
theorem least_is (h : rOK R) (hQ : 0 < bQ R 1) : kK R 12 0 = bcost R 1 ∧ kK R 12 0 < 1000000000000000 := by
  have hw : kK R 12 0 < 1000000000000000 := by
    unfold bQ at hQ
    rw [if_neg (by decide)] at hQ
    by_cases q : kK R 12 0 < 1000000000000000
    · exact q
    · rw [if_neg q] at hQ; omega
  have e : bQ R 1 = kcnt R := by unfold bQ; rw [if_neg (by decide), if_pos hw]
  rw [e] at hQ
  have := least_at h hw (kcnt R - 1) 0 (by omega)
  have e2 : vs (bsq R 1) 0 = 0 := rfl
  have e3 : kF R 0 = 0 := rfl
  rw [e3] at this
  refine ⟨?_, hw⟩
  unfold bcost
  rw [e]
  rw [show (12 - 0 : Nat) = 12 by rfl] at this
  omega
/-! two rows of widths that are equal as far as they count -/
def rEq (R R' : vR) : Prop := rC R = rC R' ∧ rN R = rN R' ∧ rI R = rI R' ∧ ∀ z, 0 ≤ z → z ≤ rN R → rT R z = rT R' z
theorem rEq.ok (h : rEq R R') (hR : rOK R) : rOK R' := by
  obtain ⟨a1, a2, a3, a4⟩ := h
  obtain ⟨b1, b2, b3, b4, b5, b6, b7, b8⟩ := hR
  rw [a2] at b1 b2
  rw [a1] at b3 b4
  rw [a3] at b5 b6
  refine ⟨b1, b2, b3, b4, b5, b6, by rw [← a4 0 (Int.le_refl _) (by rw [a2]; exact b1)]; exact b7, fun z z0 z1 => ?_⟩
  have := b8 z z0 (by rw [a2]; exact z1)
  rwa [a4 z z0 (by omega), a4 (z + 1) (by omega) (by omega), a1] at this
theorem rwd_cg (h : rEq R R') {f t : Int} (hf : 0 ≤ f ∧ f ≤ rN R) (ht : 0 ≤ t ∧ t ≤ rN R) : rwd R f t = rwd R' f t := by
  unfold rwd
  rw [h.2.2.2 f hf.1 hf.2, h.2.2.2 t ht.1 ht.2, h.1]
theorem gE_cg (h : rEq R R') {f : Int} (hf : 0 ≤ f ∧ f ≤ rN R) : ∀ (n : Nat) (e : Int), 0 ≤ e → e ≤ rN R → gE R f n e = gE R' f n e
  | 0, e, _, _ => rfl
  | n + 1, e, e0, e1 => by
    unfold gE
    by_cases q : e < rN R ∧ rwd R f (e + 1) ≤ rI R
    · rw [if_pos q, if_pos (by rw [← h.2.1, ← h.2.2.1, ← rwd_cg h hf (show 0 ≤ e + 1 ∧ e + 1 ≤ rN R by omega)]; exact q)]
      exact gE_cg h hf n (e + 1) (by omega) (by omega)
    · rw [if_neg q, if_neg (fun c => q ?_)]
      rw [← h.2.1, ← h.2.2.1] at c
      refine ⟨c.1, ?_⟩
      rw [rwd_cg h hf (show 0 ≤ e + 1 ∧ e + 1 ≤ rN R by omega)]
      exact c.2
theorem gF_cg (h : rEq R R') (hR : rOK R) : ∀ r, gF R r = gF R' r
  | 0 => rfl
  | r + 1 => by
    have i := gF_cg h hR r
    have b := gF_bd hR r
    show (if gF R r < rN R then gend R (gF R r) else gF R r) = (if gF R' r < rN R' then gend R' (gF R' r) else gF R' r)
    rw [← i, ← h.2.1]
    by_cases q : gF R r < rN R
    · rw [if_pos q, if_pos q]
      exact gE_cg h ⟨b.1, by omega⟩ 30 _ (by omega) (by omega)
    · rw [if_neg q, if_neg q]
theorem gcnt_cg (h : rEq R R') (hR : rOK R) : gcnt R = gcnt R' := by
  have e : gF R = gF R' := funext (gF_cg h hR)
  unfold gcnt
  rw [e, h.2.1]
theorem kval_cg (h : rEq R R') {f e : Int} (hf : 0 ≤ f ∧ f ≤ rN R) (he : 0 ≤ e ∧ e ≤ rN R) : kval R f e ↔ kval R' f e := by
  show (e = f + 1 ∨ rwd R f e ≤ rI R) ↔ (e = f + 1 ∨ rwd R' f e ≤ rI R')
  rw [rwd_cg h hf he, h.2.2.1]
theorem kcd_cg (h : rEq R R') (hK : ∀ z, 0 ≤ z → z ≤ rN R → K z = K' z) {f e : Int} (hf : 0 ≤ f ∧ f ≤ rN R) (he : 0 ≤ e ∧ e ≤ rN R) : kcd R K f e = kcd R' K' f e := by
  unfold kcd
  rw [rwd_cg h hf he, h.2.1, h.2.2.1, hK e he.1 he.2]
theorem kL_cg (h : rEq R R') (hK : ∀ z, 0 ≤ z → z ≤ rN R → K z = K' z) {f : Int} (hf : 0 ≤ f) : ∀ (n : Nat) (s : Int × Int), f + n ≤ rN R → kL R K f n s = kL R' K' f n s
  | 0, s, _ => rfl
  | n + 1, s, hn => by
    have b : 0 ≤ f + ((n : Int) + 1) ∧ f + ((n : Int) + 1) ≤ rN R := by omega
    have bf : 0 ≤ f ∧ f ≤ rN R := by omega
    unfold kL
    rw [kcd_cg h hK bf b]
    by_cases q : kval R f (f + ((n : Int) + 1)) ∧ kcd R' K' f (f + ((n : Int) + 1)) < s.1
    · rw [if_pos q, if_pos ⟨(kval_cg h bf b).mp q.1, q.2⟩]
      exact kL_cg h hK hf n _ (by omega)
    · rw [if_neg q, if_neg (fun c => q ⟨(kval_cg h bf b).mpr c.1, c.2⟩)]
      exact kL_cg h hK hf n _ (by omega)
theorem kS_cg (h : rEq R R') (hK : ∀ z, 0 ≤ z → z ≤ rN R → K z = K' z) {f : Int} (hf : 0 ≤ f ∧ f ≤ rN R) : kS R K f = kS R' K' f := by
  unfold kS
  rw [← h.2.1]
  by_cases q : f = rN R
  · rw [if_pos q, if_pos q]
  · rw [if_neg q, if_neg q]
    exact kL_cg h hK hf.1 _ _ (by omega)
theorem kK_cg (h : rEq R R') : ∀ (l : Nat) (f : Int), 0 ≤ f → f ≤ rN R → kK R l f = kK R' l f
  | 0, f, _, _ => by unfold kK; rw [h.2.1]
  | l + 1, f, h0, h1 => by
    show (kS R (kK R l) f).1 = (kS R' (kK R' l) f).1
    rw [kS_cg h (fun z a b => kK_cg h l z a b) ⟨h0, h1⟩]
theorem kT_cg (h : rEq R R') : ∀ (l : Nat) (f : Int), 0 ≤ f → f ≤ rN R → kT R l f = kT R' l f
  | 0, f, _, _ => rfl
  | l + 1, f, h0, h1 => by
    show (kS R (kK R l) f).2 = (kS R' (kK R' l) f).2
    rw [kS_cg h (fun z a b => kK_cg h l z a b) ⟨h0, h1⟩]
theorem kF_cg (h : rEq R R') (hR : rOK R) (hw : kK R 12 0 < 1000000000000000) : ∀ r, kF R r = kF R' r
  | 0 => rfl
  | r + 1 => by
    have i := kF_cg h hR hw r
    have b := kF_ok hR hw r
    show (if kF R r < rN R then kF R r + kT R (12 - r) (kF R r) else kF R r) = (if kF R' r < rN R' then kF R' r + kT R' (12 - r) (kF R' r) else kF R' r)
    rw [← i, ← h.2.1, kT_cg h _ _ b.1 b.2.1]
theorem bQ_cg (h : rEq R R') (hR : rOK R) (how : Int) : bQ R how = bQ R' how := by
  have h12 : kK R 12 0 = kK R' 12 0 := kK_cg h 12 0 (Int.le_refl _) hR.1
  unfold bQ
  rw [gcnt_cg h hR, ← h12]
  by_cases q : kK R 12 0 < 1000000000000000
  · have e : kF R = kF R' := funext (kF_cg h hR q)
    rw [if_pos q, if_pos q]
    unfold kcnt
    rw [e, h.2.1]
  · rw [if_neg q, if_neg q]
theorem bF_cg (h : rEq R R') (hR : rOK R) {how : Int} (hQ : 0 < bQ R how) (r : Nat) : bF R how r = bF R' how r := by
  unfold bF
  by_cases q : how = 0
  · rw [if_pos q, if_pos q]; exact gF_cg h hR r
  · rw [if_neg q, if_neg q]
    refine kF_cg h hR ?_ r
    unfold bQ at hQ
    rw [if_neg q] at hQ
    by_cases w : kK R 12 0 < 1000000000000000
    · exact w
    · rw [if_neg w] at hQ; omega
theorem bcost_cg (h : rEq R R') (hR : rOK R) (how : Int) : bcost R how = bcost R' how := by
  unfold bcost
  rw [← bQ_cg h hR how]
  rcases Nat.eq_zero_or_pos (bQ R how) with q | q
  · rw [q]; rfl
  · refine vs_cg _ (fun i i0 i1 => ?_)
    obtain ⟨-, -, -, b4, -⟩ := bQ_ok hR how
    obtain ⟨c1, c2, c3, -⟩ := b4 i.toNat (by omega)
    unfold bsq
    rw [← bF_cg h hR q, ← bF_cg h hR q, ← h.2.2.1, rwd_cg h ⟨c1, by omega⟩ ⟨by omega, c3⟩]
end RM
section RW
variable {D : vD} {E : Int → Int}
theorem vww_swap (hS : dOS D) {i j g w : Int} (hi : 0 ≤ i ∧ i < dN D) (hj : 0 ≤ j ∧ j < dN D) (hw : 0 ≤ w ∧ w < dN D) : vww (teD D (tS (teN D E) i j)) g w = wX (vww D g) i j w := by
  have lb := hS.2.2.2.1
  have key : ∀ v : Int, 0 ≤ v → v < dN D → dL (teD D (tS (teN D E) i j)) w = dL D v → (∀ k, 0 ≤ k → k < dL D v → dP (teD D (tS (teN D E) i j)) (12 * w + k) = dP D (12 * v + k)) → vww (teD D (tS (teN D E) i j)) g w = vww D g v := fun v v0 v1 hl hp => by
    have l1 := lb v v0 v1
    unfold vww vws
    rw [hl]
    congr 1
    refine vs_cg _ (fun k k0 k1 => ?_)
    unfold vwk
    rw [hp k k0 (by omega)]
    by_cases q : k = 0
    · rw [if_pos q, if_pos q]
      rfl
    · rw [if_neg q, if_neg q, hp (k - 1) (by omega) (by omega)]
      rfl
  have eL : ∀ w, dL (teD D (tS (teN D E) i j)) w = if w = i then dL D j else if w = j then dL D i else dL D w := fun w => rfl
  have eP : ∀ p, dP (teD D (tS (teN D E) i j)) p = if 12 * i ≤ p ∧ p < 12 * i + 12 then dP D (p - 12 * i + 12 * j) else if 12 * j ≤ p ∧ p < 12 * j + 12 then dP D (p - 12 * j + 12 * i) else dP D p := fun p => rfl
  unfold wX
  by_cases q : w = i
  · subst q
    rw [if_pos rfl]
    have l1 := lb j hj.1 hj.2
    exact key j hj.1 hj.2 (by rw [eL, if_pos rfl]) (fun k k0 k1 => by rw [eP, if_pos ⟨by omega, by omega⟩]; congr 1; omega)
  · rw [if_neg q]
    by_cases q2 : w = j
    · subst q2
      rw [if_pos rfl]
      have l1 := lb i hi.1 hi.2
      exact key i hi.1 hi.2 (by rw [eL, if_neg q, if_pos rfl]) (fun k k0 k1 => by rw [eP, if_neg (by omega), if_pos ⟨by omega, by omega⟩]; congr 1; omega)
    · rw [if_neg q2]
      have l1 := lb w hw.1 hw.2
      exact key w hw.1 hw.2 (by rw [eL, if_neg q, if_neg q2]) (fun k k0 k1 => by rw [eP, if_neg (by omega), if_neg (by omega)])
theorem eB_swap (hO : OC D E) {i j : Int} (hi : 0 ≤ i ∧ i < dN D) (hj : 0 ≤ j ∧ j < dN D) : rEq (bR (bX (eB D E) i j)) (bR (eB (teD D (tS (teN D E) i j)) E)) := by
  refine ⟨rfl, rfl, rfl, fun z z0 z1 => ?_⟩
  have z1 : z ≤ dN D := z1
  show (vpi (wX (vww D (E 3)) i j) z + z * E 4) * E 5 = (vpi (vww (teD D (tS (teN D E) i j)) (E 3)) z + z * E 4) * E 5
  rw [vpi_cg (fun w w0 w1 => (vww_swap hO.2.1 hi hj ⟨w0, by omega⟩).symm)]
theorem tS_2 (t : vTE) (i j : Int) : tS (tS t i j) j i = t := by
  obtain ⟨⟨k, l, p, n⟩, e⟩ := t
  show ((k, (fun w => if w = j then (if i = i then l j else if i = j then l i else l i) else if w = i then (if j = i then l j else if j = j then l i else l j) else (if w = i then l j else if w = j then l i else l w)), (fun x => if 12 * j ≤ x ∧ x < 12 * j + 12 then _ else if 12 * i ≤ x ∧ x < 12 * i + 12 then _ else _), n), e) = ((k, l, p, n), e)
  have e1 : (fun w => if w = j then (if i = i then l j else if i = j then l i else l i) else if w = i then (if j = i then l j else if j = j then l i else l j) else (if w = i then l j else if w = j then l i else l w)) = l := by
    funext w
    by_cases a : w = j
    · rw [if_pos a, if_pos rfl, a]
    · rw [if_neg a]
      by_cases b : w = i
      · rw [if_pos b]
        by_cases c : j = i
        · rw [if_pos c]; rw [b, c]
        · rw [if_neg c, if_pos rfl, b]
      · rw [if_neg b, if_neg b, if_neg a]
  have e2 : (fun x => if 12 * j ≤ x ∧ x < 12 * j + 12 then (fun p' => if 12 * i ≤ p' ∧ p' < 12 * i + 12 then p (p' - 12 * i + 12 * j) else if 12 * j ≤ p' ∧ p' < 12 * j + 12 then p (p' - 12 * j + 12 * i) else p p') (x - 12 * j + 12 * i) else if 12 * i ≤ x ∧ x < 12 * i + 12 then (fun p' => if 12 * i ≤ p' ∧ p' < 12 * i + 12 then p (p' - 12 * i + 12 * j) else if 12 * j ≤ p' ∧ p' < 12 * j + 12 then p (p' - 12 * j + 12 * i) else p p') (x - 12 * i + 12 * j) else (if 12 * i ≤ x ∧ x < 12 * i + 12 then p (x - 12 * i + 12 * j) else if 12 * j ≤ x ∧ x < 12 * j + 12 then p (x - 12 * j + 12 * i) else p x)) = p := by
    funext x
    by_cases a : 12 * j ≤ x ∧ x < 12 * j + 12
    · rw [if_pos a]
      show (if 12 * i ≤ x - 12 * j + 12 * i ∧ x - 12 * j + 12 * i < 12 * i + 12 then p (x - 12 * j + 12 * i - 12 * i + 12 * j) else _) = _
      rw [if_pos ⟨by omega, by omega⟩]
      congr 1; omega
    · rw [if_neg a]
      by_cases b : 12 * i ≤ x ∧ x < 12 * i + 12
      · rw [if_pos b]
        show (if 12 * i ≤ x - 12 * i + 12 * j ∧ x - 12 * i + 12 * j < 12 * i + 12 then p (x - 12 * i + 12 * j - 12 * i + 12 * j) else if 12 * j ≤ x - 12 * i + 12 * j ∧ x - 12 * i + 12 * j < 12 * j + 12 then p (x - 12 * i + 12 * j - 12 * j + 12 * i) else _) = _
        by_cases c : 12 * i ≤ x - 12 * i + 12 * j ∧ x - 12 * i + 12 * j < 12 * i + 12
        · rw [if_pos c]; congr 1; omega
        · rw [if_neg c, if_pos ⟨by omega, by omega⟩]; congr 1; omega
      · rw [if_neg b, if_neg b, if_neg a]
  rw [e1]
  exact congrArg (fun f => ((k, l, f, n), e)) e2
end RW
