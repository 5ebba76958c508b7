/-! ===== good states; an act ===== -/
/-- the alphabet: L letters, each third from the first -/
def lGa (L : Nat) (D : vD) : Prop := (2 ≤ L ∧ L ≤ 5) ∧ (1 ≤ dC D ∧ dC D ≤ 12) ∧ vs (vtl D) 26 = L ∧ ∀ i : Int, dk D i ↔ (0 ≤ i ∧ i < 3 * (L : Int) ∧ i % 3 = 0)
/-- only told pairs are corrected -/
def lGk (D : vD) : Prop := ∀ k, 0 ≤ k → k < 676 → dK D k ≠ 0 → dk D (k / 26) ∧ dk D (k % 26)
def lGe (E : Int → Int) : Prop := (20 ≤ E 0 ∧ E 0 ≤ 219) ∧ E 2 ≤ 11 ∧ E 4 ≤ 11 ∧ E 5 ≤ 3
def lGw (D : vD) : Prop := (1 ≤ dN D ∧ dN D ≤ 9) ∧ ∀ w, 0 ≤ w → w < dN D → dL D w ≤ 5
def lGd (L : Nat) (D : vD) (E : Int → Int) : Prop := lGa L D ∧ lGk D ∧ lGe E ∧ lGw D
/-- what an act does: nothing, or one operation -/
def lAo (L : Nat) (D : vD) (E : Int → Int) (z : vZs) (r : Int) (t : vTE) (z' : vZs) : Prop := lGd L (teD D t) t.2 ∧ ((r < 0 ∧ t = teN D E ∧ z' = z) ∨ (0 ≤ r ∧ z' = zP z (teN D E)))
section LAC
variable {L : Nat} {D : vD} {E : Int → Int} {z : vZs} {o q : Nat} {S : lwS} {P : Int → lwS → Prop}
theorem la_stay (hG : lGd L D E) {S' : lwS} {r : Int} (hr : r < 0) (kk : ∀ r t z' S', lAo L D E z r t z' → lT D t z' o S' → lsame o S S' → P r S') (hs : lsame o S S') (hO : lO D E z o S') : P r S' :=
  kk r (teN D E) z S' ⟨hG, Or.inl ⟨hr, rfl, rfl⟩⟩ hO hs
theorem la_num (hO : lO D E z o S) (hG : lGd L D E) {k v : Int} (hk : k < 6 ∧ vok D k v) (h0 : 0 ≤ E k) (he : lGe (fun i => if i = k then v else E i)) (kk : ∀ r t z' S', lAo L D E z r t z' → lT D t z' o S' → lsame o S S' → P r S') : lNn 106 o [k, v] S P :=
  lp_setNumber hO (fun c => absurd hk c) (fun _ _ S' hs hO' => la_stay hG (by decide) kk hs hO') (fun _ _ S' hs hT => kk _ (tE (teN D E) k v) _ S' ⟨⟨hG.1, hG.2.1, he, hG.2.2.2⟩, Or.inr ⟨h0, rfl⟩⟩ hT hs)
theorem la_correct (hO : lO D E z o S) (hG : lGd L D E) {a b v : Int} (h : dk D a ∧ dk D b ∧ -9 ≤ v ∧ v ≤ 9) (kk : ∀ r t z' S', lAo L D E z r t z' → lT D t z' o S' → lsame o S S' → P r S') : lNn 107 o [a, b, v] S P := by
  have hb := hO.1.2.1.1 (26 * a + b) (by have := h.1.1; have := h.2.1.1; omega) (by have := h.1.2.1; have := h.2.1.2.1; omega)
  refine lp_correct hO (fun c => absurd h c) (fun _ _ S' hs hO' => la_stay hG (by decide) kk hs hO') (fun _ _ S' hs hT => kk _ (tK (teN D E) (26 * a + b) v) _ S' ⟨⟨hG.1, fun k k0 k1 k2 => ?_, hG.2.2⟩, Or.inr ⟨by omega, rfl⟩⟩ hT hs)
  have k2 : (if k = 26 * a + b then v else dK D k) ≠ 0 := k2
  show dk D (k / 26) ∧ dk D (k % 26)
  by_cases e : k = 26 * a + b
  · have := h.2.1.1
    have := h.2.1.2.1
    rw [show k / 26 = a by omega, show k % 26 = b by omega]
    exact ⟨h.1, h.2.1⟩
  · rw [if_neg e] at k2
    exact hG.2.1 k k0 k1 k2
theorem la_break (hO : lO D E z o S) (hG : lGd L D E) {v : Int} (h : v = 0 ∨ v = 1) (kk : ∀ r t z' S', lAo L D E z r t z' → lT D t z' o S' → lsame o S S' → P r S') : lNn 108 o [v] S P :=
  lp_setBreak hO (fun c => absurd h c) (fun _ _ S' hs hO' => la_stay hG (by decide) kk hs hO') (fun _ _ S' hs hT => kk _ (tE (teN D E) 6 v) _ S' ⟨⟨hG.1, hG.2.1, hG.2.2.1, hG.2.2.2⟩, Or.inr ⟨by have := hO.1.2.2.2.2.2.2.2.2.1; omega, rfl⟩⟩ hT hs)
theorem la_fill (hO : lO D E z o S) (hG : lGd L D E) {v : Int} (h : v = 0 ∨ v = 1) (kk : ∀ r t z' S', lAo L D E z r t z' → lT D t z' o S' → lsame o S S' → P r S') : lNn 109 o [v] S P :=
  lp_setFill h hO (fun _ S' hs hO' => la_stay hG (by decide) kk hs hO') (fun _ S' hs hT => kk _ (tE (teN D E) 7 v) _ S' ⟨⟨hG.1, hG.2.1, hG.2.2.1, hG.2.2.2⟩, Or.inr ⟨by decide, rfl⟩⟩ hT hs)
theorem la_swap (hO : lO D E z o S) (hG : lGd L D E) {i j : Int} (kk : ∀ r t z' S', lAo L D E z r t z' → lT D t z' o S' → lsame o S S' → P r S') : lNn 110 o [i, j] S P := by
  refine lp_swap hO (fun _ S' hs hO' => la_stay hG (by decide) kk hs hO') (fun h S' hs hT => kk _ (tS (teN D E) i j) _ S' ⟨⟨hG.1, hG.2.1, hG.2.2.1, hG.2.2.2.1, fun w w0 w1 => ?_⟩, Or.inr ⟨Int.natCast_nonneg _, rfl⟩⟩ hT hs)
  show (if w = i then dL D j else if w = j then dL D i else dL D w) ≤ 5
  (repeat' split)
  · exact hG.2.2.2.2 j h.2.1.1 h.2.1.2
  · exact hG.2.2.2.2 i h.1.1 h.1.2
  · exact hG.2.2.2.2 w w0 w1
end LAC
section LAD
variable {L : Nat} {D : vD} {E : Int → Int} {z : vZs} {o q : Nat}
theorem ld_acts {S : lwS} {Qp : Option vm_V → lwS → Prop} (hO : lO D E z o S) (hQ : lQ q S) (hG : lGd L D E) (kk : ∀ r t z' S', lAo L D E z r t z' → lT D t z' o S' → lQ q S' → lk2 o q S S' → S'.2 = S.2 → Qp (some (vm_i r)) S') : lG lK_acts 0 (lEn lK_acts [vm_r o, vm_r q]) [] S Qp := by
  have hOC := hO.1
  obtain ⟨e0, e1, e2, e3, e4, e5, e6, e7⟩ := hOC.2.2
  obtain ⟨⟨⟨L2, L5⟩, ⟨C1, C2⟩, hL, hdk⟩, hK, ⟨g0, g2, g4, g5⟩, ⟨n1, n9⟩, nl⟩ := hG
  have hG : lGd L D E := ⟨⟨⟨L2, L5⟩, ⟨C1, C2⟩, hL, hdk⟩, hK, ⟨g0, g2, g4, g5⟩, ⟨n1, n9⟩, nl⟩
  have v9 : a_value D E 9 = (L : Int) := hL
  have v6 : a_value D E 6 = dC D := rfl
  have v11 : a_value D E 11 = dN D := rfl
  have dr : ∀ {d m : Int}, 0 < m → 0 ≤ d % m ∧ d % m < m := fun h => ⟨Int.emod_nonneg _ (by omega), Int.emod_lt_of_pos _ h⟩
  refine rL_acts_0 (lq_value hO (fun S1 hs1 hO1 => ln_draw (hQ.o hO hs1.fr) (fun d S2 hd hs2 hQ2 => ?_)))
  rw [v11]
  have hO2 : lO D E z o S2 := hO1.q (hQ.o hO hs1.fr) hs2.fr
  have k2 : lk2 o q S S2 := hs1.ko.tr hs2.kq
  have b2 : S2.2 = S.2 := by rw [hs2.2, hs1.2]
  -- one number drawn, then a call
  have d1 : ∀ (S3 : lwS) (P : Int → lwS → Prop), lO D E z o S3 → lQ q S3 → lk2 o q S S3 → S3.2 = S.2 → (∀ d S4, 0 ≤ d ∧ d ≤ 32767 → lO D E z o S4 → lQ q S4 → lk2 o q S S4 → S4.2 = S.2 → P d S4) → lCi lK_draw [vm_r q] S3 P := fun S3 P hO3 hQ3 hk3 hb3 h => ln_draw hQ3 (fun d S4 hd hs hQ4 => h d S4 hd (hO3.q hQ3 hs.fr) hQ4 (hk3.tr hs.kq) (by rw [hs.2]; exact hb3))
  have fin : ∀ (S4 : lwS), lO D E z o S4 → lQ q S4 → lk2 o q S S4 → S4.2 = S.2 → ∀ r t z' S', lAo L D E z r t z' → lT D t z' o S' → lsame o S4 S' → Qp (some (vm_i r)) S' := fun S4 hO4 hQ4 hk4 hb4 r t z' S' hA hT hs => kk r t z' S' hA hT (hQ4.o hO4 hs.fr) (hk4.tr hs.ko) (by rw [hs.2]; exact hb4)
  refine ⟨⟨hd.1, by decide⟩, fun _ => ?_, fun _ => ?_, fun _ => ?_, fun _ => ?_, fun _ => ?_, fun _ => ?_, fun _ => ?_, fun _ => ?_⟩
  · refine d1 S2 _ hO2 hQ2 k2 b2 (fun d S4 hd hO4 hQ4 hk4 hb4 => ?_)
    have m := dr (d := d) (m := 200) (by decide)
    exact ⟨⟨hd.1, by decide⟩, ⟨by omega, by omega⟩, la_num hO4 hG ⟨by decide, Or.inl ⟨rfl, by omega, by omega⟩⟩ (by omega) ⟨by show 20 ≤ 20 + d % 200 ∧ 20 + d % 200 ≤ 219; omega, g2, g4, g5⟩ (fin S4 hO4 hQ4 hk4 hb4)⟩
  · refine d1 S2 _ hO2 hQ2 k2 b2 (fun d S4 hd hO4 hQ4 hk4 hb4 => lq_value hO4 (fun S5 hs5 hO5 => ?_))
    rw [v6]
    have m := dr (d := d) (m := dC D + 1) (by omega)
    exact ⟨⟨by omega, by omega⟩, ⟨hd.1, by omega⟩, la_num hO5 hG ⟨by decide, Or.inr (Or.inr (Or.inr (Or.inl ⟨rfl, by omega, by omega⟩)))⟩ (by omega) ⟨g0, g2, g4, g5⟩ (fin S5 hO5 (hQ4.o hO4 hs5.fr) (hk4.tr hs5.ko) (by rw [hs5.2]; exact hb4))⟩
  · refine d1 S2 _ hO2 hQ2 k2 b2 (fun d S4 hd hO4 hQ4 hk4 hb4 => ?_)
    have m := dr (d := d) (m := 2) (by decide)
    refine ⟨⟨hd.1, by decide⟩, ⟨by omega, by omega⟩, ⟨by omega, by omega⟩, d1 S4 _ hO4 hQ4 hk4 hb4 (fun d2 S5 hd2 hO5 hQ5 hk5 hb5 => ?_)⟩
    have m2 := dr (d := d2) (m := 12) (by decide)
    refine ⟨⟨hd2.1, by decide⟩, ?_⟩
    have : d % 2 = 0 ∨ d % 2 = 1 := by omega
    rcases this with e | e <;> rw [e]
    · exact la_num (k := 2) hO5 hG ⟨by decide, Or.inr (Or.inr (Or.inl ⟨rfl, by omega, by omega⟩))⟩ (by omega) ⟨g0, by show d2 % 12 ≤ 11; omega, g4, g5⟩ (fin S5 hO5 hQ5 hk5 hb5)
    · exact la_num (k := 4) hO5 hG ⟨by decide, Or.inr (Or.inr (Or.inr (Or.inr (Or.inl ⟨rfl, by omega, by omega⟩))))⟩ (by omega) ⟨g0, g2, by show d2 % 12 ≤ 11; omega, g5⟩ (fin S5 hO5 hQ5 hk5 hb5)
  · refine d1 S2 _ hO2 hQ2 k2 b2 (fun d S4 hd hO4 hQ4 hk4 hb4 => ?_)
    have m := dr (d := d) (m := 3) (by decide)
    exact ⟨⟨hd.1, by decide⟩, ⟨by omega, by omega⟩, la_num hO4 hG ⟨by decide, Or.inr (Or.inr (Or.inr (Or.inr (Or.inr (Or.inl ⟨rfl, by omega, by omega⟩)))))⟩ (by omega) ⟨g0, g2, g4, by show 1 + d % 3 ≤ 3; omega⟩ (fin S4 hO4 hQ4 hk4 hb4)⟩
  · refine d1 S2 _ hO2 hQ2 k2 b2 (fun d S4 hd hO4 hQ4 hk4 hb4 => lq_value hO4 (fun S5 hs5 hO5 => ?_))
    rw [v9]
    have m := dr (d := d) (m := (L : Int)) (by omega)
    refine ⟨⟨hd.1, by omega⟩, ⟨by omega, by omega⟩, d1 S5 _ hO5 (hQ4.o hO4 hs5.fr) (hk4.tr hs5.ko) (by rw [hs5.2]; exact hb4) (fun d2 S6 hd2 hO6 hQ6 hk6 hb6 => lq_value hO6 (fun S7 hs7 hO7 => ?_))⟩
    rw [v9]
    have m2 := dr (d := d2) (m := (L : Int)) (by omega)
    refine ⟨⟨hd2.1, by omega⟩, ⟨by omega, by omega⟩, d1 S7 _ hO7 (hQ6.o hO6 hs7.fr) (hk6.tr hs7.ko) (by rw [hs7.2]; exact hb6) (fun d3 S8 hd3 hO8 hQ8 hk8 hb8 => ?_)⟩
    have m3 := dr (d := d3) (m := 19) (by decide)
    exact ⟨⟨hd3.1, by decide⟩, ⟨by omega, by omega⟩, la_correct hO8 hG ⟨(hdk _).mpr ⟨by omega, by omega, by omega⟩, (hdk _).mpr ⟨by omega, by omega, by omega⟩, by omega, by omega⟩ (fin S8 hO8 hQ8 hk8 hb8)⟩
  · refine d1 S2 _ hO2 hQ2 k2 b2 (fun d S4 hd hO4 hQ4 hk4 hb4 => ?_)
    have m := dr (d := d) (m := 2) (by decide)
    exact ⟨⟨hd.1, by decide⟩, la_break hO4 hG (by omega) (fin S4 hO4 hQ4 hk4 hb4)⟩
  · refine d1 S2 _ hO2 hQ2 k2 b2 (fun d S4 hd hO4 hQ4 hk4 hb4 => ⟨⟨hd.1, by decide⟩, fun _ => ?_, fun _ => ?_⟩)
    · exact rL_acts_199 (la_fill hO4 hG (Or.inl rfl) (fin S4 hO4 hQ4 hk4 hb4))
    · exact rL_acts_199 (la_fill hO4 hG (Or.inr rfl) (fin S4 hO4 hQ4 hk4 hb4))
  · refine d1 S2 _ hO2 hQ2 k2 b2 (fun d S4 hd hO4 hQ4 hk4 hb4 => ⟨⟨hd.1, by split <;> omega⟩, d1 S4 _ hO4 hQ4 hk4 hb4 (fun d2 S5 hd2 hO5 hQ5 hk5 hb5 => ⟨⟨hd2.1, by split <;> omega⟩, ?_⟩)⟩)
    exact la_swap hO5 hG (fin S5 hO5 hQ5 hk5 hb5)
theorem ln_acts {S : lwS} {P : Int → lwS → Prop} (hO : lO D E z o S) (hQ : lQ q S) (hG : lGd L D E) (kk : ∀ r t z' S', lAo L D E z r t z' → lT D t z' o S' → lQ q S' → lk2 o q S S' → S'.2 = S.2 → P r S') : lCi lK_acts [vm_r o, vm_r q] S P :=
  ⟨0, 0, ⟨Nat.zero_le _, Nat.zero_le _⟩, ld_acts (S := (S.1, 0, 0)) hO hQ hG (fun r t z' S' hA hT hQ' hk _ => ⟨r, rfl, kk r t z' _ hA hT hQ' hk rfl⟩)⟩
end LAD
