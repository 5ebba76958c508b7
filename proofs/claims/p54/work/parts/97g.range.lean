/-! ===== the ranges of what is read ===== -/
def pR (g c : Int) (s : vPS) : Prop := (0 < g → 1 ≤ pC s ∧ pC s ≤ 30) ∧ (∀ a, 0 ≤ a → a < 26 → 0 ≤ pW s a ∧ pW s a ≤ 60) ∧ (∀ i, -1 ≤ pS s i ∧ pS s i ≤ 9) ∧ (∀ k, 0 ≤ k → k < c → plo k ≤ pE s k ∧ pE s k ≤ phi (pC s) k) ∧ ∀ k, 0 ≤ k → k < 676 → -9 ≤ pK s k ∧ pK s k ≤ 9
section PG
variable {z : vZs} {g c : Int} {s : vPS} {k : vPS → vRS} {R : vRS}
theorem pg_err {X : Prop} (he : pErr z s = R) (hne : R.1 = true) : X := by
  rw [← he] at hne
  exact Bool.noConfusion hne
theorem pg_name {w : Int} (he : pName z w s k = R) (hne : R.1 = true) : k (padv z s) = R := by
  rw [pName_eq] at he
  by_cases t : tIs (zb z) (zn z) (pp s) w
  · rw [vif_t t] at he; exact he
  · rw [vif_f t] at he; exact pg_err he hne
theorem pg_semi (he : pSemi z s k = R) (hne : R.1 = true) : k (padv z s) = R := by
  unfold pSemi at he
  by_cases t : tKd (zb z) (zn z) (pp s) = 3
  · rw [vif_t t] at he; exact he
  · rw [vif_f t] at he; exact pg_err he hne
theorem pR.xe (h : pR g c s) (hc : 0 ≤ c) {v : Int} (hv : plo c ≤ v ∧ v ≤ phi (pC s) c) : pR g (c + 1) (padv z (psetE s c v)) := by
  refine ⟨h.1, h.2.1, h.2.2.1, fun k a b => ?_, h.2.2.2.2⟩
  show plo k ≤ (if k = c then v else pE s k) ∧ (if k = c then v else pE s k) ≤ phi (pC s) k
  by_cases q : k = c
  · rw [if_pos q, q]; exact hv
  · rw [if_neg q]; exact h.2.2.2.1 k a (by omega)
theorem pR.xs (h : pR g c s) {i v : Int} (hv : -1 ≤ v ∧ v ≤ 9) : pR g c (padv z (psetS s i v)) := by
  refine ⟨h.1, h.2.1, fun j => ?_, h.2.2.2⟩
  show -1 ≤ (if j = i then v else pS s j) ∧ (if j = i then v else pS s j) ≤ 9
  split
  · exact hv
  · exact h.2.2.1 j
theorem pR.xw (h : pR g c s) {a v : Int} (hv : 0 ≤ v ∧ v ≤ 60) : pR g c (padv z (psetW s a v)) := by
  refine ⟨h.1, fun b x y => ?_, h.2.2⟩
  show 0 ≤ (if b = a then v else pW s b) ∧ (if b = a then v else pW s b) ≤ 60
  split
  · exact hv
  · exact h.2.1 b x y
theorem pR.xk (h : pR g c s) {i v : Int} (hv : -9 ≤ v ∧ v ≤ 9) : pR g c (padv z (psetK s i v)) := by
  refine ⟨h.1, h.2.1, h.2.2.1, h.2.2.2.1, fun j x y => ?_⟩
  show -9 ≤ (if j = i then v else pK s j) ∧ (if j = i then v else pK s j) ≤ 9
  split
  · exact hv
  · exact h.2.2.2.2 j x y
theorem pR.xc (h : pR g 3 s) {v : Int} (hv : 1 ≤ v ∧ v ≤ 30) : pR 1 3 (padv z (psetC s v)) := by
  refine ⟨fun _ => hv, h.2.1, h.2.2.1, fun k a b => ?_, h.2.2.2.2⟩
  have := h.2.2.2.1 k a b
  show plo k ≤ pE s k ∧ pE s k ≤ phi v k
  refine ⟨this.1, Int.le_trans this.2 (Int.le_of_eq ?_)⟩
  unfold phi
  simp only [if_neg (show ¬ k = 3 by omega)]
theorem pg_num (h : pR g c s) (hc : 0 ≤ c) (he : pNum z c s k = R) (hne : R.1 = true) : ∃ s', pR g (c + 1) s' ∧ k s' = R := by
  unfold pNum at he
  by_cases t : tNr (zb z) (zn z) (pp s) (plo c) (phi (pC s) c)
  · rw [vif_t t] at he; exact ⟨_, h.xe hc t.2, he⟩
  · rw [vif_f t] at he; exact pg_err he hne
theorem pg_cap (h : pR g 3 s) (he : pCap z s k = R) (hne : R.1 = true) : ∃ s', pR 1 3 s' ∧ k s' = R := by
  unfold pCap at he
  by_cases t : tNr (zb z) (zn z) (pp s) 1 30
  · rw [vif_t t] at he; exact ⟨_, h.xc t.2, he⟩
  · rw [vif_f t] at he; exact pg_err he hne
theorem pg_board (h : pR 0 0 s) (he : pBoard z s k = R) (hne : R.1 = true) : ∃ s', pR 1 6 s' ∧ k s' = R := by
  unfold pBoard at he
  have e1 := pg_name he hne
  obtain ⟨s2, h2, e2⟩ := pg_num (s := padv z s) (c := 0) h (by decide) e1 hne
  obtain ⟨s3, h3, e3⟩ := pg_num (c := 1) h2 (by decide) e2 hne
  have e4 := pg_name e3 hne
  obtain ⟨s5, h5, e5⟩ := pg_num (s := padv z s3) (c := 2) h3 (by decide) e4 hne
  have e6 := pg_name e5 hne
  obtain ⟨s7, h7, e7⟩ := pg_cap (s := padv z s5) h5 e6 hne
  have e8 := pg_name e7 hne
  obtain ⟨s9, h9, e9⟩ := pg_num (s := padv z s7) (c := 3) h7 (by decide) e8 hne
  have e10 := pg_name e9 hne
  obtain ⟨s11, h11, e11⟩ := pg_num (s := padv z s9) (c := 4) h9 (by decide) e10 hne
  have e12 := pg_name e11 hne
  obtain ⟨s13, h13, e13⟩ := pg_num (s := padv z s11) (c := 5) h11 (by decide) e12 hne
  exact ⟨padv z s13, h13, pg_semi e13 hne⟩
theorem pg_side {a r : Int} (hne : R.1 = true) : ∀ (n : Nat) (b : Int) (s : vPS), pR g c s → pSide z a r n b s k = R → ∃ s', pR g c s' ∧ k s' = R
  | 0, _, s, h, he => ⟨s, h, he⟩
  | n + 1, b, s, h, he => by
    unfold pSide at he
    by_cases t : tIs (zb z) (zn z) (pp s) 508078
    · rw [vif_t t] at he
      exact pg_side hne n (b + 1) _ (h.xs (by decide)) he
    · rw [vif_f t] at he
      by_cases t2 : tNr (zb z) (zn z) (pp s) 0 9
      · rw [vif_t t2] at he
        exact pg_side hne n (b + 1) _ (h.xs ⟨by have := t2.2.1; omega, t2.2.2⟩) he
      · rw [vif_f t2] at he; exact pg_err he hne
theorem pg_letter (h : pR g c s) (he : pLetter z s k = R) (hne : R.1 = true) : ∃ s', pR g c s' ∧ k s' = R := by
  unfold pLetter at he
  have e1 := pg_name he hne
  try dsimp only at e1
  have h1 : pR g c (padv z s) := h
  generalize padv z s = s1 at *
  by_cases t : ¬ tLt (zb z) (zn z) (pp s1) = -1 ∧ ¬ 0 < pW s1 (tLt (zb z) (zn z) (pp s1))
  · rw [vif_t t] at e1
    generalize tLt (zb z) (zn z) (pp s1) = a at *
    have e2 := pg_name e1 hne
    try dsimp only at e2
    have h2 : pR g c (padv z (padv z s1)) := h1
    generalize padv z (padv z s1) = s2 at *
    by_cases t2 : tNr (zb z) (zn z) (pp s2) 1 60
    · rw [vif_t t2] at e2
      have h3 : pR g c (padv z (psetW s2 a (tN (zb z) (zn z) (pp s2)))) := h2.xw ⟨by have := t2.2.1; omega, t2.2.2⟩
      generalize padv z (psetW s2 a (tN (zb z) (zn z) (pp s2))) = s3 at *
      have e3 := pg_name e2 hne
      try dsimp only at e3
      obtain ⟨s4, h4, e4⟩ := pg_side hne 6 0 (padv z s3) h3 e3
      have e5 := pg_name e4 hne
      try dsimp only at e5
      obtain ⟨s6, h6, e6⟩ := pg_side hne 6 0 (padv z s4) h4 e5
      exact ⟨padv z s6, h6, pg_semi e6 hne⟩
    · rw [vif_f t2] at e2; exact pg_err e2 hne
  · rw [vif_f t] at e1; exact pg_err e1 hne
theorem pg_by {i : Int} {f : Int → Int} (hf : ∀ n, 0 ≤ n ∧ n ≤ 9 → -9 ≤ f n ∧ f n ≤ 9) (h : pR g c s) (he : pBy z i f s k = R) (hne : R.1 = true) : ∃ s', pR g c s' ∧ k s' = R := by
  unfold pBy at he
  by_cases t : tNr (zb z) (zn z) (pp s) 0 9
  · rw [vif_t t] at he
    have h1 : pR g c (padv z (psetK s i (f (tN (zb z) (zn z) (pp s))))) := h.xk (hf _ t.2)
    exact ⟨padv z (padv z (psetK s i (f (tN (zb z) (zn z) (pp s))))), h1, pg_semi he hne⟩
  · rw [vif_f t] at he; exact pg_err he hne
theorem pg_pair (h : pR g c s) (he : pPair z s k = R) (hne : R.1 = true) : ∃ s', pR g c s' ∧ k s' = R := by
  unfold pPair at he
  have e1 := pg_name he hne
  try dsimp only at e1
  have h1 : pR g c (padv z s) := h
  generalize padv z s = s1 at *
  unfold pPair1 at e1
  by_cases t : pKn s1 (tLt (zb z) (zn z) (pp s1))
  · rw [vif_t t] at e1
    have h2 : pR g c (padv z s1) := h1
    generalize padv z s1 = s2 at *
    unfold pPair2 at e1
    by_cases t2 : pKn s2 (tLt (zb z) (zn z) (pp s2))
    · rw [vif_t t2] at e1
      have h3 : pR g c (padv z s2) := h2
      generalize padv z s2 = s3 at *
      unfold pPair3 at e1
      by_cases t3 : tIs (zb z) (zn z) (pp s3) 113757362
      · rw [vif_t t3] at e1
        exact pg_by (s := padv z s3) (fun n hn => ⟨by show -9 ≤ -n; omega, by show -n ≤ 9; omega⟩) h3 e1 hne
      · rw [vif_f t3] at e1
        have e2 := pg_name e1 hne
        exact pg_by (s := padv z s3) (fun n hn => ⟨by show -9 ≤ n; omega, by show n ≤ 9; omega⟩) h3 e2 hne
    · rw [vif_f t2] at e1; exact pg_err e1 hne
  · rw [vif_f t] at e1; exact pg_err e1 hne
theorem pg_lets (hne : R.1 = true) : ∀ (n : Nat) (s : vPS), pR g c s → pLets z n s k = R → ∃ s', pR g c s' ∧ k s' = R
  | 0, s, h, he => ⟨s, h, he⟩
  | n + 1, s, h, he => by
    unfold pLets at he
    by_cases t : tIs (zb z) (zn z) (pp s) 408572082
    · rw [vif_t t] at he
      obtain ⟨s2, h2, e2⟩ := pg_letter h he hne
      exact pg_lets hne n s2 h2 e2
    · rw [vif_f t] at he; exact ⟨s, h, he⟩
theorem pg_pairs (hne : R.1 = true) : ∀ (n : Nat) (s : vPS), pR g c s → pPairs z n s k = R → ∃ s', pR g c s' ∧ k s' = R
  | 0, s, h, he => ⟨s, h, he⟩
  | n + 1, s, h, he => by
    unfold pPairs at he
    by_cases t : tKd (zb z) (zn z) (pp s) = 0
    · rw [vif_t t] at he; exact ⟨s, h, he⟩
    · rw [vif_f t] at he
      obtain ⟨s2, h2, e2⟩ := pg_pair h he hne
      exact pg_pairs hne n s2 h2 e2
theorem pg_load {C : Int} {s' : vPS} (he : pLoad z (pz0 C) = (true, -2, s')) : pR 1 6 s' := by
  have h0 : pR 0 0 (pz0 C) := ⟨fun q => absurd q (by decide), fun a _ _ => by show (0 : Int) ≤ 0 ∧ (0 : Int) ≤ 60; decide, fun i => by show (-1 : Int) ≤ 0 ∧ (0 : Int) ≤ 9; decide, fun k a b => by omega, fun k _ _ => by show (-9 : Int) ≤ 0 ∧ (0 : Int) ≤ 9; decide⟩
  unfold pLoad at he
  obtain ⟨s1, h1, e1⟩ := pg_board h0 he rfl
  obtain ⟨s2, h2, e2⟩ := pg_letter h1 e1 rfl
  obtain ⟨s3, h3, e3⟩ := pg_lets rfl 26 s2 h2 e2
  obtain ⟨s4, h4, e4⟩ := pg_pairs rfl _ s3 h3 e3
  have e5 : s4 = s' := congrArg (fun r : vRS => r.2.2) e4
  rw [← e5]; exact h4
end PG
