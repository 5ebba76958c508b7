/-! ===== a whole setup, read ===== -/
def lPf (ps : List (Int × Int × Bool × Int)) (K : Int → Int) : Int → Int := ps.foldl (fun K q j => if j = 26 * q.1 + q.2.1 then lPk q else K j) K
section LLO
variable {z : vZs}
theorem lPs_len : ∀ ps : List (Int × Int × Bool × Int), ps.length ≤ (lPs ps).length
  | [] => Nat.le_refl _
  | q :: r => by
    have := lPs_len r
    unfold lPs lPr
    simp only [List.length_append, List.length_cons, List.length_nil]
    omega
theorem lpPairs : ∀ (ps : List (Int × Int × Bool × Int)) (n : Nat) (s : vPS), ps.length ≤ n → lTp z (pp s) (lPs ps) → (∀ q ∈ ps, pKn s q.1 ∧ pKn s q.2.1 ∧ 0 ≤ q.2.2.2 ∧ q.2.2.2 ≤ 9) → ∃ s', (∀ k, pPairs z n s k = k s') ∧ pW s' = pW s ∧ pC s' = pC s ∧ pE s' = pE s ∧ pS s' = pS s ∧ pK s' = lPf ps (pK s)
  | [], n, s, _, h, _ => by
    refine ⟨s, fun k => ?_, rfl, rfl, rfl, rfl, rfl⟩
    cases n with
    | zero => rfl
    | succ n => rw [pPairs, vif_t (lEnd h)]
  | q :: r, n, s, hn, h, hq => by
    cases n with
    | zero => simp at hn
    | succ n =>
      have h0 := hq q List.mem_cons_self
      obtain ⟨⟨-, i2⟩, s1, g1, g2, g3, g4, g5, g6, g7⟩ := lpPair (q := q) (rest := lPs r) h h0.1 h0.2.1 h0.2.2
      obtain ⟨s2, k1, k2, k3, k4, k5, k6⟩ := lpPairs r n s1 (by simp at hn; omega) g2 (fun q9 h9 => by
        have := hq q9 (List.mem_cons_of_mem _ h9)
        unfold pKn at this ⊢
        rw [g3]
        exact this)
      refine ⟨s2, fun k => by rw [pPairs, vif_f i2, g1, k1], by rw [k2, g3], by rw [k3, g4], by rw [k4, g5], by rw [k5, g6], ?_⟩
      rw [k6]
      unfold lPf
      rw [List.foldl_cons]
      congr 1
      funext j
      exact g7 j
theorem lPs_no {ps : List (Int × Int × Bool × Int)} {s : vPS} (h : lTp z (pp s) (lPs ps)) (hq : ∀ q ∈ ps, 0 ≤ q.1) : ¬ tIs (zb z) (zn z) (pp s) 408572082 := by
  cases ps with
  | nil =>
    have := lEnd h
    exact fun q => by have := q.1; omega
  | cons q r =>
    unfold lPs lPr at h
    exact lNotName0 (K := 408572082) h (by decide) (lk_all (by decide)) (lh_sp (by decide)) (by decide)
theorem lpLets {W S : Int → Int} {ps : List (Int × Int × Bool × Int)} (hps : ∀ q ∈ ps, 0 ≤ q.1) : ∀ (n m : Nat) (a : Int) (s : vPS), n ≤ m → lTp z (pp s) (lLs W S n a (lPs ps)) → 0 ≤ a → a + 3 * n ≤ 28 → (∀ i : Nat, i < n → 1 ≤ W (a + 3 * i) ∧ W (a + 3 * i) ≤ 60 ∧ ¬ 0 < pW s (a + 3 * i) ∧ ∀ j, 0 ≤ j → j < 12 → -1 ≤ S (12 * (a + 3 * i) + j) ∧ S (12 * (a + 3 * i) + j) ≤ 9) → ∃ s', (∀ k, pLets z m s k = k s') ∧ lTp z (pp s') (lPs ps) ∧ (∀ i, pW s' i = if a ≤ i ∧ i < a + 3 * n ∧ (i - a) % 3 = 0 then W i else pW s i) ∧ pC s' = pC s ∧ pE s' = pE s ∧ pK s' = pK s ∧ ∀ j, pS s' j = if a ≤ j / 12 ∧ j / 12 < a + 3 * n ∧ (j / 12 - a) % 3 = 0 then S j else pS s j
  | 0, m, a, s, _, h, _, _, _ => by
    refine ⟨s, fun k => ?_, h, fun i => by rw [if_neg (by omega)], rfl, rfl, rfl, fun j => by rw [if_neg (by omega)]⟩
    cases m with
    | zero => rfl
    | succ m => rw [pLets, vif_f (lPs_no h hps)]
  | n + 1, m, a, s, hm, h, ha, ha2, hw => by
    cases m with
    | zero => simp at hm
    | succ m =>
      have h0 := hw 0 (by omega)
      rw [show a + 3 * ((0 : Nat) : Int) = a by omega] at h0
      obtain ⟨i1, s1, g1, g2, g3, g4, g5, g6, g7⟩ := lpLetter (a := a) (W := W a) (f := fun j => S (12 * a + j)) (rest := lLs W S n (a + 3) (lPs ps)) h ⟨ha, by omega⟩ ⟨h0.1, h0.2.1⟩ h0.2.2.2 h0.2.2.1
      obtain ⟨s2, k1, k2, k3, k4, k5, k6, k7⟩ := lpLets hps n m (a + 3) s1 (by omega) g2 (by omega) (by omega) (fun i hi => by
        have := hw (i + 1) (by omega)
        rw [show a + 3 * ((i + 1 : Nat) : Int) = a + 3 + 3 * (i : Int) by omega] at this
        rw [g3, if_neg (by omega)]
        exact this)
      refine ⟨s2, fun k => by rw [pLets, vif_t i1, g1, k1], k2, fun i => ?_, by rw [k4, g4], by rw [k5, g5], by rw [k6, g6], fun j => ?_⟩
      · rw [k3, g3]
        by_cases q1 : i = a
        · subst q1
          rw [if_neg (by omega), if_pos rfl, if_pos (by omega)]
        · by_cases q2 : a + 3 ≤ i ∧ i < a + 3 + 3 * (n : Int) ∧ (i - (a + 3)) % 3 = 0
          · rw [if_pos q2, if_pos (by omega)]
          · rw [if_neg q2, if_neg q1, if_neg (by omega)]
      · rw [k7, g7]
        by_cases q1 : j / 12 = a
        · rw [if_neg (by omega), if_pos (by omega), if_pos (by omega), show 12 * a + (j - 12 * a) = j by omega]
        · by_cases q2 : a + 3 ≤ j / 12 ∧ j / 12 < a + 3 + 3 * (n : Int) ∧ (j / 12 - (a + 3)) % 3 = 0
          · rw [if_pos q2, if_pos (by omega)]
          · rw [if_neg q2, if_neg (by omega), if_neg (by omega)]
/-- a setup's text -/
def lSetT (e : Int → Int) (C : Int) (W S : Int → Int) (n : Nat) (ps : List (Int × Int × Bool × Int)) : List Int := lBoard e C (lLs W S n 0 (lPs ps))
/-- it is one that can be read -/
def lSetOk (e : Int → Int) (C : Int) (W S : Int → Int) (n : Nat) (ps : List (Int × Int × Bool × Int)) : Prop := (1 ≤ C ∧ C ≤ 30) ∧ (∀ k, 0 ≤ k → k < 6 → plo k ≤ e k ∧ e k ≤ phi C k) ∧ (1 ≤ n ∧ n ≤ 9) ∧ (∀ i : Nat, i < n → 1 ≤ W (3 * i) ∧ W (3 * i) ≤ 60 ∧ ∀ j, 0 ≤ j → j < 12 → -1 ≤ S (12 * (3 * i) + j) ∧ S (12 * (3 * i) + j) ≤ 9) ∧ ∀ q ∈ ps, (∃ i j : Nat, i < n ∧ j < n ∧ q.1 = 3 * (i : Int) ∧ q.2.1 = 3 * (j : Int)) ∧ 0 ≤ q.2.2.2 ∧ q.2.2.2 ≤ 9
theorem lpLoad {e : Int → Int} {C : Int} {W S : Int → Int} {n : Nat} {ps : List (Int × Int × Bool × Int)} (h : lTp z 0 (lSetT e C W S n ps)) (hok : lSetOk e C W S n ps) (C0 : Int) : ∃ s', pLoad z (pz0 C0) = (true, -2, s') ∧ pC s' = C ∧ (∀ k, 0 ≤ k → k < 6 → pE s' k = e k) ∧ (∀ i, pW s' i = if 0 ≤ i ∧ i < 3 * n ∧ i % 3 = 0 then W i else 0) ∧ (∀ j : Int, 0 ≤ j / 12 → j / 12 < 3 * n → j / 12 % 3 = 0 → pS s' j = S j) ∧ pK s' = lPf ps (fun _ => 0) := by
  obtain ⟨hC, he, hn, hL, hP⟩ := hok
  obtain ⟨s1, g1, g2, g3, g4, g5, g6, g7⟩ := lpBoard (s := pz0 C0) h hC he
  have hps : ∀ q ∈ ps, 0 ≤ q.1 := fun q hq => by
    obtain ⟨⟨i, j, -, -, e1, -⟩, -⟩ := hP q hq
    omega
  have w1 : ∀ i, pW s1 i = 0 := fun i => by rw [g3]; rfl
  obtain ⟨n', rfl⟩ : ∃ n', n = n' + 1 := ⟨n - 1, by omega⟩
  have h0 := hL 0 (by omega)
  rw [show 3 * ((0 : Nat) : Int) = 0 by omega] at h0
  obtain ⟨-, s2, k1, k2, k3, k4, k5, k6, k7⟩ := lpLetter (s := s1) (a := 0) (W := W 0) (f := fun j => S (12 * 0 + j)) (rest := lLs W S n' (0 + 3) (lPs ps)) g2 ⟨by decide, by decide⟩ ⟨h0.1, h0.2.1⟩ h0.2.2 (by rw [w1]; decide)
  obtain ⟨s3, l1, l2, l3, l4, l5, l6, l7⟩ := lpLets (W := W) (S := S) hps n' 26 (0 + 3) s2 (by omega) k2 (by omega) (by omega) (fun i hi => by
    have := hL (i + 1) (by omega)
    rw [show 3 * ((i + 1 : Nat) : Int) = 0 + 3 + 3 * (i : Int) by omega] at this
    rw [k3, if_neg (by omega), w1]
    exact ⟨this.1, this.2.1, by decide, this.2.2⟩)
  have w3 : ∀ i, pW s3 i = if 0 ≤ i ∧ i < 3 * ((n' + 1 : Nat) : Int) ∧ i % 3 = 0 then W i else 0 := fun i => by
    rw [l3, k3, w1]
    by_cases q1 : i = 0
    · subst q1
      rw [if_neg (by omega), if_pos rfl, if_pos (by omega)]
    · by_cases q2 : 0 + 3 ≤ i ∧ i < 0 + 3 + 3 * (n' : Int) ∧ (i - (0 + 3)) % 3 = 0
      · rw [if_pos q2, if_pos (by omega)]
      · rw [if_neg q2, if_neg q1, if_neg (by omega)]
  have kn : ∀ i : Nat, i < n' + 1 → pKn s3 (3 * (i : Int)) := fun i hi => by
    refine ⟨by omega, by omega, ?_⟩
    rw [w3, if_pos (by omega)]
    have := (hL i hi).1
    omega
  have zl := l2.2.1
  have pl := lPs_len ps
  have p3 : 0 ≤ pp s3 := l2.1
  obtain ⟨s4, m1, m2, m3, m4, m5, m6⟩ := lpPairs ps (zn z).toNat s3 (by omega) l2 (fun q hq => by
    obtain ⟨⟨i, j, hi, hj, e1, e2⟩, h1, h2⟩ := hP q hq
    rw [e1, e2]
    exact ⟨kn i hi, kn j hj, h1, h2⟩)
  refine ⟨s4, ?_, by rw [m3, l4, k4, g5], fun k k0 k6' => by rw [m4, l5, k5]; exact g6 k k0 k6', fun i => by rw [m2]; exact w3 i, fun j j1 j2 j3 => ?_, by rw [m6, l6, k6, g7]; rfl⟩
  · unfold pLoad
    rw [g1, k1, l1, m1]
  · rw [m5, l7]
    by_cases q1 : j / 12 = 0
    · rw [if_neg (by omega), k7, if_pos (by omega), show 12 * 0 + (j - 12 * 0) = j by omega]
    · rw [if_pos (by omega)]
end LLO
