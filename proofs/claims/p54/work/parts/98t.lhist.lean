/-! ===== operations and their undoing; searches for the best ===== -/
/-- the newest entries of the history -/
def lHl (z : vZs) (ts : List vTE) : Prop := ts.length ≤ zc z ∧ ∀ (i : Nat) (t : vTE), ts[i]? = some t → zh z (zc z - 1 - i) = t
theorem lHl.nil {z : vZs} : lHl z [] := ⟨Nat.zero_le _, fun i t h => by simp at h⟩
theorem lHl.push {z : vZs} {ts : List vTE} (h : lHl z ts) (h8 : zc z ≤ 8) (hl : ts.length ≤ 7) (t : vTE) : lHl (zP z t) (t :: ts) := by
  have ec : zc (zP z t) = pc (zc z) := rfl
  have eh : ∀ j, zh (zP z t) j = pH (zc z) (zh z) t j := fun j => rfl
  have hlen := h.1
  refine ⟨?_, fun i u hu => ?_⟩
  · rw [ec, List.length_cons]
    unfold pc
    split <;> omega
  · cases i with
    | zero =>
      have hu : some t = some u := hu
      cases hu
      exact zP_top
    | succ i =>
      have hu : ts[i]? = some u := hu
      have hi : i < ts.length := by
        rcases Nat.lt_or_ge i ts.length with a | a
        · exact a
        · rw [List.getElem?_eq_none a] at hu; cases hu
      rw [ec, eh, ← h.2 i u hu]
      unfold pH pc
      by_cases q : zc z < 8
      · rw [if_pos q, if_pos q, if_neg (by omega)]
        congr 1
        omega
      · rw [if_neg q, if_neg q, if_neg (by omega)]
        congr 1
        omega
theorem lHl.pop {z : vZs} {t : vTE} {ts : List vTE} (h : lHl z (t :: ts)) : 0 < zc z ∧ zh z (zc z - 1) = t ∧ lHl (zU z) ts := by
  have hl := h.1
  rw [List.length_cons] at hl
  refine ⟨by omega, h.2 0 t rfl, ?_, fun i u hu => ?_⟩
  · show ts.length ≤ zc z - 1
    omega
  · have := h.2 (i + 1) u hu
    show zh z (zc z - 1 - 1 - i) = u
    rw [← this]
    congr 1
    omega
section TF
variable {D : vD} {t : vTE} {z : vZs} {o : Nat} {S : lwS} {P : Int → lwS → Prop}
theorem lT.c8 (h : lT D t z o S) : zc z ≤ 8 := h.2.1.2.2.1
theorem lt_setNumber {k v : Int} (hT : lT D t z o S) (hv : k < 6 ∧ vok D k v) (h1 : t.2 k = v → ∀ S', lsame o S S' → lT D t z o S' → P (-2) S') (h2 : t.2 k ≠ v → ∀ S', lsame o S S' → lT D (tE t k v) (zP z t) o S' → P (t.2 k) S') : lNn 106 o [k, v] S P :=
  lp_setNumber hT (fun c => absurd hv c) (fun _ e S' hs hO => h1 e S' hs hO) (fun _ e S' hs hO => h2 e S' hs hO)
theorem lt_setBreak {v : Int} (hT : lT D t z o S) (hv : v = 0 ∨ v = 1) (h1 : t.2 6 = v → ∀ S', lsame o S S' → lT D t z o S' → P (-2) S') (h2 : t.2 6 ≠ v → ∀ S', lsame o S S' → lT D (tE t 6 v) (zP z t) o S' → P (t.2 6) S') : lNn 108 o [v] S P :=
  lp_setBreak hT (fun c => absurd hv c) (fun _ e S' hs hO => h1 e S' hs hO) (fun _ e S' hs hO => h2 e S' hs hO)
theorem lt_swap {i j : Int} (hT : lT D t z o S) (hv : (0 ≤ i ∧ i < dN (teD D t)) ∧ (0 ≤ j ∧ j < dN (teD D t)) ∧ i ≠ j) (h2 : ∀ r S', 0 ≤ r → lsame o S S' → lT D (tS t i j) (zP z t) o S' → P r S') : lNn 110 o [i, j] S P :=
  lp_swap hT (fun c => absurd hv c) (fun _ S' hs hO => h2 _ S' (Int.natCast_nonneg _) hs hO)
theorem lt_undo {t0 : vTE} {ts : List vTE} (hT : lT D t z o S) (hl : lHl z (t0 :: ts)) (h2 : ∀ r S', 0 ≤ r → lsame o S S' → lT D t0 (zU z) o S' → P r S') : lNn 113 o [] S P := by
  have p := hl.pop
  refine lp_undo hT (fun c => absurd c (by omega)) (fun _ S' hs hO => h2 _ S' (by omega) hs ?_)
  rw [p.2.1] at hO
  exact hO
end TF
/-- an x in a state of setting t, the numbers drawn, a text that stays, and a budget -/
def lB5 (D : vD) (t : vTE) (z : vZs) (o q : Nat) (S0 : lwS) (r : Nat) (w : List Int) (cx cy : Nat) (S : lwS) : Prop := lT D t z o S ∧ lQ q S ∧ lk2 o q S0 S ∧ S.1 r = some (lbS w) ∧ (cx ≤ S.2.1 ∧ cy ≤ S.2.2)
section B5
variable {D : vD} {t t' : vTE} {z z' : vZs} {o q r cx cy : Nat} {w : List Int} {S0 S S' : lwS}
theorem lT.ne {a : Nat} {B : lwB} (h : lT D t z o S) (ha : S.1 a = some B) (hB : ∀ m, B ≠ lbI m) : a ≠ o := by
  obtain ⟨-, -, m, h3, -⟩ := h
  intro e
  rw [e, h3] at ha
  exact hB m (Option.some.inj ha).symm
theorem lB5.nx (h : lB5 D t z o q S0 r w cx cy S) (hs : lsame o S S') (hT : lT D t' z' o S') : lB5 D t' z' o q S0 r w cx cy S' :=
  ⟨hT, h.2.1.o h.1 hs.fr, h.2.2.1.tr hs.ko, by rw [hs.1 r (h.1.ne h.2.2.2.1 (fun m e => by cases e))]; exact h.2.2.2.1, by rw [hs.2]; exact h.2.2.2.2⟩
theorem lB5.told {P : Nat → lwS → Prop} (h : lB5 D t z o q S0 r w (16000 + cx) (100000 + cy) S) (ht : lTOK (teD D t) t.2) (kk : ∀ a S', S'.1 a = some (lbS (lTold (teD D t) t.2)) → lB5 D t z o q S0 r w cx cy S' → P a S') : lCr lK_told [vm_r o] S P :=
  ln_told h.1 ht h.2.2.2.2 (fun a S' _ _ hA hO hk hc => kk a S' hA ⟨hO, h.2.1.kp hk (lOQ h.1 h.2.1).symm, h.2.2.1.tr hk.ko, hk.s h.2.2.2.1 (h.1.ne h.2.2.2.1 (fun m e => by cases e)), hc⟩)
end B5
section BM
theorem eU_id {E : Int → Int} {k v : Int} (h : E k = v) : eU E k v = E := by
  funext i
  unfold eU
  by_cases q : i = k
  · rw [if_pos q, q]; exact h.symm
  · rw [if_neg q]
theorem ygr_ok {P : Int → Prop} : ∀ (n : Nat) (v : Int), (ygr P n v = -2 ∧ ∀ x, v - n < x → x ≤ v → ¬ P x) ∨ ((v - n < ygr P n v ∧ ygr P n v ≤ v) ∧ P (ygr P n v) ∧ ∀ x, ygr P n v < x → x ≤ v → ¬ P x)
  | 0, v => Or.inl ⟨rfl, fun x a b => by omega⟩
  | n + 1, v => by
    unfold ygr
    by_cases q : P v
    · rw [vif_t q]
      exact Or.inr ⟨⟨by omega, Int.le_refl _⟩, q, fun x a b => by omega⟩
    · rw [vif_f q]
      rcases ygr_ok n (v - 1) with ⟨a, b⟩ | ⟨a, b, c⟩
      · refine Or.inl ⟨a, fun x h1 h2 => ?_⟩
        by_cases e : x = v
        · rw [e]; exact q
        · exact b x (by omega) (by omega)
      · refine Or.inr ⟨by omega, b, fun x h1 h2 => ?_⟩
        by_cases e : x = v
        · rw [e]; exact q
        · exact c x h1 (by omega)
/-- what the law asks of a greatest one -/
theorem ygr_iff {P : Int → Prop} {n : Nat} {v x : Int} (hn : 0 ≤ v - n + 1) (h1 : ygr P n v ≤ x) (h0 : v - n < x) (h2 : x ≤ v) : P x ↔ x = ygr P n v := by
  rcases ygr_ok (P := P) n v with ⟨a, b⟩ | ⟨a, b, c⟩
  · refine ⟨fun p => absurd p (b x h0 h2), fun e => ?_⟩
    rw [a] at e
    omega
  · refine ⟨fun p => ?_, fun e => by rw [e]; exact b⟩
    by_cases e : x = ygr P n v
    · exact e
    · exact absurd p (c x (by omega) h2)
/-- the best exchange of those that were tried -/
def lbs (B : vB) (how c0 : Int) (A : Int → Int → Prop) (s : Int × Int) : Prop := (s = (-2, c0) ∧ ∀ i j, A i j → ¬ (0 < bQ (bR (bX B i j)) how ∧ bcost (bR (bX B i j)) how < c0)) ∨ (∃ i j, A i j ∧ s = (100 * i + j, bcost (bR (bX B i j)) how) ∧ 0 < bQ (bR (bX B i j)) how ∧ bcost (bR (bX B i j)) how < c0 ∧ ∀ i' j', A i' j' → 0 < bQ (bR (bX B i' j')) how → bcost (bR (bX B i j)) how ≤ bcost (bR (bX B i' j')) how)
theorem lbs_s {B : vB} {how c0 : Int} {A A' : Int → Int → Prop} {s : Int × Int} {i j : Int} (h : lbs B how c0 A s) (h1 : A' i j) (h2 : ∀ a b, A a b → A' a b) (h3 : ∀ a b, A' a b → A a b ∨ (a = i ∧ b = j)) : lbs B how c0 A' (ybx B how s i j) := by
  unfold ybx
  by_cases q : 0 < bQ (bR (bX B i j)) how ∧ bcost (bR (bX B i j)) how < s.2
  · rw [if_pos q]
    refine Or.inr ⟨i, j, h1, rfl, q.1, ?_, fun i' j' ha hb => ?_⟩
    · rcases h with ⟨a, b⟩ | ⟨x, y, a, b, c, d, e⟩
      · rw [a] at q; exact q.2
      · rw [b] at q
        have q := q.2
        dsimp only at q
        omega
    · rcases h3 i' j' ha with h9 | ⟨rfl, rfl⟩
      · rcases h with ⟨a, b⟩ | ⟨x, y, a, b, c, d, e⟩
        · rw [a] at q
          have q := q.2
          dsimp only at q
          have := b i' j' h9
          rcases Int.lt_or_le (bcost (bR (bX B i' j')) how) c0 with g | g
          · exact absurd ⟨hb, g⟩ this
          · omega
        · rw [b] at q
          have q := q.2
          dsimp only at q
          have := e i' j' h9 hb
          omega
      · exact Int.le_refl _
  · rw [if_neg q]
    rcases h with ⟨a, b⟩ | ⟨x, y, a, b, c, d, e⟩
    · refine Or.inl ⟨a, fun i' j' ha => ?_⟩
      rcases h3 i' j' ha with h9 | ⟨rfl, rfl⟩
      · exact b i' j' h9
      · rw [a] at q; exact q
    · refine Or.inr ⟨x, y, h2 _ _ a, b, c, d, fun i' j' ha hb => ?_⟩
      rcases h3 i' j' ha with h9 | ⟨rfl, rfl⟩
      · exact e i' j' h9 hb
      · rw [b] at q
        dsimp only at q
        rcases Int.lt_or_le (bcost (bR (bX B i' j')) how) (bcost (bR (bX B x y)) how) with g | g
        · exact absurd ⟨hb, g⟩ q
        · exact g
theorem lbs_j {B : vB} {how c0 i N : Int} : ∀ (n : Nat) (j : Int) (s : Int × Int), j + n = N → 0 ≤ i → i < j → lbs B how c0 (fun a b => 0 ≤ a ∧ a < b ∧ b < N ∧ (a < i ∨ (a = i ∧ b < j))) s → lbs B how c0 (fun a b => 0 ≤ a ∧ a < b ∧ b < N ∧ a < i + 1) (ybj B how i n j s)
  | 0, j, s, hj, h0, h1, h => by
    show lbs B how c0 _ s
    have e : (fun a b => 0 ≤ a ∧ a < b ∧ b < N ∧ a < i + 1) = (fun a b => 0 ≤ a ∧ a < b ∧ b < N ∧ (a < i ∨ (a = i ∧ b < j))) := by
      funext a b
      exact propext ⟨fun x => by omega, fun x => by omega⟩
    rw [e]
    exact h
  | n + 1, j, s, hj, h0, h1, h => by
    show lbs B how c0 _ (ybj B how i n (j + 1) (ybx B how s i j))
    refine lbs_j n (j + 1) _ (by omega) h0 (by omega) (lbs_s h ⟨h0, h1, by omega, Or.inr ⟨rfl, by omega⟩⟩ (fun a b x => ⟨x.1, x.2.1, x.2.2.1, by omega⟩) (fun a b x => ?_))
    by_cases e : a = i ∧ b = j
    · exact Or.inr e
    · exact Or.inl ⟨x.1, x.2.1, x.2.2.1, by omega⟩
theorem lbs_i {B : vB} {how c0 N : Int} : ∀ (n : Nat) (i : Int) (s : Int × Int), i + n = N → 0 ≤ i → lbs B how c0 (fun a b => 0 ≤ a ∧ a < b ∧ b < N ∧ a < i) s → lbs B how c0 (fun a b => 0 ≤ a ∧ a < b ∧ b < N) (ybi B how n i s)
  | 0, i, s, hi, h0, h => by
    show lbs B how c0 _ s
    have e : (fun a b => 0 ≤ a ∧ a < b ∧ b < N) = (fun a b => 0 ≤ a ∧ a < b ∧ b < N ∧ a < i) := by
      funext a b
      exact propext ⟨fun x => by omega, fun x => by omega⟩
    rw [e]
    exact h
  | n + 1, i, s, hi, h0, h => by
    show lbs B how c0 _ (ybi B how n (i + 1) (ybj B how i n (i + 1) s))
    refine lbs_i n (i + 1) _ (by omega) (by omega) (lbs_j n (i + 1) s (by omega) h0 (by omega) ?_)
    have e : (fun a b => 0 ≤ a ∧ a < b ∧ b < N ∧ (a < i ∨ (a = i ∧ b < i + 1))) = (fun a b => 0 ≤ a ∧ a < b ∧ b < N ∧ a < i) := by
      funext a b
      exact propext ⟨fun x => by omega, fun x => by omega⟩
    rw [e]
    exact h
/-- the best exchange -/
theorem lbs_all {B : vB} {how c0 : Int} (hN : 0 ≤ bN B) : lbs B how c0 (fun a b => 0 ≤ a ∧ a < b ∧ b < bN B) (ybi B how (bN B).toNat 0 (-2, c0)) :=
  lbs_i (bN B).toNat 0 _ (by omega) (Int.le_refl _) (Or.inl ⟨rfl, fun i j x => by omega⟩)
end BM
