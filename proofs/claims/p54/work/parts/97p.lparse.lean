/-! ===== a tape that holds a text: its tokens ===== -/
/-- from p on the tape holds just r -/
def lTp (z : vZs) (p : Int) (r : List Int) : Prop := 0 ≤ p ∧ zn z = p + r.length ∧ ∀ j : Nat, j < r.length → zb z (p + j) = r.getD j 0
def lpk (l : List Int) : Int := l.foldl (fun a c => 32 * a + c - 96) 0
def lnu (l : List Int) : Int := l.foldl (fun a c => a * 10 + c - 48) 0
section LPA
variable {z : vZs} {p : Int} {u r ws nm rest : List Int} {s : vPS} {k : vPS → vRS}
theorem lTp.drop (h : lTp z p (u ++ r)) : lTp z (p + u.length) r := by
  obtain ⟨h1, h2, h3⟩ := h
  rw [List.length_append] at h2
  refine ⟨by omega, by omega, fun j hj => ?_⟩
  have h4 := h3 (u.length + j) (by rw [List.length_append]; omega)
  rw [List.getD_eq_getElem?_getD, List.getElem?_append_right (by omega), show u.length + j - u.length = j by omega] at h4
  rw [List.getD_eq_getElem?_getD, ← h4]
  congr 1
  omega
theorem lTp.gt (h : lTp z p (u ++ r)) {j : Nat} (hj : j < u.length) : zb z (p + j) = u.getD j 0 := by
  rw [h.2.2 j (by rw [List.length_append]; omega), List.getD_eq_getElem?_getD, List.getD_eq_getElem?_getD, List.getElem?_append_left hj]
theorem lF_1 (h : lTp z p (32 :: r)) : tF (zb z) (zn z) p = tF (zb z) (zn z) (p + 1) := by
  obtain ⟨h1, h2, h3⟩ := h
  have h4 := h3 0 (by simp)
  rw [List.length_cons] at h2
  have e1 : (zn z - p).toNat = (zn z - (p + 1)).toNat + 1 := by omega
  have e2 : zb z p = 32 := by
    have : zb z (p + ((0 : Nat) : Int)) = 32 := h4
    rwa [show p + ((0 : Nat) : Int) = p by omega] at this
  unfold tF
  rw [e1]
  show (if zb z p = 32 ∨ zb z p = 10 then tf (zb z) (zn z) (zn z - (p + 1)).toNat (p + 1) else p) = _
  rw [if_pos (Or.inl e2)]
theorem lF_0 {c : Int} (h : lTp z p (c :: r)) (hc : c ≠ 32 ∧ c ≠ 10) : tF (zb z) (zn z) p = p := by
  obtain ⟨h1, h2, h3⟩ := h
  have h4 := h3 0 (by simp)
  rw [List.length_cons] at h2
  have e1 : (zn z - p).toNat = (zn z - (p + 1)).toNat + 1 := by omega
  have e2 : zb z p = c := by
    have : zb z (p + ((0 : Nat) : Int)) = c := h4
    rwa [show p + ((0 : Nat) : Int) = p by omega] at this
  unfold tF
  rw [e1]
  show (if zb z p = 32 ∨ zb z p = 10 then tf (zb z) (zn z) (zn z - (p + 1)).toNat (p + 1) else p) = _
  rw [if_neg (by rw [e2]; omega)]
theorem lF_ws : ∀ {ws : List Int} {p : Int}, lTp z p (ws ++ r) → (∀ c ∈ ws, c = 32) → tF (zb z) (zn z) p = tF (zb z) (zn z) (p + ws.length)
  | [], p, h, _ => by simp
  | c :: w, p, h, hw => by
    have hc : c = 32 := hw c List.mem_cons_self
    subst hc
    rw [lF_1 h, lF_ws (ws := w) (p := p + 1) (by have := lTp.drop (u := [32]) (r := w ++ r) h; simpa using this) (fun c hc => hw c (List.mem_cons_of_mem _ hc))]
    congr 1
    rw [List.length_cons]
    omega
theorem tru_eq {b : Int → Int} {n c e m : Int} (hm : 0 ≤ m) (h1 : ∀ i, e ≤ i → i < e + m → tkd (b i) = c) (h2 : e + m < n → tkd (b (e + m)) ≠ c) (h3 : e + m ≤ n) : tru b n c (n - e).toNat e = e + m := by
  obtain ⟨t1, t2, t3, t4⟩ := tru_bd (b := b) (n := n) (c := c) (n - e).toNat e (by omega)
  generalize tru b n c (n - e).toNat e = t at *
  rcases Int.lt_trichotomy t (e + m) with a | a | a
  · exact absurd (h1 t t1 a) (t4 (by omega))
  · exact a
  · exact absurd (t3 (e + m) (by omega) a) (h2 (by omega))
/-- a run of one kind of bytes -/
theorem lRun {c0 : Int} (h : lTp z p (u ++ r)) (hu : u ≠ []) (hk : ∀ c ∈ u, tkd c = c0) (hr : ∀ c, r.head? = some c → tkd c ≠ c0) : (tkd (zb z p) = c0 ∧ p < zn z) ∧ tru (zb z) (zn z) c0 (zn z - (p + 1)).toNat (p + 1) = p + u.length := by
  have hl : 0 < u.length := List.length_pos_iff.mpr hu
  have hb : ∀ j : Nat, j < u.length → tkd (zb z (p + j)) = c0 := fun j hj => by
    rw [h.gt hj, List.getD_eq_getElem?_getD, List.getElem?_eq_getElem hj]
    exact hk _ (List.getElem_mem _)
  have hn := h.2.1
  rw [List.length_append] at hn
  refine ⟨⟨by have := hb 0 hl; rwa [show p + ((0 : Nat) : Int) = p by omega] at this, by omega⟩, ?_⟩
  have e := tru_eq (b := zb z) (n := zn z) (c := c0) (e := p + 1) (m := (u.length : Int) - 1) (by omega) (fun i h1 h2 => by
    have := hb (i - p).toNat (by omega)
    rwa [show p + (((i - p).toNat : Nat) : Int) = i by omega] at this) (fun hlt => ?_) (by omega)
  · rw [e]; omega
  · have hd := h.drop
    rw [show p + 1 + ((u.length : Int) - 1) = p + u.length by omega]
    rw [show p + 1 + ((u.length : Int) - 1) = p + u.length by omega] at hlt
    cases r with
    | nil => simp at hn; omega
    | cons c r =>
      have := hd.2.2 0 (by simp)
      rw [show p + (u.length : Int) + ((0 : Nat) : Int) = p + u.length by omega] at this
      rw [this]
      exact hr c rfl
theorem ltpk_eq (h : lTp z p (u ++ r)) : ∀ k : Nat, k ≤ u.length → tpk (zb z) p k = lpk (u.take k)
  | 0, _ => by rw [List.take_zero]; rfl
  | k + 1, hk => by
    have := ltpk_eq h k (by omega)
    unfold tpk
    rw [this, h.gt (by omega : k < u.length), List.take_add_one, List.getD_eq_getElem?_getD, List.getElem?_eq_getElem (by omega : k < u.length)]
    unfold lpk
    rw [List.foldl_append]
    rfl
theorem ltnu_eq (h : lTp z p (u ++ r)) : ∀ k : Nat, k ≤ u.length → tnu (zb z) p k = lnu (u.take k)
  | 0, _ => by rw [List.take_zero]; rfl
  | k + 1, hk => by
    have := ltnu_eq h k (by omega)
    unfold tnu
    rw [this, h.gt (by omega : k < u.length), List.take_add_one, List.getD_eq_getElem?_getD, List.getElem?_eq_getElem (by omega : k < u.length)]
    unfold lnu
    rw [List.foldl_append]
    rfl
theorem tkd_let {c : Int} (h : 97 ≤ c ∧ c ≤ 122) : tkd c = 1 := by
  unfold tkd
  rw [if_neg (by omega), if_pos h]
theorem tkd_dig {c : Int} (h : 48 ≤ c ∧ c ≤ 57) : tkd c = 2 := by
  unfold tkd
  rw [if_neg (by omega), if_neg (by omega), if_pos h]
def lws (ws : List Int) : Prop := ∀ c ∈ ws, c = 32
theorem lws0 : lws [] := fun c h => by cases h
theorem lws1 : lws [32] := fun c h => List.mem_singleton.mp h
/-- the token at p -/
theorem lTok {c0 : Int} (h : lTp z p (ws ++ (u ++ r))) (hw : lws ws) (hu : u ≠ []) (hk : ∀ c ∈ u, tkd c = c0) (hc : c0 = 1 ∨ c0 = 2) (hr : ∀ c, r.head? = some c → tkd c ≠ c0) : tF (zb z) (zn z) p = p + ws.length ∧ tK0 (zb z) (zn z) p = c0 ∧ tE0 (zb z) (zn z) p = p + ws.length + u.length ∧ lTp z (p + ws.length) (u ++ r) := by
  have hd := h.drop
  obtain ⟨⟨a1, a2⟩, a3⟩ := lRun hd hu hk hr
  have e1 : tF (zb z) (zn z) p = p + ws.length := by
    rw [lF_ws h hw]
    cases u with
    | nil => exact absurd rfl hu
    | cons c u =>
      have := hk c List.mem_cons_self
      refine lF_0 hd ⟨fun q => ?_, fun q => ?_⟩
      · rw [q] at this
        have h32 : tkd 32 = 4 := by decide
        omega
      · rw [q] at this
        have h10 : tkd 10 = 4 := by decide
        omega
  have e2 : tK0 (zb z) (zn z) p = c0 := by
    unfold tK0 tb
    rw [e1, if_pos ⟨hd.1, a2⟩]
    exact a1
  refine ⟨e1, e2, ?_, hd⟩
  unfold tE0
  rw [e1, e2, if_pos a2, if_pos hc]
  exact a3
theorem lName {K : Int} (h : lTp z p (ws ++ (nm ++ rest))) (hw : lws ws) (hu : nm ≠ []) (hk : ∀ c ∈ nm, 97 ≤ c ∧ c ≤ 122) (hr : ∀ c, rest.head? = some c → tkd c ≠ 1) (hl : nm.length ≤ 8) (hK : lpk nm = K) : tIs (zb z) (zn z) p K ∧ tKd (zb z) (zn z) p = 1 ∧ lTp z (tE0 (zb z) (zn z) p) rest := by
  obtain ⟨e1, e2, e3, e4⟩ := lTok h hw hu (fun c hc => tkd_let (hk c hc)) (Or.inl rfl) hr
  have e5 : tKd (zb z) (zn z) p = 1 := by
    unfold tKd
    rw [e2, if_neg (by omega)]
  refine ⟨⟨e5, by rw [e1, e3]; omega, ?_⟩, e5, by rw [e3]; exact e4.drop⟩
  unfold tW
  rw [e1, e3, show (p + ws.length + nm.length - (p + ws.length)).toNat = nm.length by omega, ltpk_eq e4 _ (Nat.le_refl _), List.take_length]
  exact hK
theorem lNotName {K : Int} (h : lTp z p (ws ++ (nm ++ rest))) (hw : lws ws) (hu : nm ≠ []) (hk : ∀ c ∈ nm, 97 ≤ c ∧ c ≤ 122) (hr : ∀ c, rest.head? = some c → tkd c ≠ 1) (hK : lpk nm ≠ K) : ¬ tIs (zb z) (zn z) p K := by
  obtain ⟨e1, e2, e3, e4⟩ := lTok h hw hu (fun c hc => tkd_let (hk c hc)) (Or.inl rfl) hr
  rintro ⟨-, -, h3⟩
  unfold tW at h3
  rw [e1, e3, show (p + ws.length + nm.length - (p + ws.length)).toNat = nm.length by omega, ltpk_eq e4 _ (Nat.le_refl _), List.take_length] at h3
  exact hK h3
theorem lLetter {a : Int} (h : lTp z p (ws ++ ([97 + a] ++ rest))) (hw : lws ws) (ha : 0 ≤ a ∧ a < 26) (hr : ∀ c, rest.head? = some c → tkd c ≠ 1) : tLt (zb z) (zn z) p = a ∧ lTp z (tE0 (zb z) (zn z) p) rest := by
  obtain ⟨e1, e2, e3, e4⟩ := lTok h hw (fun q => by cases q) (fun c hc => tkd_let (by rw [List.mem_singleton.mp hc]; omega)) (Or.inl rfl) hr
  have e5 : tKd (zb z) (zn z) p = 1 := by
    unfold tKd
    rw [e2, if_neg (by omega)]
  refine ⟨?_, by rw [e3]; exact e4.drop⟩
  unfold tLt
  rw [e5, e1, e3, if_pos ⟨rfl, by simp only [List.length_cons, List.length_nil]; omega⟩]
  have := e4.gt (j := 0) (by simp)
  rw [show p + (ws.length : Int) + ((0 : Nat) : Int) = p + ws.length by omega] at this
  rw [this]
  show 97 + a - 97 = a
  omega
theorem lSemi (h : lTp z p (ws ++ (59 :: rest))) (hw : lws ws) : tKd (zb z) (zn z) p = 3 ∧ lTp z (tE0 (zb z) (zn z) p) rest := by
  have hd := h.drop
  have e1 : tF (zb z) (zn z) p = p + ws.length := by
    rw [lF_ws h hw]
    exact lF_0 hd (by decide)
  have hlt : p + (ws.length : Int) < zn z := by have := hd.2.1; rw [List.length_cons] at this; omega
  have e2 : tK0 (zb z) (zn z) p = 3 := by
    unfold tK0 tb
    rw [e1, if_pos ⟨hd.1, hlt⟩]
    have := hd.2.2 0 (by simp)
    rw [show p + (ws.length : Int) + ((0 : Nat) : Int) = p + ws.length by omega] at this
    rw [this]
    exact (show tkd 59 = 3 by decide)
  refine ⟨by unfold tKd; rw [e2, if_neg (by omega)], ?_⟩
  unfold tE0
  rw [e1, e2, if_pos hlt, if_neg (by decide)]
  have := lTp.drop (u := [59]) (r := rest) hd
  simpa using this
theorem lEnd (h : lTp z p []) : tKd (zb z) (zn z) p = 0 := by
  obtain ⟨h1, h2, -⟩ := h
  have h2 : zn z = p := by simpa using h2
  have e1 : tF (zb z) (zn z) p = p := by
    unfold tF
    rw [show (zn z - p).toNat = 0 by omega]
    rfl
  have e2 : tK0 (zb z) (zn z) p = 0 := by
    unfold tK0 tb
    rw [e1, if_neg (by omega)]
    rfl
  unfold tKd
  rw [e2, if_neg (by omega)]
end LPA
theorem lDec_at {x : Nat} (h : x < 10000) : lnu (lDec x) = (x : Int) ∧ (∀ c ∈ lDec x, 48 ≤ c ∧ c ≤ 57) ∧ lDec x ≠ [] ∧ (lDec x).length ≤ 4 ∧ vnum (x : Int) = lDec x := by
  have key : ∀ l : List Int, lDec x = l → vnum (x : Int) = l → lnu l = (x : Int) → (∀ c ∈ l, 48 ≤ c ∧ c ≤ 57) → l ≠ [] → l.length ≤ 4 → lnu (lDec x) = (x : Int) ∧ (∀ c ∈ lDec x, 48 ≤ c ∧ c ≤ 57) ∧ lDec x ≠ [] ∧ (lDec x).length ≤ 4 ∧ vnum (x : Int) = lDec x := by
    intro l h1 h2 h3 h4 h5 h6
    rw [h1]
    exact ⟨h3, h4, h5, h6, h2⟩
  have hc : x < 10 ∨ (10 ≤ x ∧ x < 100) ∨ (100 ≤ x ∧ x < 1000) ∨ (1000 ≤ x ∧ x < 10000) := by omega
  rcases hc with q | q | q | q
  · have hd : sb_dg x = 1 := by unfold sb_dg; (repeat' split) <;> omega
    have hu : vnu (x : Int) = 1 := by unfold vnu; (repeat' split) <;> omega
    refine key [((48 + x / 1 % 10 : Nat) : Int)] ?_ ?_ ?_ ?_ (fun q9 => by cases q9) (by simp)
    · unfold lDec; rw [hd]; rfl
    · unfold vnum; rw [hu]
      rw [vnd, if_neg (by decide)]
      rw [vnd, if_pos (by decide)]
      exact congr (congrArg List.cons (by omega)) rfl
    · unfold lnu; simp only [List.foldl]; omega
    · intro c hc; simp only [List.mem_cons, List.not_mem_nil, or_false] at hc; omega
  · have hd : sb_dg x = 2 := by unfold sb_dg; (repeat' split) <;> omega
    have hu : vnu (x : Int) = 10 := by unfold vnu; (repeat' split) <;> omega
    refine key [((48 + x / 10 % 10 : Nat) : Int), ((48 + x / 1 % 10 : Nat) : Int)] ?_ ?_ ?_ ?_ (fun q9 => by cases q9) (by simp)
    · unfold lDec; rw [hd]; rfl
    · unfold vnum; rw [hu]
      rw [vnd, if_neg (by decide)]
      rw [vnd, if_neg (by decide)]
      rw [vnd, if_pos (by decide)]
      refine congr (congrArg List.cons (by omega)) ?_
      exact congr (congrArg List.cons (by omega)) rfl
    · unfold lnu; simp only [List.foldl]; omega
    · intro c hc; simp only [List.mem_cons, List.not_mem_nil, or_false] at hc; omega
  · have hd : sb_dg x = 3 := by unfold sb_dg; (repeat' split) <;> omega
    have hu : vnu (x : Int) = 100 := by unfold vnu; (repeat' split) <;> omega
    refine key [((48 + x / 100 % 10 : Nat) : Int), ((48 + x / 10 % 10 : Nat) : Int), ((48 + x / 1 % 10 : Nat) : Int)] ?_ ?_ ?_ ?_ (fun q9 => by cases q9) (by simp)
    · unfold lDec; rw [hd]; rfl
    · unfold vnum; rw [hu]
      rw [vnd, if_neg (by decide)]
      rw [vnd, if_neg (by decide)]
      rw [vnd, if_neg (by decide)]
      rw [vnd, if_pos (by decide)]
      refine congr (congrArg List.cons (by omega)) ?_
      refine congr (congrArg List.cons (by omega)) ?_
      exact congr (congrArg List.cons (by omega)) rfl
    · unfold lnu; simp only [List.foldl]; omega
    · intro c hc; simp only [List.mem_cons, List.not_mem_nil, or_false] at hc; omega
  · have hd : sb_dg x = 4 := by unfold sb_dg; (repeat' split) <;> omega
    have hu : vnu (x : Int) = 1000 := by unfold vnu; (repeat' split) <;> omega
    refine key [((48 + x / 1000 % 10 : Nat) : Int), ((48 + x / 100 % 10 : Nat) : Int), ((48 + x / 10 % 10 : Nat) : Int), ((48 + x / 1 % 10 : Nat) : Int)] ?_ ?_ ?_ ?_ (fun q9 => by cases q9) (by simp)
    · unfold lDec; rw [hd]; rfl
    · unfold vnum; rw [hu]
      rw [vnd, if_neg (by decide)]
      rw [vnd, if_neg (by decide)]
      rw [vnd, if_neg (by decide)]
      rw [vnd, if_neg (by decide)]
      rw [vnd, if_pos (by decide)]
      refine congr (congrArg List.cons (by omega)) ?_
      refine congr (congrArg List.cons (by omega)) ?_
      refine congr (congrArg List.cons (by omega)) ?_
      exact congr (congrArg List.cons (by omega)) rfl
    · unfold lnu; simp only [List.foldl]; omega
    · intro c hc; simp only [List.mem_cons, List.not_mem_nil, or_false] at hc; omega
theorem vnum_dec {x : Int} (h : 0 ≤ x ∧ x < 10000) : vnum x = lDec x.toNat := by
  have := (lDec_at (x := x.toNat) (by omega)).2.2.2.2
  rwa [show ((x.toNat : Nat) : Int) = x by omega] at this
theorem lNum {z : vZs} {p x : Int} {ws rest : List Int} (h : lTp z p (ws ++ (lDec x.toNat ++ rest))) (hw : lws ws) (hx : 0 ≤ x ∧ x < 10000) (hr : ∀ c, rest.head? = some c → tkd c ≠ 2) : tKd (zb z) (zn z) p = 2 ∧ tN (zb z) (zn z) p = x ∧ lTp z (tE0 (zb z) (zn z) p) rest := by
  obtain ⟨d1, d2, d3, d4, -⟩ := lDec_at (x := x.toNat) (by omega)
  obtain ⟨e1, e2, e3, e4⟩ := lTok h hw d3 (fun c hc => tkd_dig (d2 c hc)) (Or.inr rfl) hr
  refine ⟨by unfold tKd; rw [e1, e2, e3, if_neg (by omega)], ?_, by rw [e3]; exact e4.drop⟩
  unfold tN
  rw [e1, e3, show (p + ws.length + (lDec x.toNat).length - (p + ws.length)).toNat = (lDec x.toNat).length by omega, ltnu_eq e4 _ (Nat.le_refl _), List.take_length, d1]
  omega
