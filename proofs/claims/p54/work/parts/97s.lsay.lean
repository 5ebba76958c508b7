/-! ===== words that are said ===== -/
def lWt : List (List Int × Bool) → List Int
  | [] => []
  | q :: r => q.1.map (fun a => 97 + a) ++ ((if q.2 then [10] else [32, 32]) ++ lWt r)
section LSY
variable {D : vD} {z : vZs}
theorem lTp.hd {p : Int} {c : Int} {r : List Int} (h : lTp z p (c :: r)) : zb z p = c ∧ lTp z (p + 1) r := by
  have h1 := h.2.2 0 (by simp)
  rw [show p + ((0 : Nat) : Int) = p by omega] at h1
  have h2 := lTp.drop (u := [c]) (r := r) h
  exact ⟨h1, by simpa using h2⟩
theorem sR_word : ∀ (u : List Int) (n : Nat) (i : Int) (s : vSY) (rest : List Int), lTp z i (u.map (fun a => 97 + a) ++ rest) → (∀ a ∈ u, dk D a) → 0 ≤ sV s → sV s + u.length ≤ 12 → sN s < 30 → ∃ s', sR D (zb z) (u.length + n) i s = sR D (zb z) n (i + u.length) s' ∧ sN s' = sN s ∧ sV s' = sV s + u.length ∧ (∀ w, w ≠ sN s → sL s' w = sL s w) ∧ (u = [] → s' = s) ∧ (u ≠ [] → sL s' (sN s) = sV s')
  | [], n, i, s, rest, h, _, _, _, _ => ⟨s, by simp, rfl, by simp, fun _ _ => rfl, fun _ => rfl, fun q => absurd rfl q⟩
  | a :: u, n, i, s, rest, h, hk, hv, hl, hn => by
    obtain ⟨h1, h2⟩ := lTp.hd (r := u.map (fun a => 97 + a) ++ rest) h
    have h1 : zb z i = 97 + a := h1
    have ha := hk a List.mem_cons_self
    rw [List.length_cons] at hl
    obtain ⟨s', g1, g2, g3, g4, g6, g5⟩ := sR_word u n (i + 1) (sadd s a) rest h2 (fun a h => hk a (List.mem_cons_of_mem _ h)) (by show 0 ≤ sV s + 1; omega) (by show sV s + 1 + (u.length : Int) ≤ 12; omega) hn
    refine ⟨s', ?_, g2, by rw [g3]; show sV s + 1 + (u.length : Int) = sV s + ((a :: u).length : Int); rw [List.length_cons]; omega, fun w hw => ?_, (fun q => by cases q), fun _ => ?_⟩
    · rw [List.length_cons, show u.length + 1 + n = (u.length + n) + 1 by omega, sR_S, h1, if_neg (by have := ha.1; omega), show 97 + a - 97 = a by omega, if_pos ⟨⟨ha.1, ha.2.1, ha.2.2⟩, hn, by omega⟩, g1]
      congr 1
      omega
    · rw [g4 w hw]
      show (if w = sN s then sV s + 1 else sL s w) = _
      rw [if_neg hw]
    · cases u with
      | nil =>
        rw [g6 rfl]
        show (if sN s = sN s then sV s + 1 else sL s (sN s)) = sV s + 1
        rw [if_pos rfl]
      | cons b u => exact g5 (fun q => by cases q)
theorem sR_go : ∀ (ws : List (List Int × Bool)) (i : Int) (s : vSY), lTp z i (lWt ws) → sV s = 0 → 0 ≤ sN s → sN s + ws.length ≤ 9 → (∀ w, 0 ≤ w → w < sN s → 1 ≤ sL s w ∧ sL s w ≤ 5) → (∀ q ∈ ws, (1 ≤ q.1.length ∧ q.1.length ≤ 5) ∧ ∀ a ∈ q.1, dk D a) → (sR D (zb z) (lWt ws).length i s).1 = -2 ∧ sN (sR D (zb z) (lWt ws).length i s).2 = sN s + ws.length ∧ ∀ w, 0 ≤ w → w < sN s + ws.length → 1 ≤ sL (sR D (zb z) (lWt ws).length i s).2 w ∧ sL (sR D (zb z) (lWt ws).length i s).2 w ≤ 5
  | [], i, s, _, hv, h0, _, hL, _ => by
    have e : sfin s = s := if_pos hv
    refine ⟨rfl, ?_, fun w a b => ?_⟩
    · show sN (sfin s) = _
      rw [e]; simp
    · show 1 ≤ sL (sfin s) w ∧ sL (sfin s) w ≤ 5
      rw [e]
      exact hL w a (by simpa using b)
  | (u, nl) :: r, i, s, h, hv, h0, hN, hL, hq => by
    have hu := hq (u, nl) List.mem_cons_self
    dsimp only at hu
    rw [List.length_cons] at hN
    obtain ⟨s1, g1, g2, g3, g4, -, g5⟩ := sR_word (D := D) u ((if nl then [10] else [32, 32] : List Int) ++ lWt r).length i s _ h hu.2 (by omega) (by omega) (by omega)
    have hne : u ≠ [] := fun q => by rw [q] at hu; simp at hu
    have h5 := g5 hne
    have t1 : lTp z (i + u.length) ((if nl then [10] else [32, 32] : List Int) ++ lWt r) := by
      have := lTp.drop (u := u.map (fun a => 97 + a)) h
      rwa [List.length_map] at this
    have el : (lWt ((u, nl) :: r)).length = u.length + ((if nl then [10] else [32, 32] : List Int) ++ lWt r).length := by
      show (u.map (fun a => 97 + a) ++ ((if nl then [10] else [32, 32]) ++ lWt r)).length = _
      rw [List.length_append, List.length_map]
    have ef : sfin s1 = (sN s1 + 1, 0, sL s1, sP s1) := if_neg (by omega)
    have L1 : ∀ w, 0 ≤ w → w < sN (sfin s1) → 1 ≤ sL (sfin s1) w ∧ sL (sfin s1) w ≤ 5 := fun w a b => by
      rw [ef] at b ⊢
      have b : w < sN s1 + 1 := b
      show 1 ≤ sL s1 w ∧ sL s1 w ≤ 5
      by_cases q : w = sN s
      · rw [q, h5, g3]; omega
      · rw [g4 w q]; exact hL w a (by omega)
    have n1 : sN (sfin s1) = sN s + 1 := by rw [ef]; show sN s1 + 1 = _; rw [g2]
    have key : ∀ t, lTp z t (lWt r) → sR D (zb z) (lWt ((u, nl) :: r)).length i s = sR D (zb z) (lWt r).length t (sfin s1) → (sR D (zb z) (lWt ((u, nl) :: r)).length i s).1 = -2 ∧ sN (sR D (zb z) (lWt ((u, nl) :: r)).length i s).2 = sN s + (((u, nl) :: r).length : Nat) ∧ ∀ w, 0 ≤ w → w < sN s + (((u, nl) :: r).length : Nat) → 1 ≤ sL (sR D (zb z) (lWt ((u, nl) :: r)).length i s).2 w ∧ sL (sR D (zb z) (lWt ((u, nl) :: r)).length i s).2 w ≤ 5 := by
      intro t ht e
      rw [e]
      obtain ⟨k1, k2, k3⟩ := sR_go r t (sfin s1) ht (sfin_v s1) (by omega) (by omega) L1 (fun q h => hq q (List.mem_cons_of_mem _ h))
      rw [List.length_cons]
      exact ⟨k1, by rw [k2, n1]; omega, fun w a b => k3 w a (by omega)⟩
    cases nl with
    | true =>
      obtain ⟨b1, b2⟩ := lTp.hd (r := lWt r) t1
      refine key _ b2 ?_
      rw [el, g1]
      show sR D (zb z) (([10] : List Int) ++ lWt r).length (i + u.length) s1 = _
      rw [show (([10] : List Int) ++ lWt r).length = (lWt r).length + 1 by simp, sR_S, if_pos (Or.inr b1)]
    | false =>
      obtain ⟨b1, b2⟩ := lTp.hd (r := 32 :: lWt r) t1
      obtain ⟨b3, b4⟩ := lTp.hd b2
      refine key _ b4 ?_
      rw [el, g1]
      show sR D (zb z) (([32, 32] : List Int) ++ lWt r).length (i + u.length) s1 = _
      rw [show (([32, 32] : List Int) ++ lWt r).length = (lWt r).length + 1 + 1 by simp, sR_S, if_pos (Or.inl b1), sR_S, if_pos (Or.inl b3)]
      congr 1
      exact if_pos (sfin_v s1)
end LSY
