/-! ===== a letter's side, drawn ===== -/
def lIt (v : Int) : List Int := if v = -1 then [32] ++ [111, 112, 101, 110] else [32] ++ lDec v.toNat
theorem lSd_app (f : Int → Int) : ∀ (n : Nat) (b : Int) (r : List Int), lSd f n b r = lSd f n b [] ++ r
  | 0, b, r => rfl
  | n + 1, b, r => by
    unfold lSd
    rw [lSd_app f n (b + 1) r]
    split <;> simp only [List.append_assoc]
theorem lSd_snoc (f : Int → Int) : ∀ (n : Nat) (b : Int), lSd f (n + 1) b [] = lSd f n b [] ++ lIt (f (b + n))
  | 0, b => by
    show (if f b = -1 then [32] ++ ([111, 112, 101, 110] ++ []) else [32] ++ (lDec (f b).toNat ++ [])) = [] ++ lIt (f (b + ((0 : Nat) : Int)))
    rw [show b + ((0 : Nat) : Int) = b by omega]
    unfold lIt
    split <;> simp
  | n + 1, b => by
    have h := lSd_snoc f n (b + 1)
    rw [lSd, h]
    conv => rhs; rw [lSd]
    rw [show b + 1 + (n : Int) = b + ((n + 1 : Nat) : Int) by omega]
    split <;> simp only [List.append_assoc]
theorem lSd_cg {f g : Int → Int} : ∀ (n : Nat) (b : Int) (r : List Int), (∀ j, b ≤ j → j < b + n → f j = g j) → lSd f n b r = lSd g n b r
  | 0, b, r, _ => rfl
  | n + 1, b, r, h => by
    unfold lSd
    rw [h b (Int.le_refl _) (by omega), lSd_cg n (b + 1) r (fun j h1 h2 => h j (by omega) (by omega))]
theorem lSd_len {f : Int → Int} : ∀ (n : Nat) (b : Int), (∀ j, b ≤ j → j < b + n → f j ≤ 9) → (lSd f n b []).length ≤ 5 * n
  | 0, b, _ => Nat.le_refl _
  | n + 1, b, h => by
    have h1 := lSd_len (f := f) n (b + 1) (fun j h1 h2 => h j (by omega) (by omega))
    have h2 := h b (Int.le_refl _) (by omega)
    have h3 := sb_dg2 (x := (f b).toNat) (by omega)
    unfold lSd
    split
    · simp only [List.length_append, List.length_cons, List.length_nil]; omega
    · simp only [List.length_append, List.length_cons, List.length_nil, lDec_len]; omega
section LSI
theorem ld_side {b q N x y : Nat} {l : List Int} {S : lwS} {Qp : Option vm_V → lwS → Prop} (hB : lBd b l N (x + 60) (y + 400) S) (hQ : lQ q S) (hl : l.length + 30 ≤ N) (hN : N ≤ 32767) (kk : ∀ f S', (∀ j : Int, 0 ≤ j → j < 6 → -1 ≤ f j ∧ f j ≤ 9) → lBd b (l ++ lSd f 6 0 []) N x y S' → lQ q S' → lk2 b q S S' → Qp none S') : lG lK_side 0 (lEn lK_side [vm_r b, vm_r q]) [] S Qp := by
  have go : ∀ (n i : Nat) (f : Int → Int) (S2 : lwS), i + n = 6 → (∀ j : Int, 0 ≤ j → j < i → -1 ≤ f j ∧ f j ≤ 9) → lBd b (l ++ lSd f i 0 []) N (x + 10 * n) (y + 60 * n) S2 → lQ q S2 → lk2 b q S S2 → lG lK_side 2 [some (vm_r b), some (vm_r q), some (vm_i (i : Int)), none] [] S2 Qp := by
    intro n
    induction n with
    | zero =>
      intro i f S2 hi hf hB2 hQ2 hk2
      obtain rfl : i = 6 := by omega
      exact rL_side_2 ⟨fun _ => kk f S2 hf hB2 hQ2 hk2, fun c => absurd (by omega) c⟩
    | succ n ih =>
      intro i f S2 hi hf hB2 hQ2 hk2
      have sl := lSd_len (f := f) i 0 (fun j h1 h2 => (hf j h1 (by omega)).2)
      have nbq : b ≠ q := (lBdQ hQ2 hB2).symm
      refine rL_side_2 ⟨fun c => absurd c (by omega), fun _ => ln_draw hQ2 (fun d S3 hd hs3 hQ3 => ⟨⟨hd.1, by decide⟩, ?_⟩)⟩
      have hB3 := hB2.fr hs3 nbq
      have hk3 : lk2 b q S S3 := hk2.tr hs3.kq
      refine ln_Ac hB3 (by decide) (by rw [List.length_append]; omega) hN (fun S4 hf4 hB4 => ?_)
      have hQ4 := hQ3.fr hf4 nbq.symm
      have hk4 : lk2 b q S S4 := hk3.tr hf4.kp.ko
      have hm0 : 0 ≤ d % 12 := Int.emod_nonneg d (by decide)
      have hm1 : d % 12 < 12 := Int.emod_lt_of_pos d (by decide)
      have fin : ∀ (v : Int) (w : List Int) (t : Nat) (S5 : lwS), -1 ≤ v ∧ v ≤ 9 → [32] ++ w = lIt v → w.length ≤ 4 → lStr S5.1 t w → lBd b (l ++ lSd f i 0 [] ++ [32]) N (x + 10 * n) (y + 60 * n) S5 → lQ q S5 → lk2 b q S S5 → lG lK_side 52 [some (vm_r b), some (vm_r q), some (vm_i (i : Int)), none] [vm_r t, vm_r b] S5 Qp := by
        intro v w t S5 hv hw hw4 hs5 hB5 hQ5 hk5
        refine rL_side_52 (ln_As hB5 hs5 (by rw [List.length_append, List.length_append]; simp only [List.length_cons, List.length_nil]; omega) hN (fun S6 hf6 hB6 => ⟨⟨by omega, by omega⟩, ?_⟩))
        have e6 : l ++ lSd f i 0 [] ++ [32] ++ w = l ++ lSd (fun j => if j = i then v else f j) (i + 1) 0 [] := by
          rw [lSd_snoc, show (0 : Int) + (i : Int) = i by omega]
          rw [if_pos rfl, ← hw, lSd_cg (f := fun j => if j = (i : Int) then v else f j) (g := f) i 0 [] (fun j h1 h2 => if_neg (by omega))]
          simp only [List.append_assoc]
        rw [e6] at hB6
        have := ih (i + 1) _ S6 (by omega) (fun j h1 h2 => by
          show -1 ≤ (if j = (i : Int) then v else f j) ∧ (if j = (i : Int) then v else f j) ≤ 9
          split
          · exact hv
          · exact hf j h1 (by omega)) hB6 (hQ5.fr hf6 nbq.symm) (hk5.tr hf6.kp.ko)
        rwa [show ((i + 1 : Nat) : Int) = (i : Int) + 1 by omega] at this
      have less : ∀ {S5 : lwS} {u : List Int}, lBd b u N (x + 10 * (n + 1)) (y + 60 * (n + 1)) S5 → lBd b u N (x + 10 * n) (y + 60 * n) S5 := fun h => by
        obtain ⟨c, h1, h2, h3, h4⟩ := h
        exact ⟨c, h1, h2, by omega, by generalize (if c < N then 4 * N - 2 * c else 0) = g at h4 ⊢; omega⟩
      refine ⟨fun c => ?_, fun c => ?_⟩
      · obtain ⟨c4, h41, h42, h43, h44⟩ := hB4
        obtain ⟨g4, hg4⟩ : ∃ g, g = (if c4 < N then 4 * N - 2 * c4 else 0) := ⟨_, rfl⟩
        rw [← hg4] at h44
        refine ln_Nb 2 ((N - c4) + (x + 10 * n) + 2) (g4 + (y + 60 * n) + 6) ⟨by omega, by omega⟩ (fun b2 S5 hb1 hb2 hf5 hB5 hc5 => ln_I0 hB5 hc5 (fun S6 hf6 hB6 => ?_))
        have nb2 : b ≠ b2 := fun e => by rw [e, hb2] at h42; cases h42
        have nq2 : q ≠ b2 := fun e => by
          obtain ⟨l9, h9, -⟩ := hQ4
          rw [e, hb2] at h9
          cases h9
        have k6 : lk2 b q S4 S6 := (lk2.rf.b hb2 hf5).b hb2 hf6
        have hdg := sb_dg2 (x := (d % 12).toNat) (by omega)
        have hd1 : sb_dg (d % 12).toNat = 1 := by unfold sb_dg; rw [if_pos (by omega)]
        refine ln_As (w := []) hB6 (Or.inl ⟨by decide, by decide⟩) (by decide) (by decide) (fun S7 hf7 hB7 => ?_)
        have k7 := k6.b hb2 hf7
        refine ln_Ai (l := []) hB7 ⟨by omega, by omega⟩ (by rw [lDec_len, hd1]; decide) (by decide) (fun S8 hf8 hB8 => ?_)
        have k8 := k7.b hb2 hf8
        have hQ8 : lQ q S8 := ((((hQ4.fr hf5 nq2).fr hf6 nq2).fr hf7 nq2).fr hf8 nq2)
        refine ln_To (x := (N - c4) + (x + 10 * n)) (y := g4 + (y + 60 * n)) (N := 2) hB8 (by rw [List.nil_append, lDec_len, hd1]; decide) (fun a S9 ha hna hf9 hA hc9 => ?_)
        have nab : b ≠ a := fun e => by
          have : S8.1 b = some (lbB (l ++ lSd f i 0 [] ++ [32]) c4) := by rw [hf8 b nb2, hf7 b nb2, hf6 b nb2, hf5 b nb2]; exact h42
          rw [e, hna] at this
          cases this
        have naq : q ≠ a := fun e => by
          obtain ⟨l9, h9, -⟩ := hQ8
          rw [e, hna] at h9
          cases h9
        refine fin (d % 12) (lDec (d % 12).toNat) a S9 ⟨by omega, by omega⟩ (by unfold lIt; rw [if_neg (by omega)]) (by rw [lDec_len, hd1]; decide) (Or.inr hA) ⟨c4, h41, ?_, hc9.1, by rw [← hg4]; exact hc9.2⟩ (hQ8.fr hf9 naq) (hk4.tr ((k8.tr (hf9.kn (o := b) hna).ko)))
        rw [hf9 b nab, hf8 b nb2, hf7 b nb2, hf6 b nb2, hf5 b nb2]
        exact h42
      · exact fin (-1) [111, 112, 101, 110] 29 S4 ⟨by decide, by decide⟩ rfl (by decide) (Or.inl ⟨by decide, by decide⟩) (less hB4) hQ4 hk4
  refine rL_side_0 (go 6 0 (fun _ => 0) S (by decide) (fun j h1 h2 => by omega) ?_ hQ lk2.rf)
  obtain ⟨c, h1, h2, h3, h4⟩ := hB
  refine ⟨c, h1, by rw [h2]; show _ = some (lbB (l ++ []) c); rw [List.append_nil], by omega, ?_⟩
  exact Nat.le_trans (Nat.add_le_add_left (Nat.add_le_add_left (by decide : 60 * 6 ≤ 400) y) _) h4
theorem ln_side {b q N x y : Nat} {l : List Int} {S : lwS} {P : lwS → Prop} (hB : lBd b l N (x + 2 * N + 60) (y + 8 * N + 400) S) (hQ : lQ q S) (hl : l.length + 30 ≤ N) (hN : N ≤ 32767) (kk : ∀ f S', (∀ j : Int, 0 ≤ j → j < 6 → -1 ≤ f j ∧ f j ≤ 9) → lBd b (l ++ lSd f 6 0 []) N x y S' → lQ q S' → lk2 b q S S' → P S') : lCv lK_side [vm_r b, vm_r q] S P := by
  obtain ⟨c, h1, h2, h3, h4⟩ := hB
  obtain ⟨g, hg⟩ : ∃ g, g = (if c < N then 4 * N - 2 * c else 0) := ⟨_, rfl⟩
  have hg4 : g ≤ 4 * N := by rw [hg]; split <;> omega
  rw [← hg] at h4
  obtain ⟨cT, hcT⟩ : ∃ u, u = N + 60 := ⟨_, rfl⟩
  obtain ⟨zT, hzT⟩ : ∃ u, u = 4 * N + 400 := ⟨_, rfl⟩
  refine ⟨cT, zT, ⟨by omega, by omega⟩, ld_side (S := (S.1, cT, zT)) (x := 0) (y := 0) ⟨c, h1, h2, by show N - c + (0 + 60) ≤ cT; omega, by rw [← hg, hzT]; exact Nat.add_le_add hg4 (by decide : 0 + 400 ≤ 400)⟩ hQ hl hN (fun f S' hf hB' hQ' hk' => ⟨rfl, ?_⟩)⟩
  obtain ⟨c', k1, k2, k3, k4⟩ := hB'
  refine kk f _ hf ⟨c', k1, k2, ?_, ?_⟩ hQ' hk'
  · show N - c' + x ≤ S.2.1 - cT; omega
  · show (if c' < N then 4 * N - 2 * c' else 0) + y ≤ S.2.2 - zT; split <;> omega
end LSI
