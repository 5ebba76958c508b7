/-! ===== a random setup's text ===== -/
theorem lLet_app (a W : Int) (f : Int → Int) (r : List Int) : lLet a W f r = lLet a W f [] ++ r := by
  unfold lLet
  rw [lSd_app (fun j => f (6 + j)) 6 0 (59 :: r), lSd_app (fun j => f (6 + j)) 6 0 [59], lSd_app f 6 0, lSd_app f 6 0 ([32] ++ ([114, 105, 103, 104, 116] ++ (lSd (fun j => f (6 + j)) 6 0 [] ++ [59])))]
  simp only [List.append_assoc, List.cons_append, List.nil_append]
theorem lLs_app (W S : Int → Int) : ∀ (n : Nat) (a : Int) (r : List Int), lLs W S n a r = lLs W S n a [] ++ r
  | 0, a, r => rfl
  | n + 1, a, r => by
    unfold lLs
    rw [lLet_app, lLs_app W S n (a + 3) r, lLet_app a (W a) _ (lLs W S n (a + 3) [])]
    simp only [List.append_assoc]
theorem lLs_snoc (W S : Int → Int) : ∀ (n : Nat) (a : Int), lLs W S (n + 1) a [] = lLs W S n a [] ++ lLet (a + 3 * n) (W (a + 3 * n)) (fun j => S (12 * (a + 3 * n) + j)) []
  | 0, a => by
    show lLet a (W a) (fun j => S (12 * a + j)) [] = _
    rw [show a + 3 * ((0 : Nat) : Int) = a by omega]
    rfl
  | n + 1, a => by
    have h := lLs_snoc W S n (a + 3)
    rw [lLs, h]
    conv => rhs; rw [lLs]
    rw [lLet_app, lLet_app a (W a) _ (lLs W S n (a + 3) []), show a + 3 + 3 * (n : Int) = a + 3 * ((n + 1 : Nat) : Int) by omega]
    simp only [List.append_assoc]
theorem lLs_cg {W W' S S' : Int → Int} : ∀ (n : Nat) (a : Int) (r : List Int), (∀ i, a ≤ i → i < a + 3 * n → W i = W' i) → (∀ j, 12 * a ≤ j → j < 12 * (a + 3 * n) → S j = S' j) → lLs W S n a r = lLs W' S' n a r
  | 0, a, r, _, _ => rfl
  | n + 1, a, r, h1, h2 => by
    unfold lLs
    rw [lLs_cg n (a + 3) r (fun i x y => h1 i (by omega) (by omega)) (fun j x y => h2 j (by omega) (by omega)), h1 a (Int.le_refl _) (by omega)]
    unfold lLet
    rw [lSd_cg (f := fun j => S (12 * a + j)) (g := fun j => S' (12 * a + j)) 6 0 _ (fun j x y => h2 _ (by omega) (by omega)), lSd_cg (f := fun j => S (12 * a + (6 + j))) (g := fun j => S' (12 * a + (6 + j))) 6 0 _ (fun j x y => h2 _ (by omega) (by omega))]
theorem lPr_app (q : Int × Int × Bool × Int) (r : List Int) : lPr q r = lPr q [] ++ r := by
  unfold lPr
  simp only [List.append_assoc, List.cons_append, List.nil_append]
theorem lPs_snoc (q : Int × Int × Bool × Int) : ∀ ps, lPs (ps ++ [q]) = lPs ps ++ lPr q []
  | [] => rfl
  | p :: ps => by
    show lPr p (lPs (ps ++ [q])) = lPr p (lPs ps) ++ _
    rw [lPs_snoc q ps, lPr_app, lPr_app p (lPs ps), List.append_assoc]
theorem lBoard_app (e : Int → Int) (C : Int) (r : List Int) : lBoard e C r = lBoard e C [] ++ r := by
  unfold lBoard
  simp only [List.append_assoc, List.cons_append, List.nil_append]
/-- a builder under way: what it holds, at most k letters -/
def lZ (b q : Nat) (l : List Int) (k N x y : Nat) (S0 S : lwS) : Prop := lBd b l N x y S ∧ lQ q S ∧ lk2 b q S0 S ∧ l.length ≤ k
section LSU
variable {b q k N x y : Nat} {l : List Int} {S0 S : lwS}
theorem lz_s {P : lwS → Prop} {r : Nat} (h : lZ b q l k N x y S0 S) (w : List Int) (hr : r < 48) (hw : w = vm_strL.getD r []) (hN : N ≤ 32767) (k' : Nat) (hk : k + w.length ≤ k') (hk2 : k' ≤ N) (kk : ∀ S', lZ b q (l ++ w) k' N x y S0 S' → P S') : lAs b r S P := by
  obtain ⟨h1, h2, h3, h4⟩ := h
  have nbq := (lBdQ h2 h1).symm
  exact ln_As h1 (Or.inl ⟨hr, hw⟩) (by omega) hN (fun S' hf hB => kk S' ⟨hB, h2.fr hf nbq.symm, h3.tr hf.kp.ko, by rw [List.length_append]; omega⟩)
theorem lz_c {P : lwS → Prop} {z : Int} (h : lZ b q l k N x y S0 S) (hz : 0 ≤ z ∧ z < 128) (hN : N ≤ 32767) (k' : Nat) (hk : k + 1 ≤ k') (hk2 : k' ≤ N) (kk : ∀ S', lZ b q (l ++ [z]) k' N x y S0 S' → P S') : lAc b z S P := by
  obtain ⟨h1, h2, h3, h4⟩ := h
  have nbq := (lBdQ h2 h1).symm
  exact ln_Ac h1 hz (by omega) hN (fun S' hf hB => kk S' ⟨hB, h2.fr hf nbq.symm, h3.tr hf.kp.ko, by rw [List.length_append]; show l.length + 1 ≤ k'; omega⟩)
theorem lz_i {P : lwS → Prop} {z : Int} (h : lZ b q l k N x y S0 S) (hz : 0 ≤ z ∧ z < 1000) (hN : N ≤ 32767) (k' : Nat) (hk : k + 3 ≤ k') (hk2 : k' ≤ N) (kk : ∀ S', lZ b q (l ++ lDec z.toNat) k' N x y S0 S' → P S') : lAi b z S P := by
  obtain ⟨h1, h2, h3, h4⟩ := h
  have nbq := (lBdQ h2 h1).symm
  have hd : sb_dg z.toNat ≤ 3 := by unfold sb_dg; (repeat' split) <;> omega
  exact ln_Ai h1 (by omega) (by rw [lDec_len]; omega) hN (fun S' hf hB => kk S' ⟨hB, h2.fr hf nbq.symm, h3.tr hf.kp.ko, by rw [List.length_append, lDec_len]; omega⟩)
theorem lz_d {P : Int → lwS → Prop} (h : lZ b q l k N x y S0 S) (kk : ∀ d S', 0 ≤ d ∧ d ≤ 32767 → lZ b q l k N x y S0 S' → P d S') : lCi lK_draw [vm_r q] S P := by
  obtain ⟨h1, h2, h3, h4⟩ := h
  have nbq := (lBdQ h2 h1).symm
  exact ln_draw h2 (fun d S' hd hs hQ => kk d S' hd ⟨h1.fr hs nbq, hQ, h3.tr hs.kq, h4⟩)
theorem lz_side {P : lwS → Prop} (h : lZ b q l k N (x + 2 * N + 60) (y + 8 * N + 400) S0 S) (hN : N ≤ 32767) (k' : Nat) (hk : k + 30 ≤ k') (hk2 : k' ≤ N) (kk : ∀ f S', (∀ j : Int, 0 ≤ j → j < 6 → -1 ≤ f j ∧ f j ≤ 9) → lZ b q (l ++ lSd f 6 0 []) k' N x y S0 S' → P S') : lCv lK_side [vm_r b, vm_r q] S P := by
  obtain ⟨h1, h2, h3, h4⟩ := h
  refine ln_side h1 h2 (by omega) hN (fun f S' hf hB hQ hk => kk f S' hf ⟨hB, hQ, h3.tr hk, ?_⟩)
  have := lSd_len (f := f) 6 0 (fun j a b => (hf j a (by omega)).2)
  rw [List.length_append]
  omega
end LSU
