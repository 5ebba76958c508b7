/-! ===== the texts of a good state ===== -/
section GT
variable {D : vD} {E : Int → Int} {L : Nat}
theorem vnum_is {n : Int} (h : 0 ≤ n ∧ n < 10000) : vnum n = lDec n.toNat := by
  have := (lDec_at (x := n.toNat) (by omega)).2.2.2.2
  rwa [show ((n.toNat : Nat) : Int) = n by omega] at this
theorem vsb_is (hD : dOA D) (hE : dOE D E) : vsb D E = lBoard E (dC D) [] := by
  obtain ⟨e0, e1, e2, e3, e4, e5, -, -⟩ := hE
  have c := hD.1
  have c2 := hD.2.1
  unfold vsb lBoard
  rw [vnum_is (show 0 ≤ E 0 ∧ E 0 < 10000 by omega), vnum_is (show 0 ≤ E 1 ∧ E 1 < 10000 by omega), vnum_is (show 0 ≤ E 2 ∧ E 2 < 10000 by omega), vnum_is (show 0 ≤ dC D ∧ dC D < 10000 by omega), vnum_is (show 0 ≤ E 3 ∧ E 3 < 10000 by omega), vnum_is (show 0 ≤ E 4 ∧ E 4 < 10000 by omega), vnum_is (show 0 ≤ E 5 ∧ E 5 < 10000 by omega), vsx14, vsx15, vsx16, vsx17, vsx18, vsx19, vsx20]
  simp only [List.append_assoc, List.cons_append, List.nil_append]
theorem vss_is {a s : Int} : ∀ (n : Nat) (i : Int), (∀ j, i ≤ j → j < i + n → -1 ≤ dS D (12 * a + (6 * s + j)) ∧ dS D (12 * a + (6 * s + j)) ≤ 9) → vss D a s n i = lSd (fun j => dS D (12 * a + (6 * s + j))) n i []
  | 0, i, _ => rfl
  | n + 1, i, h => by
    have b := h i (Int.le_refl _) (by omega)
    unfold vss lSd
    rw [vss_is n (i + 1) (fun j h1 h2 => h j (by omega) (by omega))]
    unfold vs1
    by_cases q : dS D (12 * a + (6 * s + i)) = -1
    · rw [if_pos q, if_pos q, vsx25]
      rfl
    · rw [if_neg q, if_neg q, vsx15, vnum_is ⟨by omega, by omega⟩]
      rfl
theorem vsL_is (hD : dOA D) {a : Int} (ha : dk D a) : vsL D a = lLet a (dW D a) (fun j => dS D (12 * a + j)) [] := by
  have w := hD.2.2.1 a ha.1 ha.2.1
  have s := hD.2.2.2 a ha
  unfold vsL lLet
  rw [vss_is 6 0 (fun j h1 h2 => s _ (by omega) (by omega)), vss_is 6 0 (fun j h1 h2 => s _ (by omega) (by omega)), vnum_is ⟨w.1, by omega⟩, vsx21, vsx22, vsx23, vsx24]
  rw [lSd_app (fun j => (fun j => dS D (12 * a + j)) (6 + j)) 6 0 [59], lSd_app (fun j => dS D (12 * a + j)) 6 0 ([32] ++ _)]
  have e1 : lSd (fun j => dS D (12 * a + (6 * 0 + j))) 6 0 [] = lSd (fun j => dS D (12 * a + j)) 6 0 [] := lSd_cg 6 0 [] (fun j _ _ => by congr 1; omega)
  have e2 : lSd (fun j => dS D (12 * a + (6 * 1 + j))) 6 0 [] = lSd (fun j => dS D (12 * a + (6 + j))) 6 0 [] := lSd_cg 6 0 [] (fun j _ _ => by congr 1)
  rw [e1, e2]
  simp only [List.append_assoc, List.cons_append, List.nil_append]
theorem vsl_no : ∀ (n : Nat) (a : Int), (∀ i, a ≤ i → i < a + n → ¬ dk D i) → vsl D n a = []
  | 0, a, _ => rfl
  | n + 1, a, h => by
    unfold vsl
    rw [vif_f (h a (Int.le_refl _) (by omega)), vsl_no n (a + 1) (fun i h1 h2 => h i (by omega) (by omega))]
    rfl
theorem vsl_is (hD : dOA D) (hG : lGa L D) : ∀ (m i : Nat), i + m = L → vsl D (26 - 3 * i) (3 * (i : Int)) = lLs (dW D) (dS D) m (3 * (i : Int)) []
  | 0, i, hi => by
    have dkk := hG.2.2.2
    refine vsl_no _ _ (fun j h1 h2 c => ?_)
    have := (dkk j).mp c
    omega
  | m + 1, i, hi => by
    obtain ⟨⟨L2, L5⟩, C12, hv, dkk⟩ := hG
    have hG : lGa L D := ⟨⟨L2, L5⟩, C12, hv, dkk⟩
    obtain ⟨k, hk⟩ : ∃ k, 26 - 3 * i = k + 1 + 1 + 1 := ⟨26 - 3 * i - 3, by omega⟩
    have ih := vsl_is hD hG m (i + 1) (by omega)
    rw [show 26 - 3 * (i + 1) = k by omega, show 3 * ((i + 1 : Nat) : Int) = 3 * (i : Int) + 3 by omega] at ih
    have k0 : dk D (3 * (i : Int)) := (dkk _).mpr ⟨by omega, by omega, by omega⟩
    have k1 : ¬ dk D (3 * (i : Int) + 1) := fun c => by have := (dkk _).mp c; omega
    have k2 : ¬ dk D (3 * (i : Int) + 1 + 1) := fun c => by have := (dkk _).mp c; omega
    rw [hk]
    unfold vsl
    unfold vsl
    unfold vsl
    rw [vif_t k0, vif_f k1, vif_f k2, show 3 * (i : Int) + 1 + 1 + 1 = 3 * (i : Int) + 3 by omega, ih, vsL_is hD k0]
    show _ = lLet (3 * (i : Int)) (dW D (3 * (i : Int))) (fun j => dS D (12 * (3 * (i : Int)) + j)) (lLs (dW D) (dS D) m (3 * (i : Int) + 3) [])
    rw [lLet_app _ _ _ (lLs (dW D) (dS D) m (3 * (i : Int) + 3) [])]
    rfl
/-- the corrected pairs in order -/
def lcps (D : vD) : Nat → Int → List (Int × Int × Bool × Int)
  | 0, _ => []
  | n + 1, k => if dK D k = 0 then lcps D n (k + 1) else (k / 26, k % 26, decide (dK D k < 0), if 0 ≤ dK D k then dK D k else 0 - dK D k) :: lcps D n (k + 1)
theorem vsp_is (hS : dOS D) : ∀ (n : Nat) (k : Int), 0 ≤ k → k + n ≤ 676 → vsp D n k = lPs (lcps D n k)
  | 0, k, _, _ => rfl
  | n + 1, k, h0, h1 => by
    have ih := vsp_is hS n (k + 1) (by omega) (by omega)
    have b := hS.1 k h0 (by omega)
    unfold vsp lcps
    by_cases q : dK D k = 0
    · rw [if_pos q, if_pos q, ih]; rfl
    · rw [if_neg q, if_neg q, ih]
      show _ = lPr _ (lPs (lcps D n (k + 1)))
      rw [lPr_app]
      congr 1
      unfold vsP lPr
      dsimp only
      by_cases p : 0 ≤ dK D k
      · rw [if_pos p, if_pos p, vnum_is ⟨by omega, by omega⟩, decide_eq_false (show ¬ dK D k < 0 by omega), vsx26, vsx28]
        simp only [List.append_assoc, List.cons_append, List.nil_append, Bool.false_eq_true, if_false]
      · rw [if_neg p, if_neg p, vnum_is ⟨by omega, by omega⟩, decide_eq_true (show dK D k < 0 by omega), vsx26, vsx27]
        simp only [List.append_assoc, List.cons_append, List.nil_append, if_true]
theorem vset_is (hO : OC D E) (hG : lGa L D) : vset D E = lSetT E (dC D) (dW D) (dS D) L (lcps D 676 0) := by
  have hl := vsl_is hO.1 hG L 0 (Nat.zero_add _)
  have hl : vsl D 26 0 = lLs (dW D) (dS D) L 0 [] := hl
  unfold vset lSetT
  rw [vsb_is hO.1 hO.2.2, hl, vsp_is hO.2.1 676 0 (by decide) (by decide), lBoard_app E (dC D) (lLs _ _ _ _ _), lLs_app (dW D) (dS D) L 0 (lPs _)]
theorem lcps_mem : ∀ (n : Nat) (k : Int) (p : Int × Int × Bool × Int), p ∈ lcps D n k → ∃ j, k ≤ j ∧ j < k + n ∧ dK D j ≠ 0 ∧ p = (j / 26, j % 26, decide (dK D j < 0), if 0 ≤ dK D j then dK D j else 0 - dK D j)
  | 0, k, p, h => by cases h
  | n + 1, k, p, h => by
    unfold lcps at h
    by_cases q : dK D k = 0
    · rw [if_pos q] at h
      obtain ⟨j, a, b, c, d⟩ := lcps_mem n (k + 1) p h
      exact ⟨j, by omega, by omega, c, d⟩
    · rw [if_neg q] at h
      rcases List.mem_cons.mp h with h | h
      · exact ⟨k, Int.le_refl _, by omega, q, h⟩
      · obtain ⟨j, a, b, c, d⟩ := lcps_mem n (k + 1) p h
        exact ⟨j, by omega, by omega, c, d⟩
/-- it is a setup of the law's kind -/
theorem lgood_ok (hO : OC D E) (hG : lGa L D) (hK : lGk D) : lSetOk E (dC D) (dW D) (dS D) L (lcps D 676 0) := by
  obtain ⟨⟨L2, L5⟩, ⟨C1, C2⟩, -, dkk⟩ := hG
  obtain ⟨e0, e1, e2, e3, e4, e5, -, -⟩ := hO.2.2
  refine ⟨⟨C1, by omega⟩, fun k k0 k6 => ?_, ⟨by omega, by omega⟩, fun i hi => ?_, fun p hp => ?_⟩
  · have : k = 0 ∨ k = 1 ∨ k = 2 ∨ k = 3 ∨ k = 4 ∨ k = 5 := by omega
    rcases this with rfl | rfl | rfl | rfl | rfl | rfl
    · exact e0
    · exact e1
    · exact e2
    · exact e3
    · exact e4
    · exact e5
  · have kd : dk D (3 * (i : Int)) := (dkk _).mpr ⟨by omega, by omega, by omega⟩
    have w := hO.1.2.2.1 _ kd.1 kd.2.1
    have := kd.2.2
    exact ⟨by omega, w.2, hO.1.2.2.2 _ kd⟩
  · obtain ⟨j, j0, j1, j2, rfl⟩ := lcps_mem 676 0 p hp
    have kk := hK j j0 (by omega) j2
    have a := (dkk _).mp kk.1
    have b := (dkk _).mp kk.2
    have c := hO.2.1.1 j j0 (by omega)
    refine ⟨⟨(j / 26 / 3).toNat, (j % 26 / 3).toNat, by omega, by omega, ?_, ?_⟩, ?_⟩
    · show j / 26 = 3 * (((j / 26 / 3).toNat : Nat) : Int); omega
    · show j % 26 = 3 * (((j % 26 / 3).toNat : Nat) : Int); omega
    · dsimp only
      split <;> omega
/-! letters, lengths -/
theorem ltx_c {z : Int} {l : List Int} (hz : 0 ≤ z ∧ z < 128) (h : lTx l) : lTx (z :: l) := fun x hx => (List.mem_cons.mp hx).elim (fun e => e ▸ hz) (h x)
theorem ltx_n : lTx [] := fun x hx => by cases hx
theorem ltx_d {l : List Int} (h : l.all (fun z => decide (0 ≤ z ∧ z < 128)) = true) : lTx l := fun z hz => of_decide_eq_true (List.all_eq_true.mp h z hz)
theorem lSd_tx {f : Int → Int} : ∀ (n : Nat) (b : Int) (r : List Int), lTx r → lTx (lSd f n b r)
  | 0, b, r, h => h
  | n + 1, b, r, h => by
    have i := lSd_tx (f := f) n (b + 1) r h
    unfold lSd
    split
    · exact (ltx_d (by decide)).app ((ltx_d (by decide)).app i)
    · exact (ltx_d (by decide)).app ((lDec_tx _).app i)
theorem lLet_tx {a W : Int} {f : Int → Int} {r : List Int} (ha : 0 ≤ a ∧ a < 26) (h : lTx r) : lTx (lLet a W f r) := by
  unfold lLet
  refine (ltx_d (by decide)).app ((ltx_d (by decide)).app ((ltx_c ⟨by omega, by omega⟩ ltx_n).app ((ltx_d (by decide)).app ((ltx_d (by decide)).app ((ltx_d (by decide)).app ((lDec_tx _).app ((ltx_d (by decide)).app ((ltx_d (by decide)).app (lSd_tx _ _ _ ((ltx_d (by decide)).app ((ltx_d (by decide)).app (lSd_tx _ _ _ (ltx_c (by decide) h)))))))))))))
theorem lLs_tx {W S : Int → Int} : ∀ (n : Nat) (a : Int) (r : List Int), 0 ≤ a → a + 3 * n ≤ 28 → lTx r → lTx (lLs W S n a r)
  | 0, a, r, _, _, h => h
  | n + 1, a, r, h0, h1, h => by
    unfold lLs
    exact lLet_tx ⟨h0, by omega⟩ (lLs_tx n (a + 3) r (by omega) (by omega) h)
theorem lPs_tx : ∀ (ps : List (Int × Int × Bool × Int)), (∀ q ∈ ps, (0 ≤ q.1 ∧ q.1 < 26) ∧ (0 ≤ q.2.1 ∧ q.2.1 < 26)) → lTx (lPs ps)
  | [], _ => ltx_n
  | q :: ps, h => by
    have i := lPs_tx ps (fun p hp => h p (List.mem_cons_of_mem _ hp))
    have hq := h q List.mem_cons_self
    unfold lPs lPr
    refine (ltx_d (by decide)).app ((ltx_d (by decide)).app ((ltx_c ⟨by omega, by omega⟩ ltx_n).app ((ltx_d (by decide)).app ((ltx_c ⟨by omega, by omega⟩ ltx_n).app ((ltx_d (by decide)).app (lTx.app ?_ ((ltx_d (by decide)).app ((lDec_tx _).app (ltx_c (by decide) i)))))))))
    split <;> exact ltx_d (by decide)
theorem lSetT_tx {e : Int → Int} {C : Int} {W S : Int → Int} {n : Nat} {ps : List (Int × Int × Bool × Int)} (h : lSetOk e C W S n ps) : lTx (lSetT e C W S n ps) := by
  obtain ⟨h1, h2, h3, h4, h5⟩ := h
  unfold lSetT lBoard
  have t : lTx (lLs W S n 0 (lPs ps)) := lLs_tx n 0 _ (by decide) (by omega) (lPs_tx ps (fun q hq => by
    obtain ⟨⟨i, j, a, b, c, d⟩, -⟩ := h5 q hq
    omega))
  repeat' (first | exact t | apply lTx.app | exact lDec_tx _ | exact ltx_d (by decide) | (refine ltx_c (by decide) ?_))
/-- how many pairs there can be -/
def lcn : Nat → Nat → Nat
  | 0, _ => 0
  | n + 1, k => (if k / 26 < 15 ∧ k / 26 % 3 = 0 ∧ k % 26 < 15 ∧ k % 26 % 3 = 0 then 1 else 0) + lcn n (k + 1)
theorem lcn_25 : lcn 676 0 = 25 := by decide +kernel
theorem lcps_len (hG : lGa L D) (hK : lGk D) : ∀ (n k : Nat), k + n ≤ 676 → (lcps D n (k : Int)).length ≤ lcn n k
  | 0, k, _ => Nat.le_refl _
  | n + 1, k, hk => by
    obtain ⟨⟨L2, L5⟩, C12, hv, dkk⟩ := hG
    have i := lcps_len ⟨⟨L2, L5⟩, C12, hv, dkk⟩ hK n (k + 1) (by omega)
    rw [show ((k + 1 : Nat) : Int) = (k : Int) + 1 by omega] at i
    unfold lcps lcn
    by_cases q : dK D (k : Int) = 0
    · rw [if_pos q]; omega
    · rw [if_neg q, List.length_cons]
      have kk := hK k (by omega) (by omega) q
      have a := (dkk _).mp kk.1
      have b := (dkk _).mp kk.2
      rw [if_pos ⟨by omega, by omega, by omega, by omega⟩]
      omega
theorem lPs_ln : ∀ (ps : List (Int × Int × Bool × Int)), (∀ q ∈ ps, 0 ≤ q.2.2.2 ∧ q.2.2.2 ≤ 9) → (lPs ps).length ≤ 20 * ps.length
  | [], _ => Nat.le_refl _
  | q :: ps, h => by
    have i := lPs_ln ps (fun p hp => h p (List.mem_cons_of_mem _ hp))
    have hq := h q List.mem_cons_self
    have d : sb_dg q.2.2.2.toNat ≤ 2 := sb_dg2 (by omega)
    have w : (if q.2.2.1 then [99, 108, 111, 115, 101, 114] else [119, 105, 100, 101, 114] : List Int).length ≤ 6 := by split <;> decide
    unfold lPs lPr
    simp only [List.length_append, List.length_cons, List.length_nil, lDec_len]
    omega
theorem lLs_ln {W S : Int → Int} : ∀ (n : Nat) (a : Int), (∀ i : Nat, i < n → 1 ≤ W (a + 3 * i) ∧ W (a + 3 * i) ≤ 60 ∧ ∀ j, 0 ≤ j → j < 12 → S (12 * (a + 3 * i) + j) ≤ 9) → (lLs W S n a []).length ≤ 120 * n
  | 0, a, _ => Nat.le_refl _
  | n + 1, a, h => by
    have i := lLs_ln (W := W) (S := S) n (a + 3) (fun i hi => by
      have := h (i + 1) (by omega)
      rwa [show a + 3 * ((i + 1 : Nat) : Int) = a + 3 + 3 * (i : Int) by omega] at this)
    have h0 := h 0 (by omega)
    rw [show a + 3 * ((0 : Nat) : Int) = a by omega] at h0
    have d : sb_dg (W a).toNat ≤ 2 := sb_dg2 (by omega)
    have s1 := lSd_len (f := fun j => S (12 * a + j)) 6 0 (fun j h1 h2 => h0.2.2 _ (by omega) (by omega))
    have s2 := lSd_len (f := fun j => S (12 * a + (6 + j))) 6 0 (fun j h1 h2 => h0.2.2 _ (by omega) (by omega))
    unfold lLs
    rw [lLet_app]
    unfold lLet
    rw [lSd_app (fun j => S (12 * a + j)) 6 0 ([32] ++ _), lSd_app (fun j => (fun j => S (12 * a + j)) (6 + j)) 6 0 [59]]
    simp only [List.length_append, List.length_cons, List.length_nil, lDec_len]
    omega
theorem lgood_len (hO : OC D E) (hG : lGa L D) (hK : lGk D) : (lSetT E (dC D) (dW D) (dS D) L (lcps D 676 0)).length ≤ 1500 := by
  have ok := lgood_ok hO hG hK
  have n25 := lcps_len hG hK 676 0 (by decide)
  rw [lcn_25] at n25
  have n25 : (lcps D 676 0).length ≤ 25 := n25
  obtain ⟨h1, h2, h3, h4, h5⟩ := ok
  have p := lPs_ln (lcps D 676 0) (fun q hq => (h5 q hq).2)
  have l := lLs_ln (W := dW D) (S := dS D) L 0 (fun i hi => by
    have := h4 i hi
    rw [show (0 : Int) + 3 * (i : Int) = 3 * (i : Int) by omega]
    exact ⟨this.1, this.2.1, fun j a b => (this.2.2 j a b).2⟩)
  obtain ⟨⟨L2, L5⟩, ⟨C1, C2⟩, -, dkk⟩ := hG
  obtain ⟨e0, e1, e2, e3, e4, e5, -, -⟩ := hO.2.2
  have b : (lBoard E (dC D) []).length ≤ 200 := by rw [← vsb_is hO.1 hO.2.2]; exact vsb_len
  unfold lSetT
  rw [lBoard_app, lLs_app, List.length_append, List.length_append]
  omega
theorem vnd_tx {n : Int} : ∀ (k : Nat) (u : Int), lTx (vnd n k u)
  | 0, u => ltx_n
  | k + 1, u => by
    unfold vnd
    split
    · exact ltx_n
    · have a := Int.emod_nonneg (n / u) (show (10 : Int) ≠ 0 by decide)
      have b := Int.emod_lt_of_pos (n / u) (show (0 : Int) < 10 by decide)
      exact ltx_c ⟨by omega, by omega⟩ (vnd_tx k _)
theorem vwt_tx (hS : dOS D) {w : Int} (hw : 0 ≤ w ∧ w < dN D) : ∀ (n : Nat) (k : Int), 0 ≤ k → k + n ≤ dL D w → lTx (vwt D w n k)
  | 0, k, _, _ => ltx_n
  | n + 1, k, h0, h1 => by
    have d := hS.2.2.2.2 w hw.1 hw.2 k h0 (by omega)
    have d0 := d.1
    have d1 := d.2.1
    unfold vwt
    exact ltx_c ⟨by omega, by omega⟩ (vwt_tx hS hw n (k + 1) (by omega) (by omega))
theorem vrt_tx (hS : dOS D) : ∀ (n : Nat) (w : Int), 0 ≤ w → w + n ≤ dN D → lTx (vrt D n w)
  | 0, w, _, _ => ltx_n
  | n + 1, w, h0, h1 => by
    have l := hS.2.2.2.1 w h0 (by omega)
    unfold vrt vwd
    exact ((vwt_tx hS ⟨h0, by omega⟩ _ 0 (by decide) (by omega)).app (ltx_d (by decide))).app (vrt_tx hS n (w + 1) (by omega) (by omega))
theorem vvt_tx (hO : OC D E) : ∀ (n r : Nat), r + n ≤ eQ D E → lTx (vvt D E n r)
  | 0, r, _ => ltx_n
  | n + 1, r, h => by
    obtain ⟨f0, ft, tN, -⟩ := lst_row hO (r := r) (by omega)
    unfold vvt vrw
    exact ((vnd_tx _ _).app ((ltx_d (by decide)).app ((vrt_tx hO.2.1 _ _ f0 (by omega)).app ((vnd_tx _ _).app (ltx_d (by decide)))))).app (vvt_tx hO n (r + 1) (by omega))
/-- a good state can be told -/
theorem lgood_told (hO : OC D E) (hG : lGd L D E) : lTOK D E := by
  obtain ⟨hA, hK, hE, hW⟩ := hG
  have q := eQ_ok hO.1 hO.2.1 hO.2.2
  have hQ : 0 < eQ D E := bQ_pos (bR_ok (eB_ok hO.1 hO.2.1 hO.2.2)) (show 0 < dN D by have := hW.1; omega) (show dN D ≤ 12 by have := hW.1; omega) (E 6)
  have ev : lTX D E 1 = vvt D E (eQ D E) 0 := rfl
  have es : lTX D E 0 = lSetT E (dC D) (dW D) (dS D) L (lcps D 676 0) := vset_is hO hA
  have vl := vvt_len hO (eQ D E) 0 (by omega)
  obtain ⟨e0, e1, e2, e3, e4, e5, e6, e7⟩ := hO.2.2
  have vt := hA.2.2.1
  have vn := vs_bd (f := vnz D) (lo := 0) (hi := 1) 676 (fun i _ _ => vnz_bd)
  have cl := vcl_bd2 hO.2.1 (Int.le_refl 0) hO.2.1.2.1 (Int.le_refl _)
  refine ⟨⟨by rw [ev]; exact vvt_tx hO _ 0 (by omega), by rw [ev]; omega⟩, ⟨by rw [es]; exact lSetT_tx (lgood_ok hO hA hK), by rw [es]; have := lgood_len hO hA hK; omega⟩, fun w hw => ?_, fun w k h1 h2 => ?_, ?_⟩
  · obtain ⟨⟨L2, L5⟩, ⟨C1, C2⟩, -, -⟩ := hA
    have n9 := hW.1
    have : w = 0 ∨ w = 1 ∨ w = 2 ∨ w = 3 ∨ w = 4 ∨ w = 5 ∨ w = 6 ∨ w = 7 ∨ w = 8 ∨ w = 9 ∨ w = 10 ∨ w = 11 ∨ w = 12 ∨ w = 13 := by omega
    rcases this with rfl | rfl | rfl | rfl | rfl | rfl | rfl | rfl | rfl | rfl | rfl | rfl | rfl | rfl
    · show 0 ≤ E 0 ∧ E 0 < 10000000; omega
    · show 0 ≤ E 1 ∧ E 1 < 10000000; omega
    · show 0 ≤ E 2 ∧ E 2 < 10000000; omega
    · show 0 ≤ E 3 ∧ E 3 < 10000000; omega
    · show 0 ≤ E 4 ∧ E 4 < 10000000; omega
    · show 0 ≤ E 5 ∧ E 5 < 10000000; omega
    · show 0 ≤ dC D ∧ dC D < 10000000; omega
    · show 0 ≤ E 6 ∧ E 6 < 10000000; omega
    · show 0 ≤ E 7 ∧ E 7 < 10000000; omega
    · show 0 ≤ vs (vtl D) 26 ∧ vs (vtl D) 26 < 10000000; omega
    · show 0 ≤ vs (vnz D) 676 ∧ vs (vnz D) 676 < 10000000; omega
    · show 0 ≤ dN D ∧ dN D < 10000000; omega
    · show 0 ≤ (eQ D E : Int) ∧ (eQ D E : Int) < 10000000; omega
    · show 0 ≤ vcl D 0 (dN D) ∧ vcl D 0 (dN D) < 10000000; omega
  · have d := hO.2.1.2.2.2.2 w (by omega) h1 k (by omega) h2
    exact ⟨d.1, d.2.1⟩
  · have hR := bR_ok (eB_ok hO.1 hO.2.1 hO.2.2)
    have ec : a_cost D E = bcost (bR (eB D E)) (E 6) := by unfold a_cost; rw [if_neg (by omega)]
    have e220 := hE.1
    have b := vs_bd (f := bsq (bR (eB D E)) (E 6)) (lo := 0) (hi := 47961) (eQ D E - 1) (fun i i0 i1 => by
      obtain ⟨f0, ft, tN, -⟩ := lst_row hO (r := i.toNat) (by omega)
      have w := (rwd_bd hR (f := eF D E i.toNat) (t := eF D E (i.toNat + 1)) f0 ft tN).1
      show 0 ≤ vsq (E 0) (rwd (bR (eB D E)) (eF D E i.toNat) (eF D E (i.toNat + 1))) ∧ vsq (E 0) (rwd (bR (eB D E)) (eF D E i.toNat) (eF D E (i.toNat + 1))) ≤ 47961
      generalize rwd (bR (eB D E)) (eF D E i.toNat) (eF D E (i.toNat + 1)) = u at w
      unfold vsq
      split
      · have := vmul_bd (a := E 0 - u) (b := E 0 - u) (A := 219) (B := 219) ⟨by omega, by omega⟩ ⟨by omega, by omega⟩
        omega
      · omega)
    have hb : bcost (bR (eB D E)) (E 6) = vs (bsq (bR (eB D E)) (E 6)) (eQ D E - 1) := rfl
    rw [ec, hb]
    omega
end GT
