/-! ===== the law's texts of x: its view, its setup ===== -/
/-- nothing that stood changes, but at o -/
def lkp (o : Nat) (S S' : lwS) : Prop := ∀ r, S.1 r ≠ none → r ≠ o → S'.1 r = S.1 r
theorem lkp.rf {o : Nat} {S : lwS} : lkp o S S := fun _ _ _ => rfl
theorem lkp.tr {o : Nat} {S S1 S2 : lwS} (h : lkp o S S1) (h2 : lkp o S1 S2) : lkp o S S2 := fun r h3 h4 => (h2 r (by rw [h r h3 h4]; exact h3) h4).trans (h r h3 h4)
theorem lfr.kp {o : Nat} {S S' : lwS} (h : lfr o S S') : lkp o S S' := fun r _ hr => h r hr
theorem lfr.kn {o a : Nat} {S S' : lwS} (h : lfr a S S') (ha : S.1 a = none) : lkp o S S' := fun r hr _ => h r (fun e => hr (by rw [e]; exact ha))
theorem lkp.b {o b : Nat} {S S1 S2 : lwS} (h : lkp o S S1) (hb : S.1 b = none) (hf : lfr b S1 S2) : lkp o S S2 := fun r hr hro => (hf r (fun e => hr (by rw [e]; exact hb))).trans (h r hr hro)
theorem lkp.s {o r : Nat} {S S' : lwS} {B : lwB} (h : lkp o S S') (hr : S.1 r = some B) (hne : r ≠ o) : S'.1 r = some B := by rw [h r (by rw [hr]; exact fun q => by cases q) hne]; exact hr
theorem lQ.kp {q o : Nat} {S S' : lwS} (hq : lQ q S) (h : lkp o S S') (hne : q ≠ o) : lQ q S' := by
  obtain ⟨l, h1, h2⟩ := hq
  exact ⟨l, h.s h1 hne, h2⟩
theorem lO.kp {D : vD} {E : Int → Int} {z : vZs} {o r : Nat} {S S' : lwS} (h : lO D E z o S) (hf : lkp r S S') (hne : o ≠ r) : lO D E z o S' := by
  obtain ⟨h1, h2, m, h3, h4⟩ := h
  exact ⟨h1, h2, m, hf.s h3 hne, h4⟩
theorem ems_2 {l : List Int} : ∀ {s : Int × Int × Int}, (ems s l).2.2 = if s.1 ≤ s.2.1 ∧ s.2.1 < s.1 + l.length then l.getD (s.2.1 - s.1).toNat 0 else s.2.2 := by
  induction l with
  | nil => intro s; rw [ems_nil, if_neg (by simp)]
  | cons b l ih =>
    intro s
    rw [ems_cons, ih]
    unfold em
    simp only [List.length_cons]
    by_cases q : s.1 = s.2.1
    · rw [if_neg (by omega), if_pos q, if_pos (by omega), show (s.2.1 - s.1).toNat = 0 by omega]
      rfl
    · rw [if_neg q]
      by_cases q2 : s.1 + 1 ≤ s.2.1 ∧ s.2.1 < s.1 + 1 + (l.length : Int)
      · rw [if_pos q2, if_pos (by omega), show (s.2.1 - s.1).toNat = (s.2.1 - (s.1 + 1)).toNat + 1 by omega]
        rfl
      · rw [if_neg q2, if_neg (by omega)]
/-- the view (1), the setup text (0) -/
noncomputable def lTX (D : vD) (E : Int → Int) (v : Int) : List Int := if v = 0 then vset D E else vvt D E (eQ D E) 0
section LT
variable {D : vD} {E : Int → Int} {z : vZs} {o : Nat}
theorem ld_text {S : lwS} {v : Int} {N x y : Nat} {Qp : Option vm_V → lwS → Prop} (hO : lO D E z o S) (hv : v = 0 ∨ v = 1) (hT : lTx (lTX D E v)) (hN : (lTX D E v).length ≤ N) (hN2 : N ≤ 32767) (hb : N + 4 + x ≤ S.2.1 ∧ 5 * N + 24 + y ≤ S.2.2) (kk : ∀ a S', 100 ≤ a → S.1 a = none → S'.1 a = some (lbS (lTX D E v)) → lO D E z o S' → lkp o S S' → (x ≤ S'.2.1 ∧ y ≤ S'.2.2) → Qp (some (vm_r a)) S') : lG lK_text 0 (lEn lK_text [vm_r o, vm_i v]) [] S Qp := by
  generalize hTd : lTX D E v = T at hT hN kk
  refine rL_text_0 (ln_Nb N (x + 2) (y + 4 + N) ⟨by omega, by omega⟩ (fun b S1 hb1 hb2 hf1 hB1 hc1 => ln_I0 hB1 hc1 (fun S2 hf2 hB2 => ?_)))
  have nbo : o ≠ b := by
    intro e
    obtain ⟨-, -, m, h3, -⟩ := hO
    rw [e, hb2] at h3
    cases h3
  have hO2 : lO D E z o S2 := (hO.fr hf1 nbo).fr hf2 nbo
  have hk2 : lkp o S S2 := (lkp.rf.b hb2 hf1).b hb2 hf2
  -- the loop
  have go : ∀ (n i : Nat) (S3 : lwS), i + n = T.length → lO D E z o S3 → lBd b (T.take i) N (x + 2) (y + 4 + N) S3 → lkp o S S3 → lG lK_text 27 [some (vm_r o), some (vm_i v), some (vm_r b), some (vm_i (T.length : Int)), some (vm_i (i : Int))] [] S3 Qp := by
    intro n
    induction n with
    | zero =>
      intro i S3 hi hO3 hB3 hk3
      rw [List.take_of_length_le (by omega)] at hB3
      refine rL_text_27 ⟨fun _ => ln_To hB3 (by omega) (fun a S4 ha1 ha2 hf4 hA4 hc4 => ?_), fun c => absurd (by omega) c⟩
      have nao : o ≠ a := by
        intro e
        obtain ⟨-, -, m, h3, -⟩ := hO3
        rw [e, ha2] at h3
        cases h3
      refine kk a S4 ha1 ?_ hA4 (hO3.fr hf4 nao) (hk3.tr (hf4.kn ha2)) hc4
      cases hS : S.1 a with
      | none => rfl
      | some B =>
        have := hk3.s hS (fun e => nao e.symm)
        rw [ha2] at this
        cases this
    | succ n ih =>
      intro i S3 hi hO3 hB3 hk3
      have hbo : b ≠ o := (lBdO hO3 hB3).symm
      have hz : 0 ≤ T.getD i 0 ∧ T.getD i 0 < 128 := by
        rw [List.getD_eq_getElem?_getD, List.getElem?_eq_getElem (by omega)]
        exact hT _ (List.getElem_mem _)
      have nxt : ∀ S4, lsame o S3 S4 → lO D E z o S4 → lG lK_text 53 [some (vm_r o), some (vm_i v), some (vm_r b), some (vm_i (T.length : Int)), some (vm_i (i : Int))] [vm_i (T.getD i 0), vm_r b] S4 Qp := by
        intro S4 hs4 hO4
        refine rL_text_53 ⟨by omega, ln_Ac (hB3.fr hs4 hbo) hz (by rw [List.length_take]; omega) hN2 (fun S5 hf5 hB5 => ⟨⟨by omega, by omega⟩, ?_⟩)⟩
        have e5 : T.take i ++ [T.getD i 0] = T.take (i + 1) := by
          rw [List.take_add_one, List.getElem?_eq_getElem (by omega), List.getD_eq_getElem?_getD, List.getElem?_eq_getElem (by omega)]
          rfl
        rw [e5] at hB5
        have := ih (i + 1) S5 (by omega) (hO4.fr hf5 hbo.symm) hB5 ((hk3.tr hs4.fr.kp).b hb2 hf5)
        rwa [show ((i + 1 : Nat) : Int) = (i : Int) + 1 by omega] at this
      refine rL_text_27 ⟨fun c => absurd c (by omega), fun _ => ⟨fun c => ?_, fun c => ?_⟩⟩
      · refine lq_setupByte hO3 (fun S4 hs4 hO4 => ?_)
        unfold a_setupByte
        rw [if_pos (by omega), ems_2, if_pos ⟨by show (0 : Int) ≤ i; omega, by rw [show vset D E = T by rw [← hTd]; unfold lTX; rw [if_pos c]]; show (i : Int) < 0 + (T.length : Int); omega⟩]
        have := nxt S4 hs4 hO4
        rw [show vset D E = T by rw [← hTd]; unfold lTX; rw [if_pos c]]
        rwa [show ((0 : Int), (i : Int), (-2 : Int)).2.1 = i from rfl, show ((0 : Int), (i : Int), (-2 : Int)).1 = 0 from rfl, show ((i : Int) - 0).toNat = i by omega]
      · refine lq_viewByte hO3 (fun S4 hs4 hO4 => ?_)
        unfold a_viewByte
        rw [if_pos (by omega), ems_2, if_pos ⟨by show (0 : Int) ≤ i; omega, by rw [show vvt D E (eQ D E) 0 = T by rw [← hTd]; unfold lTX; rw [if_neg c]]; show (i : Int) < 0 + (T.length : Int); omega⟩]
        have := nxt S4 hs4 hO4
        rw [show vvt D E (eQ D E) 0 = T by rw [← hTd]; unfold lTX; rw [if_neg c]]
        rwa [show ((0 : Int), (i : Int), (-2 : Int)).2.1 = i from rfl, show ((0 : Int), (i : Int), (-2 : Int)).1 = 0 from rfl, show ((i : Int) - 0).toNat = i by omega]
  have hbo : b ≠ o := nbo.symm
  refine ⟨fun c => ?_, fun c => ?_⟩
  · refine lq_setupLength hO2 (fun S3 hs3 hO3 => rL_text_23 ?_)
    unfold a_setupLength
    rw [ems_1, show vset D E = T by rw [← hTd]; unfold lTX; rw [if_pos c]]
    have := go T.length 0 S3 (by omega) hO3 (hB2.fr hs3 hbo) (hk2.tr hs3.fr.kp)
    rwa [show (((0 : Int), (-1 : Int), (-2 : Int)).1 + (T.length : Int)) = (T.length : Int) by show (0 : Int) + _ = _; omega]
  · refine lq_viewLength hO2 (fun S3 hs3 hO3 => rL_text_23 ?_)
    unfold a_viewLength
    rw [ems_1, show vvt D E (eQ D E) 0 = T by rw [← hTd]; unfold lTX; rw [if_neg c]]
    have := go T.length 0 S3 (by omega) hO3 (hB2.fr hs3 hbo) (hk2.tr hs3.fr.kp)
    rwa [show (((0 : Int), (-1 : Int), (-2 : Int)).1 + (T.length : Int)) = (T.length : Int) by show (0 : Int) + _ = _; omega]
theorem ln_text {S : lwS} {v : Int} {N x y : Nat} {P : Nat → lwS → Prop} (hO : lO D E z o S) (hv : v = 0 ∨ v = 1) (hT : lTx (lTX D E v)) (hN : (lTX D E v).length ≤ N) (hN2 : N ≤ 32767) (hb : N + 4 + x ≤ S.2.1 ∧ 5 * N + 24 + y ≤ S.2.2) (kk : ∀ a S', 100 ≤ a → S.1 a = none → S'.1 a = some (lbS (lTX D E v)) → lO D E z o S' → lkp o S S' → (x ≤ S'.2.1 ∧ y ≤ S'.2.2) → P a S') : lCr lK_text [vm_r o, vm_i v] S P := by
  refine ⟨N + 4, 5 * N + 24, ⟨by omega, by omega⟩, ld_text (S := (S.1, N + 4, 5 * N + 24)) (x := 0) (y := 0) hO hv hT hN hN2 ⟨Nat.le_refl _, Nat.le_refl _⟩ (fun a S' h1 h2 h3 h4 h5 _ => ⟨a, rfl, kk a _ h1 h2 h3 h4 h5 ⟨?_, ?_⟩⟩)⟩
  · show x ≤ S.2.1 - (N + 4); omega
  · show y ≤ S.2.2 - (5 * N + 24); omega
end LT
