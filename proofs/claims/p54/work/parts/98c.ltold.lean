/-! ===== all that is told of x ===== -/
noncomputable def lV14 (D : vD) (E : Int → Int) : Nat → Nat → List Int
  | 0, _ => []
  | n + 1, w => [32] ++ (lDec (a_value D E (w : Int)).toNat ++ lV14 D E n (w + 1))
def lSpw (D : vD) (w : Nat) : Nat → Nat → List Int
  | 0, _ => []
  | n + 1, k => [32] ++ (lDec (dP D (12 * (w : Int) + (k : Int))).toNat ++ lSpw D w n (k + 1))
def lSps (D : vD) : Nat → Nat → List Int
  | 0, _ => []
  | n + 1, w => lSpw D w (dL D (w : Int)).toNat 0 ++ lSps D n (w + 1)
noncomputable def lTold (D : vD) (E : Int → Int) : List Int := lTX D E 1 ++ (lTX D E 0 ++ (lV14 D E 14 0 ++ (lSps D (dN D).toNat 0 ++ lDec (a_cost D E).toNat)))
/-- its texts, numbers, letters, cost are such that they can be told -/
def lTOK (D : vD) (E : Int → Int) : Prop := (lTx (lTX D E 1) ∧ (lTX D E 1).length ≤ 4920) ∧ (lTx (lTX D E 0) ∧ (lTX D E 0).length ≤ 2000) ∧ (∀ w : Nat, w < 14 → 0 ≤ a_value D E w ∧ a_value D E w < 10000000) ∧ (∀ w k : Nat, (w : Int) < dN D → (k : Int) < dL D w → 0 ≤ dP D (12 * (w : Int) + (k : Int)) ∧ dP D (12 * (w : Int) + (k : Int)) < 26) ∧ (0 ≤ a_cost D E ∧ a_cost D E < 10000000)
theorem sb_dg7 {x : Nat} (h : x < 10000000) : sb_dg x ≤ 7 := by unfold sb_dg; (repeat' split) <;> omega
theorem sb_dg2 {x : Nat} (h : x < 100) : sb_dg x ≤ 2 := by unfold sb_dg; (repeat' split) <;> omega
section LTO
variable {D : vD} {E : Int → Int} {z : vZs} {o : Nat}
theorem lV14_len (h : ∀ w : Nat, w < 14 → 0 ≤ a_value D E w ∧ a_value D E w < 10000000) : ∀ (n w : Nat), w + n ≤ 14 → (lV14 D E n w).length ≤ 8 * n
  | 0, w, _ => Nat.le_refl _
  | n + 1, w, hw => by
    unfold lV14
    have h1 := lV14_len h n (w + 1) (by omega)
    have h2 := h w (by omega)
    have h3 := sb_dg7 (x := (a_value D E w).toNat) (by omega)
    rw [List.length_append, List.length_append, lDec_len]
    simp only [List.length_cons, List.length_nil]
    omega
theorem lSpw_len {w : Nat} (h : ∀ k : Nat, (k : Int) < dL D w → 0 ≤ dP D (12 * (w : Int) + (k : Int)) ∧ dP D (12 * (w : Int) + (k : Int)) < 26) : ∀ (n k : Nat), (k : Int) + n ≤ dL D w → (lSpw D w n k).length ≤ 3 * n
  | 0, k, _ => Nat.le_refl _
  | n + 1, k, hw => by
    unfold lSpw
    have h1 := lSpw_len h n (k + 1) (by omega)
    have h2 := h k (by omega)
    have h3 := sb_dg2 (x := (dP D (12 * (w : Int) + (k : Int))).toNat) (by omega)
    rw [List.length_append, List.length_append, lDec_len]
    simp only [List.length_cons, List.length_nil]
    omega
theorem lSps_len (hO : OC D E) (h : ∀ w k : Nat, (w : Int) < dN D → (k : Int) < dL D w → 0 ≤ dP D (12 * (w : Int) + (k : Int)) ∧ dP D (12 * (w : Int) + (k : Int)) < 26) : ∀ (n w : Nat), (w : Int) + n ≤ dN D → (lSps D n w).length ≤ 36 * n
  | 0, w, _ => Nat.le_refl _
  | n + 1, w, hw => by
    unfold lSps
    have h1 := lSps_len hO h n (w + 1) (by omega)
    have hl := hO.2.1.2.2.2.1 w (by omega) (by omega)
    have h2 := lSpw_len (D := D) (w := w) (fun k hk => h w k (by omega) hk) (dL D w).toNat 0 (by omega)
    rw [List.length_append]
    omega
theorem ld_told {S : lwS} {x y : Nat} {Qp : Option vm_V → lwS → Prop} (hO : lO D E z o S) (ht : lTOK D E) (hb : 16000 + x ≤ S.2.1 ∧ 100000 + y ≤ S.2.2) (kk : ∀ a S', 100 ≤ a → S.1 a = none → S'.1 a = some (lbS (lTold D E)) → lO D E z o S' → lkp o S S' → (x ≤ S'.2.1 ∧ y ≤ S'.2.2) → Qp (some (vm_r a)) S') : lG lK_told 0 (lEn lK_told [vm_r o]) [] S Qp := by
  obtain ⟨⟨v1, v2⟩, ⟨u1, u2⟩, hv, hp, hc⟩ := ht
  have hOC := hO.1
  have hN0 := hOC.2.1.2.1
  have hN := hOC.2.1.2.2.1
  have l14 := lV14_len hv 14 0 (by decide)
  have lsp := lSps_len hOC hp (dN D).toNat 0 (by omega)
  have lco := sb_dg7 (x := (a_cost D E).toNat) (by omega)
  refine rL_told_0 ⟨⟨by omega, by omega⟩, fun b hb1 hb2 => ?_⟩
  have hf1 : lfr b S (lup S.1 b (lbB [] 0), S.2.1 - 1, S.2.2 - 4) := fun r hr => lup_n hr
  have hB1 : ((lup S.1 b (lbB [] 0), S.2.1 - 1, S.2.2 - 4) : lwS).1 b = some (lbB [] 0) := lup_s _ _ _
  have hcc1 : S.2.1 - 1 = ((lup S.1 b (lbB [] 0), S.2.1 - 1, S.2.2 - 4) : lwS).2.1 := rfl
  have hcc2 : S.2.2 - 4 = ((lup S.1 b (lbB [] 0), S.2.1 - 1, S.2.2 - 4) : lwS).2.2 := rfl
  generalize ((lup S.1 b (lbB [] 0), S.2.1 - 1, S.2.2 - 4) : lwS) = S1 at hf1 hB1 hcc1 hcc2 ⊢
  have nbo : o ≠ b := by
    intro e
    obtain ⟨-, -, m, h3, -⟩ := hO
    rw [e, hb2] at h3
    cases h3
  have hbo : b ≠ o := nbo.symm
  refine ln_text (N := 4920) (x := 16000 - 4930 + x) (y := 100000 - 24640 + y) (hO.fr hf1 nbo) (Or.inr rfl) v1 v2 (by decide) ⟨by omega, by omega⟩ (fun a1 S3 ha1 hn1 hA1 hO3 hk3 hc3 => ?_)
  have hB3 : S3.1 b = some (lbB [] 0) := hk3.s hB1 hbo
  have na1 : b ≠ a1 := fun e => by rw [← e, hB3] at hA1; cases hA1
  have k03 : lkp o S S3 := fun r hr hro => by
    have e : r ≠ b := fun e => hr (by rw [e]; exact hb2)
    rw [hk3 r (by rw [hf1 r e]; exact hr) hro, hf1 r e]
  refine ln_Is (N := 8300) (x := 2100 + x + 2) (y := 12000 + y + 4 + 8300) hB3 (Or.inr hA1) (by omega) ⟨by omega, by omega⟩ (fun S5 hf5 hB5 => ?_)
  have k05 := k03.b hb2 hf5
  have hO5 := hO3.fr hf5 nbo
  obtain ⟨c5, c51, c52, c53, c54⟩ := hB5
  obtain ⟨g5, hg5⟩ : ∃ g, g = (if c5 < 8300 then 4 * 8300 - 2 * c5 else 0) := ⟨_, rfl⟩
  rw [← hg5] at c54
  obtain ⟨y5, hy5⟩ : ∃ c : Nat, c = y + 4 + 8300 := ⟨_, rfl⟩
  have c55 : 5 * 2000 + 24 + (g5 + y5) ≤ S5.2.2 := by
    have e9 : 12000 + y + 4 + 8300 = y5 + 12000 := by omega
    rw [e9] at c54
    clear hg5 e9 hy5 hc3 c53 hcc1 hcc2 hb
    omega
  refine ln_text (N := 2000) (x := (8300 - c5) + (x + 2)) (y := g5 + y5) hO5 (Or.inl rfl) u1 u2 (by decide) ⟨by omega, c55⟩ (fun a2 S6 ha2 hn2 hA2 hO6 hk6 hc6 => ?_)
  have hB6 : lBd b (lTX D E 1) 8300 (x + 2) (y + 4 + 8300) S6 := ⟨c5, c51, hk6.s c52 hbo, hc6.1, by rw [← hg5, ← hy5]; exact hc6.2⟩
  have k06 : lkp o S S6 := k05.tr hk6
  refine ln_As hB6 (Or.inr hA2) (by omega) (by decide) (fun S8 hf8 hB8 => ?_)
  have k08 := k06.b hb2 hf8
  have hO8 := hO6.fr hf8 nbo
  -- the end: cost, text
  have fin : ∀ (l : List Int) (S9 : lwS), l ++ lDec (a_cost D E).toNat = lTold D E → l.length ≤ 8290 → lO D E z o S9 → lBd b l 8300 (x + 2) (y + 4 + 8300) S9 → lkp o S S9 → lNn 143 o [] S9 (fun z4 S3 => lAi b z4 S3 (fun S5 => lTo b S5 (fun r7 S6 => Qp (some (vm_r r7)) S6))) := by
    intro l S9 el hl hO9 hB9 k9
    refine lq_cost hO9 (fun S10 hs hO10 => ln_Ai (hB9.fr hs hbo) hc (by rw [lDec_len]; omega) (by decide) (fun S11 hf11 hB11 => ?_))
    rw [el] at hB11
    have ell : (lTold D E).length ≤ 8300 := by rw [← el, List.length_append, lDec_len]; omega
    refine ln_To hB11 ell (fun a S12 ha hn hf12 hA hc12 => ?_)
    have hO11 := hO10.fr hf11 nbo
    have k11 := (k9.tr hs.fr.kp).b hb2 hf11
    have nao : o ≠ a := by
      intro e
      obtain ⟨-, -, m, h3, -⟩ := hO11
      rw [e, hn] at h3
      cases h3
    refine kk a S12 ha ?_ hA (hO11.fr hf12 nao) (k11.tr (hf12.kn hn)) hc12
    cases hS : S.1 a with
    | none => rfl
    | some B =>
      have := k11.s hS (fun e => nao e.symm)
      rw [hn] at this
      cases this
  -- the words
  have words : ∀ (n w : Nat) (l : List Int) (S9 : lwS), (w : Int) + n = dN D → l ++ (lSps D n w ++ lDec (a_cost D E).toNat) = lTold D E → l.length + 36 * n ≤ 8290 → lO D E z o S9 → lBd b l 8300 (x + 2) (y + 4 + 8300) S9 → lkp o S S9 → lG lK_told 52 [some (vm_r o), some (vm_r b), some (vm_i (w : Int)), none] [] S9 Qp := by
    intro n
    induction n with
    | zero =>
      intro w l S9 hw el hl hO9 hB9 k9
      refine rL_told_52 (lq_value hO9 (fun S10 hs hO10 => ⟨fun _ => ?_, fun c => absurd (show a_value D E 11 ≤ (w : Int) by show dN D ≤ _; omega) c⟩))
      exact fin l S10 el (by omega) hO10 (hB9.fr hs hbo) (k9.tr hs.fr.kp)
    | succ n ih =>
      intro w l S9 hw el hl hO9 hB9 k9
      have hdl := hOC.2.1.2.2.2.1 w (by omega) (by omega)
      refine rL_told_52 (lq_value hO9 (fun S10 hs hO10 => ⟨fun c => absurd (show dN D ≤ (w : Int) from c) (by omega), fun _ => ?_⟩))
      -- the letters
      have lets : ∀ (n2 k : Nat) (l2 : List Int) (S11 : lwS), (k : Int) + n2 = dL D w → l2 ++ (lSpw D w n2 k ++ (lSps D n (w + 1) ++ lDec (a_cost D E).toNat)) = lTold D E → l2.length + 3 * n2 + 36 * n ≤ 8290 → lO D E z o S11 → lBd b l2 8300 (x + 2) (y + 4 + 8300) S11 → lkp o S S11 → lG lK_told 64 [some (vm_r o), some (vm_r b), some (vm_i (w : Int)), some (vm_i (k : Int))] [] S11 Qp := by
        intro n2
        induction n2 with
        | zero =>
          intro k l2 S11 hk el2 hl2 hO11 hB11 k11
          have ew : a_word D E (w : Int) 0 = dL D w := by unfold a_word; rw [vif_t ⟨by omega, by omega⟩, if_pos rfl]
          refine rL_told_64 (lq_word hO11 (fun S12 hs2 hO12 => ⟨fun _ => ⟨⟨by omega, by omega⟩, ?_⟩, fun c => absurd (by rw [ew]; omega) c⟩))
          have := ih (w + 1) l2 S12 (by omega) el2 (by omega) hO12 (hB11.fr hs2 hbo) (k11.tr hs2.fr.kp)
          rwa [show ((w + 1 : Nat) : Int) = (w : Int) + 1 by omega] at this
        | succ n2 ih2 =>
          intro k l2 S11 hk el2 hl2 hO11 hB11 k11
          have ew : a_word D E (w : Int) 0 = dL D w := by unfold a_word; rw [vif_t ⟨by omega, by omega⟩, if_pos rfl]
          have es : a_spelled D E (w : Int) (k : Int) = dP D (12 * (w : Int) + (k : Int)) := by unfold a_spelled; rw [vif_t ⟨⟨by omega, by omega⟩, by omega⟩, if_pos (by omega)]
          have hpk := hp w k (by omega) (by omega)
          have hdg := sb_dg2 (x := (dP D (12 * (w : Int) + (k : Int))).toNat) (by omega)
          refine rL_told_64 (lq_word hO11 (fun S12 hs2 hO12 => ⟨fun c => absurd c (by rw [ew]; omega), fun _ => ?_⟩))
          refine ln_As (w := [32]) (hB11.fr hs2 hbo) (Or.inl ⟨by decide, by decide⟩) (by simp only [List.length_cons, List.length_nil]; omega) (by decide) (fun S13 hf13 hB13 => ?_)
          refine lq_spelled (hO12.fr hf13 nbo) (fun S14 hs4 hO14 => ?_)
          rw [es]
          refine ln_Ai (hB13.fr hs4 hbo) ⟨by omega, by omega⟩ (by rw [List.length_append, lDec_len]; simp only [List.length_cons, List.length_nil]; omega) (by decide) (fun S15 hf15 hB15 => ⟨⟨by omega, by omega⟩, ?_⟩)
          have := ih2 (k + 1) _ S15 (by omega) (by rw [← el2]; show _ = l2 ++ (([32] ++ (lDec (dP D (12 * (w : Int) + (k : Int))).toNat ++ lSpw D w n2 (k + 1))) ++ _); simp only [List.append_assoc]) (by rw [List.length_append, List.length_append, lDec_len]; simp only [List.length_cons, List.length_nil]; omega) (hO14.fr hf15 nbo) hB15 ((((k11.tr hs2.fr.kp).b hb2 hf13).tr hs4.fr.kp).b hb2 hf15)
          rwa [show ((k + 1 : Nat) : Int) = (k : Int) + 1 by omega] at this
      exact lets (dL D w).toNat 0 l S10 (by omega) (by rw [← el]; show _ = l ++ ((lSpw D w (dL D w).toNat 0 ++ lSps D n (w + 1)) ++ _); rw [List.append_assoc]) (by omega) hO10 (hB9.fr hs hbo) (k9.tr hs.fr.kp)
  -- the numbers
  have nums : ∀ (n w : Nat) (l : List Int) (S9 : lwS), w + n = 14 → l ++ (lV14 D E n w ++ (lSps D (dN D).toNat 0 ++ lDec (a_cost D E).toNat)) = lTold D E → l.length + 8 * n ≤ 7100 → lO D E z o S9 → lBd b l 8300 (x + 2) (y + 4 + 8300) S9 → lkp o S S9 → lG lK_told 23 [some (vm_r o), some (vm_r b), some (vm_i (w : Int)), none] [] S9 Qp := by
    intro n
    induction n with
    | zero =>
      intro w l S9 hw el hl hO9 hB9 k9
      exact rL_told_23 ⟨fun _ => words (dN D).toNat 0 l S9 (by omega) el (by omega) hO9 hB9 k9, fun c => absurd (by omega) c⟩
    | succ n ih =>
      intro w l S9 hw el hl hO9 hB9 k9
      have hvw := hv w (by omega)
      have hdg := sb_dg7 (x := (a_value D E w).toNat) (by omega)
      refine rL_told_23 ⟨fun c => absurd c (by omega), fun _ => ?_⟩
      refine ln_As (w := [32]) hB9 (Or.inl ⟨by decide, by decide⟩) (by simp only [List.length_cons, List.length_nil]; omega) (by decide) (fun S13 hf13 hB13 => ?_)
      refine lq_value (hO9.fr hf13 nbo) (fun S14 hs4 hO14 => ?_)
      refine ln_Ai (hB13.fr hs4 hbo) ⟨by omega, by omega⟩ (by rw [List.length_append, lDec_len]; simp only [List.length_cons, List.length_nil]; omega) (by decide) (fun S15 hf15 hB15 => ⟨⟨by omega, by omega⟩, ?_⟩)
      have := ih (w + 1) _ S15 (by omega) (by rw [← el]; show _ = l ++ (([32] ++ (lDec (a_value D E (w : Int)).toNat ++ lV14 D E n (w + 1))) ++ _); simp only [List.append_assoc]) (by rw [List.length_append, List.length_append, lDec_len]; simp only [List.length_cons, List.length_nil]; omega) (hO14.fr hf15 nbo) hB15 (((k9.b hb2 hf13).tr hs4.fr.kp).b hb2 hf15)
      rwa [show ((w + 1 : Nat) : Int) = (w : Int) + 1 by omega] at this
  exact nums 14 0 _ S8 (by decide) (by unfold lTold; rw [List.append_assoc]) (by rw [List.length_append]; omega) hO8 hB8 k08
theorem ln_told {S : lwS} {x y : Nat} {P : Nat → lwS → Prop} (hO : lO D E z o S) (ht : lTOK D E) (hb : 16000 + x ≤ S.2.1 ∧ 100000 + y ≤ S.2.2) (kk : ∀ a S', 100 ≤ a → S.1 a = none → S'.1 a = some (lbS (lTold D E)) → lO D E z o S' → lkp o S S' → (x ≤ S'.2.1 ∧ y ≤ S'.2.2) → P a S') : lCr lK_told [vm_r o] S P := by
  obtain ⟨cT, hcT⟩ : ∃ c : Nat, c = 16000 := ⟨_, rfl⟩
  obtain ⟨zT, hzT⟩ : ∃ c : Nat, c = 100000 := ⟨_, rfl⟩
  rw [← hcT, ← hzT] at hb
  refine ⟨cT, zT, ⟨by omega, by omega⟩, ld_told (S := (S.1, cT, zT)) (x := 0) (y := 0) hO ht ⟨by show 16000 + 0 ≤ cT; omega, by show 100000 + 0 ≤ zT; omega⟩ (fun a S' h1 h2 h3 h4 h5 _ => ⟨a, rfl, kk a _ h1 h2 h3 h4 h5 ⟨?_, ?_⟩⟩)⟩
  · show x ≤ S.2.1 - cT; omega
  · show y ≤ S.2.2 - zT; omega
end LTO
