/-! ===== random words ===== -/
/-- nothing that stood changes, but at o and q -/
def lk2 (o q : Nat) (S S' : lwS) : Prop := ∀ r, S.1 r ≠ none → r ≠ o → r ≠ q → S'.1 r = S.1 r
theorem lk2.rf {o q : Nat} {S : lwS} : lk2 o q S S := fun _ _ _ _ => rfl
theorem lk2.tr {o q : Nat} {S S1 S2 : lwS} (h : lk2 o q S S1) (h2 : lk2 o q S1 S2) : lk2 o q S S2 := fun r h3 h4 h5 => (h2 r (by rw [h r h3 h4 h5]; exact h3) h4 h5).trans (h r h3 h4 h5)
theorem lk2.b {o q b : Nat} {S S1 S2 : lwS} (h : lk2 o q S S1) (hb : S.1 b = none) (hf : lfr b S1 S2) : lk2 o q S S2 := fun r hr h4 h5 => (hf r (fun e => hr (by rw [e]; exact hb))).trans (h r hr h4 h5)
theorem lkp.ko {o q : Nat} {S S' : lwS} (h : lkp o S S') : lk2 o q S S' := fun r h1 h2 _ => h r h1 h2
theorem lkp.kq {o q : Nat} {S S' : lwS} (h : lkp q S S') : lk2 o q S S' := fun r h1 _ h2 => h r h1 h2
theorem lsame.ko {o q : Nat} {S S' : lwS} (h : lsame o S S') : lk2 o q S S' := h.fr.kp.ko
theorem lsame.kq {o q : Nat} {S S' : lwS} (h : lsame q S S') : lk2 o q S S' := h.fr.kp.kq
theorem lk2.s {o q r : Nat} {S S' : lwS} {B : lwB} (h : lk2 o q S S') (hr : S.1 r = some B) (ho : r ≠ o) (hq : r ≠ q) : S'.1 r = some B := by rw [h r (by rw [hr]; exact fun z => by cases z) ho hq]; exact hr
theorem lWt_app : ∀ (ws : List (List Int × Bool)) (q : List Int × Bool), lWt (ws ++ [q]) = lWt ws ++ (q.1.map (fun a => 97 + a) ++ (if q.2 then [10] else [32, 32]))
  | [], q => by show q.1.map (fun a => 97 + a) ++ ((if q.2 then [10] else [32, 32]) ++ []) = _; rw [List.append_nil]; rfl
  | p :: ws, q => by
    show p.1.map (fun a => 97 + a) ++ ((if p.2 then [10] else [32, 32]) ++ lWt (ws ++ [q])) = (p.1.map (fun a => 97 + a) ++ ((if p.2 then [10] else [32, 32]) ++ lWt ws)) ++ _
    rw [lWt_app ws q]
    simp only [List.append_assoc]
theorem lWt_len : ∀ (ws : List (List Int × Bool)), (∀ q ∈ ws, q.1.length ≤ 5) → (lWt ws).length ≤ 7 * ws.length
  | [], _ => Nat.le_refl _
  | p :: ws, h => by
    have h1 := lWt_len ws (fun q hq => h q (List.mem_cons_of_mem _ hq))
    have h2 := h p List.mem_cons_self
    show (p.1.map (fun a => 97 + a) ++ ((if p.2 then [10] else [32, 32]) ++ lWt ws)).length ≤ _
    rw [List.length_append, List.length_append, List.length_map, List.length_cons]
    have : (if p.2 then [10] else [32, 32] : List Int).length ≤ 2 := by split <;> decide
    omega
theorem lWt_tx : ∀ (ws : List (List Int × Bool)), (∀ q ∈ ws, ∀ a ∈ q.1, 0 ≤ a ∧ a < 26) → lTx (lWt ws)
  | [], _ => fun z hz => by cases hz
  | p :: ws, h => by
    refine lTx.app (fun z hz => ?_) (lTx.app (fun z hz => ?_) (lWt_tx ws (fun q hq => h q (List.mem_cons_of_mem _ hq))))
    · obtain ⟨a, ha, rfl⟩ := List.mem_map.mp hz
      have := h p List.mem_cons_self a ha
      omega
    · split at hz
      · rw [List.mem_singleton.mp hz]; decide
      · simp only [List.mem_cons, List.not_mem_nil, or_false] at hz
        omega
section LWO
variable {D : vD} {E : Int → Int} {o q : Nat}
theorem ld_words {z : vZs} {S : lwS} {x y L : Nat} {Qp : Option vm_V → lwS → Prop} (hO : lO D E z o S) (hQ : lQ q S) (hL : vs (vtl D) 26 = L) (hL1 : 1 ≤ L) (ht : ∀ i : Nat, i < L → dk D (3 * (i : Int))) (hb : 100 + x ≤ S.2.1 ∧ 500 + y ≤ S.2.2) (kk : ∀ ws a S', (1 ≤ ws.length ∧ ws.length ≤ 9) → (∀ u ∈ ws, (1 ≤ u.1.length ∧ u.1.length ≤ 5) ∧ ∀ a ∈ u.1, dk D a) → 100 ≤ a → S.1 a = none → S'.1 a = some (lbS (lWt ws)) → lO D E z o S' → lQ q S' → lk2 o q S S' → (x ≤ S'.2.1 ∧ y ≤ S'.2.2) → Qp (some (vm_r a)) S') : lG lK_words 0 (lEn lK_words [vm_r o, vm_r q]) [] S Qp := by
  have noq := lOQ hO hQ
  refine rL_words_0 (ln_Nb 63 (x + 2) (y + 4 + 63) ⟨by omega, by omega⟩ (fun b S1 hb1 hb2 hf1 hB1 hc1 => ln_I0 hB1 hc1 (fun S2 hf2 hB2 => ?_)))
  have nbo : o ≠ b := by
    intro e
    obtain ⟨-, -, m, h3, -⟩ := hO
    rw [e, hb2] at h3
    cases h3
  have nbq : q ≠ b := by
    intro e
    obtain ⟨l, h3, -⟩ := hQ
    rw [e, hb2] at h3
    cases h3
  have hO2 := (hO.fr hf1 nbo).fr hf2 nbo
  have hQ2 := (hQ.fr hf1 nbq).fr hf2 nbq
  have hk2 : lk2 o q S S2 := (lk2.rf.b hb2 hf1).b hb2 hf2
  have v9 : a_value D E 9 = (L : Int) := hL
  have go : ∀ (n : Nat) (ws : List (List Int × Bool)) (S3 : lwS), ws.length + n ≤ 9 → 1 ≤ ws.length + n → (∀ u ∈ ws, (1 ≤ u.1.length ∧ u.1.length ≤ 5) ∧ ∀ a ∈ u.1, dk D a) → lO D E z o S3 → lQ q S3 → lBd b (lWt ws) 63 (x + 2) (y + 4 + 63) S3 → lk2 o q S S3 → lG lK_words 18 [some (vm_r o), some (vm_r q), some (vm_r b), some (vm_i (n : Int)), none] [] S3 Qp := by
    intro n
    induction n with
    | zero =>
      intro ws S3 h9 h1 hu hO3 hQ3 hB3 hk3
      have hl := lWt_len ws (fun u h => (hu u h).1.2)
      refine rL_words_18 ⟨fun _ => ln_To hB3 (by omega) (fun a S4 ha1 ha2 hf4 hA4 hc4 => ?_), fun c => absurd (by omega) c⟩
      have nao : o ≠ a := by
        intro e
        obtain ⟨-, -, m, h3, -⟩ := hO3
        rw [e, ha2] at h3
        cases h3
      have naq : q ≠ a := by
        intro e
        obtain ⟨l, h3, -⟩ := hQ3
        rw [e, ha2] at h3
        cases h3
      refine kk ws a S4 ⟨by omega, by omega⟩ hu ha1 ?_ hA4 (hO3.fr hf4 nao) (hQ3.fr hf4 naq) (hk3.tr (hf4.kn (o := o) ha2).ko) hc4
      cases hS : S.1 a with
      | none => rfl
      | some B =>
        have := hk3.s hS (fun e => nao e.symm) (fun e => naq e.symm)
        rw [ha2] at this
        cases this
    | succ n ih =>
      intro ws S3 h9 h1 hu hO3 hQ3 hB3 hk3
      have hl := lWt_len ws (fun u h => (hu u h).1.2)
      refine rL_words_18 ⟨fun c => absurd c (by omega), fun _ => ln_draw hQ3 (fun d S4 hd hs4 hQ4 => ⟨⟨hd.1, by decide⟩, ?_⟩)⟩
      have lets : ∀ (k : Nat) (u : List Int) (S5 : lwS), u.length + k ≤ 5 → (u = [] → 1 ≤ k) → (∀ a ∈ u, dk D a) → lO D E z o S5 → lQ q S5 → lBd b (lWt ws ++ u.map (fun a => 97 + a)) 63 (x + 2) (y + 4 + 63) S5 → lk2 o q S S5 → lG lK_words 30 [some (vm_r o), some (vm_r q), some (vm_r b), some (vm_i ((n + 1 : Nat) : Int)), some (vm_i ((k : Int) - 1))] [] S5 Qp := by
        intro k
        induction k with
        | zero =>
          intro u S5 hk hk1 hua hO5 hQ5 hB5 hk5
          have hu1 : 1 ≤ u.length := by
            cases u with
            | nil => exact absurd (hk1 rfl) (by decide)
            | cons a u => simp
          have fin : ∀ (nl : Bool) (t : Nat) (S6 : lwS), lStr S6.1 t (if nl then [10] else [32, 32]) → lO D E z o S6 → lQ q S6 → lBd b (lWt ws ++ u.map (fun a => 97 + a)) 63 (x + 2) (y + 4 + 63) S6 → lk2 o q S S6 → lG lK_words 80 [some (vm_r o), some (vm_r q), some (vm_r b), some (vm_i ((n + 1 : Nat) : Int)), none] [vm_r t, vm_r b] S6 Qp := by
            intro nl t S6 hs6 hO6 hQ6 hB6 hk6
            have h2 : (if nl then [10] else [32, 32] : List Int).length ≤ 2 := by split <;> decide
            refine rL_words_80 (ln_As hB6 hs6 (by rw [List.length_append, List.length_map]; omega) (by decide) (fun S7 hf7 hB7 => ⟨⟨by omega, by omega⟩, ?_⟩))
            have e7 : lWt ws ++ u.map (fun a => 97 + a) ++ (if nl then [10] else [32, 32]) = lWt (ws ++ [(u, nl)]) := by rw [lWt_app, List.append_assoc]
            rw [e7] at hB7
            have := ih (ws ++ [(u, nl)]) S7 (by rw [List.length_append]; simp; omega) (by rw [List.length_append]; simp; omega) (fun v hv => by
              rcases List.mem_append.mp hv with h | h
              · exact hu v h
              · rw [List.mem_singleton.mp h]; exact ⟨⟨hu1, by omega⟩, hua⟩) (hO6.fr hf7 nbo) (hQ6.fr hf7 nbq) hB7 (hk6.b hb2 hf7)
            rwa [show ((n + 1 : Nat) : Int) + -1 = (n : Int) by omega]
          refine rL_words_30 ⟨fun _ => ln_draw hQ5 (fun d S6 hd hs6 hQ6 => ⟨⟨hd.1, by decide⟩, fun c => ?_, fun c => ?_⟩), fun c => absurd (by omega) c⟩
          · exact fin false 46 S6 (Or.inl ⟨by decide, by decide⟩) (hO5.q hQ5 hs6.fr) hQ6 (hB5.fr hs6 nbq.symm) (hk5.tr hs6.kq)
          · exact fin true 45 S6 (Or.inl ⟨by decide, by decide⟩) (hO5.q hQ5 hs6.fr) hQ6 (hB5.fr hs6 nbq.symm) (hk5.tr hs6.kq)
        | succ k ih2 =>
          intro u S5 hk hk1 hua hO5 hQ5 hB5 hk5
          refine rL_words_30 ⟨fun c => absurd c (by omega), fun _ => ln_draw hQ5 (fun d S6 hd hs6 hQ6 => lq_value (hO5.q hQ5 hs6.fr) (fun S7 hs7 hO7 => ?_))⟩
          rw [v9]
          have hd0 : 0 ≤ d % (L : Int) := Int.emod_nonneg d (by omega)
          have hd1 : d % (L : Int) < L := Int.emod_lt_of_pos d (by omega)
          have hdk := ht (d % (L : Int)).toNat (by omega)
          rw [show (((d % (L : Int)).toNat : Nat) : Int) = d % (L : Int) by omega] at hdk
          have h26 := hdk.2.1
          refine ⟨⟨hd.1, by omega⟩, ⟨by omega, by omega⟩, ⟨by omega, by omega⟩, ⟨by omega, by omega⟩, ln_Ac ((hB5.fr hs6 nbq.symm).fr hs7 nbo.symm) ⟨by omega, by omega⟩ (by rw [List.length_append, List.length_map]; omega) (by decide) (fun S8 hf8 hB8 => ⟨⟨by omega, by omega⟩, ?_⟩)⟩
          have e8 : lWt ws ++ u.map (fun a => 97 + a) ++ [97 + 3 * (d % (L : Int))] = lWt ws ++ (u ++ [3 * (d % (L : Int))]).map (fun a => 97 + a) := by rw [List.map_append, List.append_assoc]; rfl
          rw [e8] at hB8
          have := ih2 (u ++ [3 * (d % (L : Int))]) S8 (by rw [List.length_append]; simp; omega) (fun h => by simp at h) (fun a ha => by
            rcases List.mem_append.mp ha with h | h
            · exact hua a h
            · rw [List.mem_singleton.mp h]; exact hdk) (hO7.fr hf8 nbo) ((hQ6.o (hO5.q hQ5 hs6.fr) hs7.fr).fr hf8 nbq) hB8 (((hk5.tr hs6.kq).tr hs7.ko).b hb2 hf8)
          rwa [show ((k + 1 : Nat) : Int) - 1 + -1 = (k : Int) - 1 by omega]
      have := lets ((d % 5).toNat + 1) [] S4 (by simp; omega) (fun _ => by omega) (fun a h => by cases h) (hO3.q hQ3 hs4.fr) hQ4 (by simpa using hB3.fr hs4 nbq.symm) (hk3.tr hs4.kq)
      rwa [show (((d % 5).toNat + 1 : Nat) : Int) - 1 = d % 5 by omega] at this
  refine ln_draw hQ2 (fun d S3 hd hs3 hQ3 => ⟨⟨hd.1, by decide⟩, ⟨by omega, by omega⟩, ?_⟩)
  have := go ((1 + d % 9).toNat) [] S3 (by simp; omega) (by simp; omega) (fun u h => by cases h) (hO2.q hQ2 hs3.fr) hQ3 (hB2.fr hs3 nbq.symm) (hk2.tr hs3.kq)
  rwa [show (((1 + d % 9).toNat : Nat) : Int) = 1 + d % 9 by omega] at this
end LWO
