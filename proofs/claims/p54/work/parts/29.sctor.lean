/-! ===== the constructors, run ===== -/
def vm_ev (ph : Bool) : Nat → Nat → Nat → Nat → Nat → Nat → vm_L → List vm_V → vm_M → Option (Option vm_V × vm_M)
  | 0, _, _, _, _, _, _, _, _ => none
  | n + 1, d, f, kc, ks, pc, ls, st, m =>
    match vm_at f pc with
    | none => none
    | some (i, len) =>
      match vm_kd i with
      | 0 => (match vm_x ph i ls st m true with
        | some s => bif s.2.2.2 && vm_pre ph st m then vm_ev ph n d f kc ks (pc + len) s.1 s.2.1 s.2.2.1 else none
        | none => none)
      | 1 => (match vm_jmp i (pc + len) st with
        | some q => vm_ev ph n d f kc ks q.1 ls q.2 m
        | none => none)
      | 2 => (match vm_re i st with
        | some q => bif q.2 && (bif ph then Nat.beq kc 0 else true) then some (q.1, m) else none
        | none => none)
      | 3 => (match d with
        | 0 => none
        | d' + 1 => bif vm_okc i.2.1 (st.take i.2.2.1).reverse (st.drop i.2.2.1) kc ks && vm_pre ph st m then
            (match vm_ev ph n d' i.2.1 (vm_mc i.2.1) (vm_ms i.2.1) 0 (vm_en i.2.1 (st.take i.2.2.1).reverse) [] m with
            | some q => vm_ev ph n d f (kc - vm_mc i.2.1) (ks - vm_ms i.2.1) (pc + len) ls (q.1.toList ++ st.drop i.2.2.1) q.2
            | none => none) else none)
      | _ => bif ph then (match vm_mk i st m with
        | some q => bif q.2.2.2 && Nat.ble 1 kc && Nat.ble q.2.2.1 ks then vm_ev ph n d f (kc - 1) (ks - q.2.2.1) (pc + len) ls q.1 q.2.1 else none
        | none => none) else none
theorem vm_ev_wp {ph : Bool} : ∀ (n : Nat) {d f kc ks pc : Nat} {ls : vm_L} {st : List vm_V} {m : vm_M} {q : Option vm_V × vm_M}, vm_ev ph n d f kc ks pc ls st m = some q → vm_wp ph n d f kc ks pc ls st m (fun r m' => r = q.1 ∧ m' = q.2) := by
  intro n
  induction n with
  | zero => intro d f kc ks pc ls st m q h; cases h
  | succ n ih =>
    intro d f kc ks pc ls st m q h
    unfold vm_ev at h
    unfold vm_wp
    cases ha : vm_at f pc with
    | none => rw [ha] at h; cases h
    | some il =>
      obtain ⟨i, len⟩ := il
      rw [ha] at h
      dsimp only at h ⊢
      generalize vm_kd i = kd at h ⊢
      rcases kd with _ | _ | _ | _ | kd
      · try dsimp only at h ⊢
        cases hx : vm_x ph i ls st m true with
        | none => rw [hx] at h; cases h
        | some s =>
          rw [hx] at h
          dsimp only at h
          cases hb : (s.2.2.2 && vm_pre ph st m) with
          | false => rw [hb] at h; cases h
          | true =>
            rw [hb] at h
            simp only [Bool.and_eq_true] at hb
            exact ⟨hb, ih h⟩
      · try dsimp only at h ⊢
        cases hx : vm_jmp i (pc + len) st with
        | none => rw [hx] at h; cases h
        | some s => rw [hx] at h; exact ih h
      · try dsimp only at h ⊢
        cases hx : vm_re i st with
        | none => rw [hx] at h; cases h
        | some s =>
          rw [hx] at h
          dsimp only at h
          cases hb : (s.2 && (bif ph then Nat.beq kc 0 else true)) with
          | false => rw [hb] at h; cases h
          | true =>
            rw [hb] at h
            simp only [Bool.and_eq_true] at hb
            cases h
            exact ⟨hb, rfl, rfl⟩
      · try dsimp only at h ⊢
        cases d with
        | zero => cases h
        | succ d =>
          dsimp only at h
          cases hb : (vm_okc i.2.1 (st.take i.2.2.1).reverse (st.drop i.2.2.1) kc ks && vm_pre ph st m) with
          | false => rw [hb] at h; cases h
          | true =>
            rw [hb] at h
            simp only [Bool.and_eq_true] at hb
            dsimp only [cond] at h
            cases hx : vm_ev ph n d i.2.1 (vm_mc i.2.1) (vm_ms i.2.1) 0 (vm_en i.2.1 (st.take i.2.2.1).reverse) [] m with
            | none => rw [hx] at h; cases h
            | some s =>
              rw [hx] at h
              refine ⟨hb, vm_wp_mono n (Nat.le_refl _) (Nat.le_refl _) ?_ (ih hx)⟩
              rintro r m' ⟨rfl, rfl⟩
              exact ih h
      · try dsimp only at h ⊢
        cases ph with
        | false => cases h
        | true =>
          dsimp only [cond] at h ⊢
          cases hx : vm_mk i st m with
          | none => rw [hx] at h; cases h
          | some s =>
            rw [hx] at h
            dsimp only at h
            cases hb : (s.2.2.2 && Nat.ble 1 kc && Nat.ble s.2.2.1 ks) with
            | false => rw [hb] at h; cases h
            | true =>
              rw [hb] at h
              simp only [Bool.and_eq_true] at hb
              exact ⟨hb.1.1, Nat.le_of_ble_eq_true hb.1.2, Nat.le_of_ble_eq_true hb.2, ih h⟩
/-- the memory at the law's entry, without the script -/
def vm_mZ : vm_M := fun k i => if k = 900 then (vm_lst 900).getD i.toNat 0 else if k = 901 then (vm_lst 901).getD i.toNat 0 else if k = 903 then -1 else 0
def vm_e1 : Option (Option vm_V × vm_M) := vm_ev true 3000 12 100 (vm_mc 100) (vm_ms 100) 0 (vm_en 100 [vm_r 0]) [] (vm_nm vm_mZ)
def vm_m1 : vm_M :=
  match vm_e1 with
  | some q => q.2
  | none => vm_mZ
def vm_eok (o : Option (Option vm_V × vm_M)) : Bool :=
  match o with
  | some (none, _) => true
  | _ => false
theorem vm_e1_ok : vm_eok vm_e1 = true := by decide +kernel
theorem vm_m1_ok : decide (vm_m1 990 0 = 96) = true := by decide +kernel
theorem vm_e1_wp : vm_wp true 3000 12 100 (vm_mc 100) (vm_ms 100) 0 (vm_en 100 [vm_r 0]) [] (vm_nm vm_mZ) (fun r m' => r = none ∧ m' = vm_m1) := by
  have h := vm_e1_ok
  unfold vm_eok at h
  split at h
  · rename_i q hq
    have h2 := vm_ev_wp 3000 (show vm_ev true 3000 12 100 (vm_mc 100) (vm_ms 100) 0 (vm_en 100 [vm_r 0]) [] (vm_nm vm_mZ) = some (none, q) from hq)
    have h3 : vm_m1 = q := by unfold vm_m1; rw [hq]
    rw [h3]
    exact h2
  · cases h
/-- all references that constructors lay are laid -/
def vm_bits (k : Nat) : Bool := bif Nat.blt (vm_cl k) 100 then (List.range (vm_nf (vm_cl k))).all (fun f => !Nat.beq (vm_fk (vm_cl k) f) 2 || decide (vm_m1 k (f : Int) = 1)) else bif Nat.beq (vm_cl k) 104 then (List.range (vm_ln k)).all (fun j => decide (vm_m1 k (j : Int) = 1)) else true
theorem vm_bits_all : (List.range 96).all vm_bits = true := by decide +kernel
theorem vm_bits_f {k f : Nat} (hk : k < 96) (hc : vm_cl k < 100) (hf : f < vm_nf (vm_cl k)) (h2 : vm_fk (vm_cl k) f = 2) : vm_m1 k (f : Int) = 1 := by
  have h := List.all_eq_true.mp vm_bits_all k (List.mem_range.mpr hk)
  unfold vm_bits at h
  rw [vm_blt' hc] at h
  have h3 := List.all_eq_true.mp h f (List.mem_range.mpr hf)
  simp only [Bool.or_eq_true, Bool.not_eq_true', decide_eq_true_eq] at h3
  rcases h3 with h3 | h3
  · rw [h2] at h3; cases h3
  · exact h3
theorem vm_bits_a {k j : Nat} (hk : k < 96) (hc : vm_cl k = 104) (hj : j < vm_ln k) : vm_m1 k (j : Int) = 1 := by
  have h := List.all_eq_true.mp vm_bits_all k (List.mem_range.mpr hk)
  unfold vm_bits at h
  rw [hc] at h
  exact of_decide_eq_true (List.all_eq_true.mp h j (List.mem_range.mpr hj))
theorem vm_m1_96 : (vm_m1 990 0).toNat = 96 := by
  rw [of_decide_eq_true vm_m1_ok]; rfl
theorem vm_arrV_cg {cI : ClassId} {N : Nat} {f g : Nat → Value} (h : ∀ j, j < N → f j = g j) : arrV cI N f = arrV cI N g := by
  unfold arrV
  congr 1
  congr 1
  funext j
  exact h j.1 j.2
theorem vm_ws_len {ad : Nat → Nat} {CA : Nat → ClassId} {ph : Bool} {m : vm_M} {n k : Nat} {q : Nat × va_E} (h : (vm_ws ad CA ph m n)[k]? = some q) : k < n := by
  have := (List.getElem?_eq_some_iff.mp h).1
  simpa [vm_ws] using this
/-- nothing tells the making's world from the other one, once all is laid -/
theorem vm_ws_turn {dC : Nat → ClassId} {dI : Nat → Nat → Nat} {ad : Nat → Nat} {CA : Nat → ClassId} {A : Nat → Prop} {H : Heap} {mF : vm_M} (hbf : ∀ k f : Nat, k < 96 → vm_cl k < 100 → f < vm_nf (vm_cl k) → vm_fk (vm_cl k) f = 2 → mF k (f : Int) = 1) (hba : ∀ k j : Nat, k < 96 → vm_cl k = 104 → j < vm_ln k → mF k (j : Int) = 1) (hP : va_P (dC, dI) vm_cls (vm_ws ad CA true mF 96) H) (hD : va_D A (vm_ws ad CA true mF 96)) : va_P (dC, dI) vm_cls (vm_ws ad CA false (mF) 96) H ∧ va_D A (vm_ws ad CA false (mF) 96) := by
  refine ⟨fun k q hq => ?_, fun i j p q hp hq hpq => ?_, fun k q hq => ?_⟩
  · have hk := vm_ws_len hq
    have h1 := hP k _ (vm_ws_at hk)
    rw [vm_ws_at hk] at hq
    cases hq
    by_cases hc : vm_cl k < 100
    · rcases Nat.lt_or_ge (vm_cl k) 11 with hc2 | hc2
      · rw [vm_ce_o rfl hc2] at h1 ⊢
        obtain ⟨r, h2, h3⟩ := h1
        refine ⟨r, h2, h3.to (fun j hj => ?_)⟩
        rw [vm_cls_at hc2] at h2
        cases h2
        have hj : j < vm_nf (vm_cl k) := hj
        unfold vp_V
        simp only [List.getD_eq_getElem?_getD]
        rw [vm_fs_at hj, vm_fs_at hj]
        show vm_fv ad true (vm_cl k) k (mF k) j = vm_fv ad false (vm_cl k) k (mF k) j
        by_cases h2 : vm_fk (vm_cl k) j = 2
        · rw [vm_fv_r h2 (fun _ => hbf _ _ hk hc hj h2), vm_fv_r h2 (fun h => by cases h)]
        · unfold vm_fv
          split
          · rfl
          · rename_i h4; exact absurd h4 h2
          · rfl
      · exact absurd (show vm_cl k < 11 ∨ 100 ≤ vm_cl k by
          have h5 : (List.range 96).all (fun k => Nat.blt (vm_cl k) 11 || Nat.ble 100 (vm_cl k)) = true := by decide +kernel
          have h6 := List.all_eq_true.mp h5 k (List.mem_range.mpr hk)
          simp only [Bool.or_eq_true] at h6
          exact h6.imp vm_blt Nat.le_of_ble_eq_true) (by omega)
    · by_cases h4 : vm_cl k = 104
      · rw [vm_ce_q h4] at h1 ⊢
        have h1 : H[ad k]? = some (vp_cell (CA 104) _) := h1
        show H[ad k]? = some (vp_cell (CA 104) _)
        rw [h1, vp_cell_q, vp_cell_q]
        congr 1
        refine vm_arrV_cg (fun j hj => ?_)
        rw [if_neg (fun q => q.2 (hba _ _ hk h4 hj)), if_neg (fun q => absurd q.1 (by decide))]
      · have h5 : vm_ce ad CA false k (mF k) = vm_ce ad CA true k (mF k) := by
          unfold vm_ce
          have h6 : Nat.blt (vm_cl k) 100 = false := Bool.eq_false_iff.mpr (fun q => hc (vm_blt q))
          have h7 : Nat.beq (vm_cl k) 104 = false := Bool.eq_false_iff.mpr (fun q => h4 (vm_beq q))
          rw [h6, h7]; rfl
        rw [h5]
        exact h1
  · have hi := vm_ws_len hp
    have hj := vm_ws_len hq
    rw [vm_ws_at hi] at hp
    rw [vm_ws_at hj] at hq
    cases hp
    cases hq
    exact hD.1 i j _ _ (vm_ws_at hi) (vm_ws_at hj) hpq
  · have hk := vm_ws_len hq
    rw [vm_ws_at hk] at hq
    cases hq
    exact hD.2 k (ad k, vm_ce ad CA true k (mF k)) (vm_ws_at hk)
theorem vm_mZ_om : vm_om vm_mZ := by
  intro k i
  have h4 : ∀ k, k = 900 ∨ k = 901 → vm_32 ((vm_lst k).getD i.toNat 0) := by
    intro k hk
    have h5 : ∀ j, vm_32 ((vm_lst k).getD j 0) := by
      intro j
      rcases Nat.lt_or_ge j 6 with hj | hj
      · have h6 : ∀ j, j < 6 → (vm_32 ((vm_lst 900).getD j 0) ∧ vm_32 ((vm_lst 901).getD j 0)) := by decide +kernel
        rcases hk with rfl | rfl
        · exact (h6 j hj).1
        · exact (h6 j hj).2
      · have h7 : (vm_lst k).getD j 0 = 0 := by
          rw [List.getD_eq_getElem?_getD, List.getElem?_eq_none (by rcases hk with rfl | rfl <;> exact hj)]; rfl
        rw [h7]; exact vm_z32
    exact h5 _
  unfold vm_mZ
  by_cases h9 : k = 900
  · subst h9; exact h4 900 (Or.inl rfl)
  by_cases h10 : k = 901
  · subst h10; exact h4 901 (Or.inr rfl)
  by_cases h11 : k = 903
  · subst h11; show vm_32 (-1); decide
  · rw [if_neg h9, if_neg h10, if_neg h11]
    split
    · exact ⟨by decide, by decide⟩
    · exact ⟨by decide, by decide⟩
