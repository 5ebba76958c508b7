/-! ===== the constructors, run ===== -/
def vm_ev (ph : Bool) : Nat → Nat → Nat → Nat → Nat → Nat → vm_L → List vm_V → vm_M → Option (Option vm_V × vm_M)
  | 0, _, _, _, _, _, _, _, _ => none
  | n + 1, d, f, kc, ks, pc, ls, st, m =>
    match vm_at f pc with
    | none => none
    | some (i, len) =>
      match vm_kd i with
      | 0 => (match vm_x ph i ls st m true with
        | some s => bif s.2.2.2 && vm_pre ph st m then vm_ev ph n d f kc ks (pc + len) s.1 s.2.1 s.2.2.1 else none
        | none => none)
      | 1 => (match vm_jmp i (pc + len) st with
        | some q => vm_ev ph n d f kc ks q.1 ls q.2 m
        | none => none)
      | 2 => (match vm_re i st with
        | some q => bif q.2 && (bif ph then Nat.beq kc 0 else true) then some (q.1, m) else none
        | none => none)
      | 3 => (match d with
        | 0 => none
        | d' + 1 => bif vm_okc i.2.1 (st.take i.2.2.1).reverse (st.drop i.2.2.1) kc ks && vm_pre ph st m then
            (match vm_ev ph n d' i.2.1 (vm_mc i.2.1) (vm_ms i.2.1) 0 (vm_en i.2.1 (st.take i.2.2.1).reverse) [] m with
            | some q => vm_ev ph n d f (kc - vm_mc i.2.1) (ks - vm_ms i.2.1) (pc + len) ls (q.1.toList ++ st.drop i.2.2.1) q.2
            | none => none) else none)
      | _ => bif ph then (match vm_mk i st m with
        | some q => bif q.2.2.2 && Nat.ble 1 kc && Nat.ble q.2.2.1 ks then vm_ev ph n d f (kc - 1) (ks - q.2.2.1) (pc + len) ls q.1 q.2.1 else none
        | none => none) else none
theorem vm_ev_wp {ph : Bool} : ∀ (n : Nat) {d f kc ks pc : Nat} {ls : vm_L} {st : List vm_V} {m : vm_M} {q : Option vm_V × vm_M}, vm_ev ph n d f kc ks pc ls st m = some q → vm_wp ph n d f kc ks pc ls st m (fun r m' => r = q.1 ∧ m' = q.2) := by
  intro n
  induction n with
  | zero => intro d f kc ks pc ls st m q h; cases h
  | succ n ih =>
    intro d f kc ks pc ls st m q h
    unfold vm_ev at h
    unfold vm_wp
    cases ha : vm_at f pc with
    | none => rw [ha] at h; cases h
    | some il =>
      obtain ⟨i, len⟩ := il
      rw [ha] at h
      dsimp only at h ⊢
      generalize vm_kd i = kd at h ⊢
      rcases kd with _ | _ | _ | _ | kd
      · try dsimp only at h ⊢
        cases hx : vm_x ph i ls st m true with
        | none => rw [hx] at h; cases h
        | some s =>
          rw [hx] at h
          dsimp only at h
          cases hb : (s.2.2.2 && vm_pre ph st m) with
          | false => rw [hb] at h; cases h
          | true =>
            rw [hb] at h
            simp only [Bool.and_eq_true] at hb
            exact ⟨hb, ih h⟩
      · try dsimp only at h ⊢
        cases hx : vm_jmp i (pc + len) st with
        | none => rw [hx] at h; cases h
        | some s => rw [hx] at h; exact ih h
      · try dsimp only at h ⊢
        cases hx : vm_re i st with
        | none => rw [hx] at h; cases h
        | some s =>
          rw [hx] at h
          dsimp only at h
          cases hb : (s.2 && (bif ph then Nat.beq kc 0 else true)) with
          | false => rw [hb] at h; cases h
          | true =>
            rw [hb] at h
            simp only [Bool.and_eq_true] at hb
            cases h
            exact ⟨hb, rfl, rfl⟩
      · try dsimp only at h ⊢
        cases d with
        | zero => cases h
        | succ d =>
          dsimp only at h
          cases hb : (vm_okc i.2.1 (st.take i.2.2.1).reverse (st.drop i.2.2.1) kc ks && vm_pre ph st m) with
          | false => rw [hb] at h; cases h
          | true =>
            rw [hb] at h
            simp only [Bool.and_eq_true] at hb
            dsimp only [cond] at h
            cases hx : vm_ev ph n d i.2.1 (vm_mc i.2.1) (vm_ms i.2.1) 0 (vm_en i.2.1 (st.take i.2.2.1).reverse) [] m with
            | none => rw [hx] at h; cases h
            | some s =>
              rw [hx] at h
              refine ⟨hb, vm_wp_mono n (Nat.le_refl _) (Nat.le_refl _) ?_ (ih hx)⟩
              rintro r m' ⟨rfl, rfl⟩
              exact ih h
      · try dsimp only at h ⊢
        cases ph with
        | false => cases h
        | true =>
          dsimp only [cond] at h ⊢
          cases hx : vm_mk i st m with
          | none => rw [hx] at h; cases h
          | some s =>
            rw [hx] at h
            dsimp only at h
            cases hb : (s.2.2.2 && Nat.ble 1 kc && Nat.ble s.2.2.1 ks) with
            | false => rw [hb] at h; cases h
            | true =>
              rw [hb] at h
              simp only [Bool.and_eq_true] at hb
              exact ⟨hb.1.1, Nat.le_of_ble_eq_true hb.1.2, Nat.le_of_ble_eq_true hb.2, ih h⟩
/-- the memory at the law's entry, without the script -/
def vm_mZ : vm_M := fun k i => if k = 900 then (vm_lst 900).getD i.toNat 0 else if k = 901 then (vm_lst 901).getD i.toNat 0 else if k = 903 then -1 else 0
def vm_e1 : Option (Option vm_V × vm_M) := vm_ev true 3000 12 100 (vm_mc 100) (vm_ms 100) 0 (vm_en 100 [vm_r 0]) [] (vm_nm vm_mZ)
def vm_m1 : vm_M :=
  match vm_e1 with
  | some q => q.2
  | none => vm_mZ
def vm_e2 : Option (Option vm_V × vm_M) := vm_ev true 3000 12 163 (vm_mc 163) (vm_ms 163) 0 (vm_en 163 [vm_r 96]) [] (vm_nm vm_m1)
def vm_mF : vm_M :=
  match vm_e2 with
  | some q => q.2
  | none => vm_mZ
def vm_eok (o : Option (Option vm_V × vm_M)) : Bool :=
  match o with
  | some (none, _) => true
  | _ => false
theorem vm_e1_ok : vm_eok vm_e1 = true := by decide +kernel
theorem vm_e2_ok : (vm_eok vm_e2 && decide (vm_m1 990 0 = 96) && decide (vm_mF 990 0 = 117)) = true := by decide +kernel
theorem vm_e1_wp : vm_wp true 3000 12 100 (vm_mc 100) (vm_ms 100) 0 (vm_en 100 [vm_r 0]) [] (vm_nm vm_mZ) (fun r m' => r = none ∧ m' = vm_m1) := by
  have h := vm_e1_ok
  unfold vm_eok at h
  split at h
  · rename_i q hq
    have h2 := vm_ev_wp 3000 (show vm_ev true 3000 12 100 (vm_mc 100) (vm_ms 100) 0 (vm_en 100 [vm_r 0]) [] (vm_nm vm_mZ) = some (none, q) from hq)
    have h3 : vm_m1 = q := by unfold vm_m1; rw [hq]
    rw [h3]
    exact h2
  · cases h
theorem vm_e2_wp : vm_wp true 3000 12 163 (vm_mc 163) (vm_ms 163) 0 (vm_en 163 [vm_r 96]) [] (vm_nm vm_m1) (fun r m' => r = none ∧ m' = vm_mF) := by
  have h := vm_e2_ok
  simp only [Bool.and_eq_true] at h
  have h := h.1.1
  unfold vm_eok at h
  split at h
  · rename_i q hq
    have h2 := vm_ev_wp 3000 (show vm_ev true 3000 12 163 (vm_mc 163) (vm_ms 163) 0 (vm_en 163 [vm_r 96]) [] (vm_nm vm_m1) = some (none, q) from hq)
    have h3 : vm_mF = q := by unfold vm_mF; rw [hq]
    rw [h3]
    exact h2
  · cases h
/-- all references that constructors lay are laid -/
def vm_bits (k : Nat) : Bool := bif Nat.blt (vm_cl k) 100 then (List.range (vm_nf (vm_cl k))).all (fun f => !Nat.beq (vm_fk (vm_cl k) f) 2 || decide (vm_mF k (f : Int) = 1)) else bif Nat.beq (vm_cl k) 104 then (List.range (vm_ln k)).all (fun j => decide (vm_mF k (j : Int) = 1)) else true
theorem vm_bits_all : (List.range 117).all vm_bits = true := by decide +kernel
