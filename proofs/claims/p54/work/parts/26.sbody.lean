/-! ===== a method's body, a method ===== -/
section VMS9
variable {p : Program} {l : Launch} {e : Env} {R : Room} {s : State} {m : MethodId} {args : Array Value} {below : List Frame} {meth : Method} {c : Code} {Q : State → Prop}
variable {dC : Nat → ClassId} {dI : Nat → Nat → Nat} {ad : Nat → Nat} {CA : Nat → ClassId} {A : Nat → Prop} {ph : Bool} {f d : Nat} {m0 : vm_M} {n0 : Nat}
theorem vm_s_jmp {cells slots : Nat} (C : vm_Cx p R s m args meth c dC dI ad CA A f d m0 ph n0) {pc len : Nat} {i : vm_I} {ls : vm_L} {st : List vm_V} {mem : vm_M} {q : Nat × List vm_V} (hi : vm_at f pc = some (i, len)) (hj : vm_jmp i (pc + len) st = some q) (K : vm_Wx p l e R s m args below meth c cells slots Q dC dI ad CA A ph f m0 n0 q.1 ls q.2 mem) : vm_Wx p l e R s m args below meth c cells slots Q dC dI ad CA A ph f m0 n0 pc ls st mem := by
  have hf : vm_pr f = true := C.2.2.2.2.2.2.2.2.1
  obtain ⟨ins, hd, htr⟩ := vm_dec hf hi
  obtain ⟨kd, a, b, t⟩ := i
  unfold vm_jmp at hj
  unfold vm_tr at htr
  cases kd with
  | goto o =>
    dsimp only at hj htr
    cases hj
    split at htr
    · simp only [Bool.and_eq_true, decide_eq_true_eq] at htr
      obtain ⟨h1, h2⟩ := htr
      have h3 := vm_beq h2
      subst h3
      exact vm_s_goto C hd h1 K
    · cases htr
  | ifCond cc o =>
    dsimp only at hj htr
    split at hj
    · cases hj
      split at htr
      · simp only [Bool.and_eq_true, decide_eq_true_eq] at htr
        obtain ⟨⟨h0, h1⟩, h2⟩ := htr
        have h3 := vm_beq h2
        subst h3 h0
        exact vm_s_if C hd h1 K
      · cases htr
    · cases hj
  | if_icmp cc o =>
    dsimp only at hj htr
    split at hj
    · cases hj
      split at htr
      · simp only [Bool.and_eq_true, decide_eq_true_eq] at htr
        obtain ⟨⟨h0, h1⟩, h2⟩ := htr
        have h3 := vm_beq h2
        subst h3 h0
        exact vm_s_icmp C hd h1 K
      · cases htr
    · cases hj
  | ifnull o =>
    dsimp only at hj htr
    split at hj
    · cases hj
      split at htr
      · have h3 := vm_beq htr
        subst h3
        exact vm_s_ifnull C hd K
      · cases htr
    · cases hj
  | ifnonnull o =>
    dsimp only at hj htr
    split at hj
    · cases hj
      split at htr
      · simp only [Bool.and_eq_true, decide_eq_true_eq] at htr
        obtain ⟨h1, h2⟩ := htr
        have h3 := vm_beq h2
        subst h3
        exact vm_s_ifnonnull C hd h1 K
      · cases htr
    · cases hj
  | tableswitch d1 lo hi os =>
    dsimp only at hj htr
    split at hj
    · cases hj
      split at htr
      · simp only [Bool.and_eq_true, decide_eq_true_eq] at htr
        obtain ⟨⟨h0, h1⟩, h2⟩ := htr
        exact vm_s_tbl C hd h0 h1 h2 K
      · cases htr
    · cases hj
  | _ => cases hj
/-- the methods that d calls deep come to their ends -/
def vm_OK (l : Launch) (dC : Nat → ClassId) (dI : Nat → Nat → Nat) (ad : Nat → Nat) (CA : Nat → ClassId) (A : Nat → Prop) (m0 : vm_M) (d : Nat) : Prop :=
  ∀ (ph : Bool) (g : Nat), vm_pr g = true → vm_ht g ≤ d → ∀ (n : Nat) (av : List vm_V) (mem : vm_M) (r : Option vm_V) (m1 : vm_M), vm_okh g av = true → av.length = vm_na g → (vm_ea av).length ≤ vm_mx g → (ph = false → vm_mc g = 0 ∧ vm_ms g = 0 ∨ True) → vm_os av → vm_om mem → vm_ox m0 mem → vm_wp ph n d g (vm_mc g) (vm_ms g) 0 (vm_en g av) [] mem (fun r' m' => r' = r ∧ m' = m1) → vm_Mt l dC dI ad CA A ph m0 g d av mem r m1
theorem vm_sta_cls {g k : Nat} {r : List vm_V} (hs : vm_sta g = false) (h : vm_okh g (vm_r k :: r) = true) : vm_is k (vm_mo g) = true := by
  have h1 : (vm_sta g || vm_is k (vm_mo g)) = true := h
  rw [hs] at h1
  simpa using h1
theorem vm_okh_v0 {g : Nat} {av : List vm_V} (hs : vm_sta g = false) (hn : 1 ≤ av.length) (h : vm_okh g av = true) : ∃ k as, av = vm_r k :: as := by
  unfold vm_okh at h
  split at h
  · simp at hn
  · exact ⟨_, _, rfl⟩
  · rw [hs] at h; cases h
theorem vm_rev {av st : List vm_V} {na : Nat} (h : (st.take na).reverse = av) : st = av.reverse ++ st.drop na := by
  rw [← h, List.reverse_reverse, List.take_append_drop]
theorem vm_s_call {cells slots : Nat} (hIH : vm_OK l dC dI ad CA A m0 d) (C : vm_Cx p R s m args meth c dC dI ad CA A f (d + 1) m0 ph n0) {pc len n : Nat} {i : vm_I} {ls : vm_L} {st : List vm_V} {mem : vm_M} {kc ks : Nat} (hi : vm_at f pc = some (i, len)) (hk : vm_kd i = 3) (hok : vm_okc i.2.1 (st.take i.2.2.1).reverse (st.drop i.2.2.1) kc ks = true) (hpre : vm_pre ph st mem = true) (hcs : cells + kc ≤ R.cells ∧ slots + ks ≤ R.slots) {r : Option vm_V} {m1 : vm_M} (hw : vm_wp ph n d i.2.1 (vm_mc i.2.1) (vm_ms i.2.1) 0 (vm_en i.2.1 (st.take i.2.2.1).reverse) [] mem (fun r' m' => r' = r ∧ m' = m1)) (K : vm_Wx p l e R s m args below meth c (cells + vm_mc i.2.1) (slots + vm_ms i.2.1) Q dC dI ad CA A ph f m0 n0 (pc + len) ls (r.toList ++ st.drop i.2.2.1) m1) : vm_Wx p l e R s m args below meth c cells slots Q dC dI ad CA A ph f m0 n0 pc ls st mem := by
  have hf : vm_pr f = true := C.2.2.2.2.2.2.2.2.1
  have hht : vm_ht f ≤ d + 1 := C.2.2.2.2.2.2.2.2.2.2.2.2.1
  obtain ⟨ins, hd, htr⟩ := vm_dec hf hi
  have hti := vm_hti_at hf hi
  obtain ⟨kd, g, na, t⟩ := i
  dsimp only at hok hw K
  intro H locs lsa hat hol hos hom hox hl
  have hos1 : vm_os (st.take na).reverse := fun v hv => hos v (List.mem_of_mem_take (List.mem_reverse.mp hv))
  unfold vm_okc vm_okn at hok
  simp only [Bool.and_eq_true] at hok
  obtain ⟨hok1, ⟨⟨⟨k1, k2⟩, k3⟩, k4⟩, k5⟩ := hok
  have k1 := vm_beq k1
  have k2 := Nat.le_of_ble_eq_true k2
  have k3 := Nat.le_of_ble_eq_true k3
  have k4 := Nat.le_of_ble_eq_true k4
  have k5 := Nat.le_of_ble_eq_true k5
  have hcs1 : cells + vm_mc g ≤ R.cells ∧ slots + vm_ms g ≤ R.slots := ⟨by omega, by omega⟩
  have hst : st = ((st.take na).reverse).reverse ++ st.drop na := vm_rev rfl
  have key : vm_pr g = true → vm_ht g ≤ d → vm_Mt l dC dI ad CA A ph m0 g d (st.take na).reverse mem r m1 := fun hg hh => hIH ph g hg hh n _ mem r m1 hok1 k1 k5 (fun _ => Or.inr trivial) hos1 hom hox hw
  clear hw
  generalize hav : (st.take na).reverse = av at *
  generalize hre : st.drop na = rest at *
  clear hav hre
  subst hst
  unfold vm_tr at htr
  unfold vm_hti at hti
  cases kd with
  | invokevirtual o =>
    dsimp only at htr hti
    have hlt : Nat.blt g 1000 = true := by
      unfold vm_kd at hk
      dsimp only at hk
      cases hq : Nat.blt g 1000 with
      | true => rfl
      | false => rw [hq] at hk; cases hk
    rw [hlt] at htr hti
    split at htr
    · simp only [cond_true, Bool.and_eq_true, Bool.not_eq_true', decide_eq_false_iff_not] at htr
      obtain ⟨h2, ⟨⟨⟨h3, h4⟩, h5⟩, h6⟩, h7⟩ := htr
      have h2 := vm_beq h2
      subst h2
      have hg := h4
      obtain ⟨-, -, -, -, -, -, w7⟩ := vm_mok_0 hg
      obtain ⟨k, as, rfl⟩ := vm_okh_v0 h5 (by rcases w7 with w7 | w7; · omega
                                              · rw [h5] at w7; cases w7) hok1
      have hM := key hg (by have := vm_blt hti; omega)
      rw [List.reverse_cons, List.append_assoc] at hos hpre ⊢
      exact vm_s_callV C hg h5 h7 (vm_sta_cls h5 hok1) (by simpa using k1) k2 hcs1 hpre hM h3 hd K H locs lsa hat hol hos hom hox hl
    · cases htr
  | invokestatic o =>
    dsimp only at htr hti
    have hlt : Nat.blt g 1000 = true := by
      unfold vm_kd at hk
      dsimp only at hk
      cases hq : Nat.blt g 1000 with
      | true => rfl
      | false => rw [hq] at hk; cases hk
    rw [hlt] at htr hti
    split at htr
    · simp only [cond_true, Bool.and_eq_true] at htr
      obtain ⟨h2, ⟨⟨h3, h4⟩, h5⟩, h6⟩ := htr
      have h2 := vm_beq h2
      subst h2
      have hg := h4
      have hM := key hg (by have := vm_blt hti; omega)
      exact vm_s_callS C hg h5 k1 k2 hcs1 hM h3 hd K H locs lsa hat hol hos hom hox hl
    · cases htr
  | invokespecial o =>
    dsimp only at htr hti
    have hlt : Nat.blt g 1000 = true := by
      unfold vm_kd at hk
      dsimp only at hk
      cases hq : Nat.blt g 1000 with
      | true => rfl
      | false => rw [hq] at hk; cases hk
    rw [hlt] at htr hti
    split at htr
    · simp only [cond_true, Bool.and_eq_true, Bool.or_eq_true, Bool.not_eq_true', decide_eq_true_eq] at htr
      obtain ⟨h2, ⟨⟨⟨⟨h3, h4⟩, h5⟩, h6⟩, h7⟩, h8⟩ := htr
      have h2 := vm_beq h2
      subst h2
      have hg := h4
      obtain ⟨-, -, -, -, -, -, w7⟩ := vm_mok_0 hg
      obtain ⟨k, as, rfl⟩ := vm_okh_v0 h5 (by rcases w7 with w7 | w7; · omega
                                              · rw [h5] at w7; cases w7) hok1
      have hM := key hg (by have := vm_blt hti; omega)
      rw [List.reverse_cons, List.append_assoc] at hos hpre ⊢
      exact vm_s_callI C hg h5 h7 h8 (by simpa using k1) k2 hcs1 hM h3 hd K H locs lsa hat hol hos hom hox hl
    · cases htr
  | _ => first | cases hk | (unfold vm_kd at hk; dsimp only at hk; cases hk)
end VMS9
