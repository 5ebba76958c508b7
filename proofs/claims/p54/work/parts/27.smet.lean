theorem vm_s1_len {ls l : vm_L} {i : Nat} {v : vm_V} (h : vm_s1 ls i v = some l) : l.length = ls.length := by
  rw [(vm_s1_some h).2.2, vm_sl_len]
theorem vm_s2_len {ls l : vm_L} {i : Nat} {v : vm_V} (h : vm_s2 ls i v = some l) : l.length = ls.length := by
  rw [(vm_s2_some h).2.2, vm_sl_len, vm_sl_len]
set_option maxHeartbeats 4000000 in
theorem vm_x_len {ph : Bool} {i : vm_I} {ls : vm_L} {st : List vm_V} {mem : vm_M} {ob : Bool} {s1 : vm_S} (h : vm_x ph i ls st mem ob = some s1) : s1.1.length = ls.length := by
  obtain ⟨k, a, b, t⟩ := i
  unfold vm_x at h
  cases k <;> (try dsimp only at h) <;> (try simp only [Bool.cond_eq_ite] at h) <;> (repeat' split at h) <;> first | (cases h; done) | (cases h; rfl) | (cases h; exact vm_s1_len ‹_›) | (cases h; exact vm_s2_len ‹_›)
theorem vm_rk_all : (List.range 163).all (fun f => (!Nat.beq (vm_rk f) 1 || decide (vm_ret f = some .int)) && (!Nat.beq (vm_rk f) 2 || decide (vm_ret f = some .boolean)) && (!Nat.beq (vm_rk f) 3 || decide (vm_ret f = some .long)) && (!Nat.beq (vm_rk f) 4 || decide (vm_ret f = some .float)) && (!Nat.beq (vm_rk f) 5 || decide (vm_ret f = some .double)) && (!Nat.beq (vm_rk f) 0 || decide (vm_ret f = none))) = true := by decide +kernel
theorem vm_rk_at {f : Nat} (hf : vm_pr f = true) : (vm_rk f = 1 → vm_ret f = some .int) ∧ (vm_rk f = 2 → vm_ret f = some .boolean) ∧ (vm_rk f = 3 → vm_ret f = some .long) ∧ (vm_rk f = 4 → vm_ret f = some .float) ∧ (vm_rk f = 5 → vm_ret f = some .double) ∧ (vm_rk f = 0 → vm_ret f = none) := by
  have h := List.all_eq_true.mp vm_rk_all f (List.mem_range.mpr (vm_pr_lt hf))
  simp only [Bool.and_eq_true, Bool.or_eq_true, Bool.not_eq_true', decide_eq_true_eq] at h
  obtain ⟨⟨⟨⟨⟨h1, h2⟩, h3⟩, h4⟩, h5⟩, h6⟩ := h
  refine ⟨fun q => h1.resolve_left ?_, fun q => h2.resolve_left ?_, fun q => h3.resolve_left ?_, fun q => h4.resolve_left ?_, fun q => h5.resolve_left ?_, fun q => h6.resolve_left ?_⟩ <;> (rw [q]; decide)
section VMSA
variable {p : Program} {l : Launch} {e : Env} {R : Room} {s : State} {m : MethodId} {args : Array Value} {below : List Frame} {meth : Method} {c : Code} {Q : State → Prop}
variable {dC : Nat → ClassId} {dI : Nat → Nat → Nat} {ad : Nat → Nat} {CA : Nat → ClassId} {A : Nat → Prop} {ph : Bool} {f d : Nat} {m0 : vm_M} {n0 : Nat}
theorem vm_s_ret {Qc : Array Value → State → Outcome → State → Prop} {mc ms cells slots : Nat} (C : vm_Cx p R s m args meth c dC dI ad CA A f d m0 ph n0) {pc len : Nat} {i : vm_I} {ls : vm_L} {st : List vm_V} {mem : vm_M} {v : Option vm_V} (hi : vm_at f pc = some (i, len)) (hr : vm_re i st = some (v, true)) (h1 : cells ≤ mc) (h2 : slots ≤ ms)
    (hq : ∀ (H : Heap) (locs : List Loc), vm_At s dC dI ad CA A ph mem cells n0 H locs → vm_om mem → vm_ox m0 mem → (∀ w, v = some w → vm_ov w) → ∀ t : State, t.heap = H → s.WarmedH t.vm → Qc args s (.returned (v.map (vm_v ad))) t) : vm_Wx p l e R s m args below meth c cells slots (MQ below Qc args s mc ms A) dC dI ad CA A ph f m0 n0 pc ls st mem := by
  have hf : vm_pr f = true := C.2.2.2.2.2.2.2.2.1
  have hret : meth.sig.returnType = vm_ret f := C.2.2.2.2.2.2.2.2.2.2.2.2.2.2.1
  have hlk : meth.locks = false := C.2.2.2.2.2.2.2.2.2.2.2.2.2.2.2.1
  obtain ⟨ins, hd, htr⟩ := vm_dec hf hi
  obtain ⟨r1, r2, r3, r4, r5, r0⟩ := vm_rk_at hf
  intro H locs lsa hat hol hos hom hox hl
  refine W.widen h1 h2 ?_
  have hlocs := hat.2.2.1.2.2
  obtain ⟨kd, a, b, t⟩ := i
  unfold vm_tr at htr
  unfold vm_re at hr
  cases kd with
  | ireturn =>
    dsimp only at hr htr
    simp only [Bool.and_eq_true, decide_eq_true_eq, Bool.or_eq_true] at htr
    obtain ⟨⟨⟨rfl, w1⟩, w2⟩, -⟩ := htr
    have w1 := vm_beq w1
    subst w1
    have w2 := vm_beq w2
    split at hr
    · rename_i z heq
      split at hr
      · cases hr
        exact W.iret C.1 C.2.1 (hret.trans (r1 w2.symm)) (fun t0 e1 e2 => hq H locs hat hom hox (fun w hw => by cases hw; exact hos.h) t0 e1 e2) hlocs hd hlk
      · simp only [Option.some.injEq, Prod.mk.injEq, decide_eq_true_eq] at hr
        obtain ⟨rfl, hz⟩ := hr
        exact W.zret C.1 C.2.1 (hret.trans (r2 w2.symm)) (by rcases hz with rfl | rfl <;> rfl) (fun t0 e1 e2 => hq H locs hat hom hox (fun w hw => by cases hw; exact hos.h) t0 e1 e2) hlocs hd hlk
      · cases hr
    all_goals first | (cases hr; done) | contradiction
  | lreturn =>
    dsimp only at hr htr
    simp only [Bool.and_eq_true, decide_eq_true_eq] at htr
    obtain ⟨⟨rfl, w1⟩, w2⟩ := htr
    have w1 := vm_beq w1
    subst w1
    have w2 := vm_beq w2
    split at hr
    · rename_i heq; cases heq
    · rename_i z heq1 heq
      cases hr
      exact W.lret C.1 C.2.1 (hret.trans (r3 w2.symm)) (fun t0 e1 e2 => hq H locs hat hom hox (fun w hw => by cases hw; exact hos.h) t0 e1 e2) hlocs hd hlk
    all_goals first | (cases hr; done) | contradiction
  | freturn =>
    dsimp only at hr htr
    simp only [Bool.and_eq_true, decide_eq_true_eq] at htr
    obtain ⟨⟨rfl, w1⟩, w2⟩ := htr
    have w1 := vm_beq w1
    subst w1
    have w2 := vm_beq w2
    split at hr
    · rename_i heq; cases heq
    · rename_i heq; cases heq
    · rename_i z heq1 heq
      cases hr
      exact W.fret C.1 C.2.1 (hret.trans (r4 w2.symm)) (fun t0 e1 e2 => hq H locs hat hom hox (fun w hw => by cases hw; exact hos.h) t0 e1 e2) hlocs hd hlk
    all_goals first | (cases hr; done) | contradiction
  | dreturn =>
    dsimp only at hr htr
    simp only [Bool.and_eq_true, decide_eq_true_eq] at htr
    obtain ⟨⟨rfl, w1⟩, w2⟩ := htr
    have w1 := vm_beq w1
    subst w1
    have w2 := vm_beq w2
    split at hr
    · rename_i heq; cases heq
    · rename_i heq; cases heq
    · rename_i heq; cases heq
    · rename_i z heq1 heq
      cases hr
      exact W.dret C.1 C.2.1 (hret.trans (r5 w2.symm)) (fun t0 e1 e2 => hq H locs hat hom hox (fun w hw => by cases hw; exact hos.h) t0 e1 e2) hlocs hd hlk
    all_goals first | (cases hr; done) | contradiction
  | return_ =>
    dsimp only at hr htr
    simp only [Bool.and_eq_true, decide_eq_true_eq] at htr
    obtain ⟨⟨rfl, w1⟩, w2⟩ := htr
    have w1 := vm_beq w1
    subst w1
    have w2 := vm_beq w2
    split at hr
    · rename_i heq; cases heq
    · rename_i heq; cases heq
    · rename_i heq; cases heq
    · rename_i heq; cases heq
    · cases hr
      exact W.vret C.1 C.2.1 (hret.trans (r0 w2.symm)) (fun t0 e1 e2 => hq H locs hat hom hox (fun w hw => by cases hw) t0 e1 e2) hlocs hd hlk
    all_goals first | (cases hr; done) | contradiction
  | _ => cases hr
theorem vm_s_mk {cells slots : Nat} (C : vm_Cx p R s m args meth c dC dI ad CA A f d m0 true n0) {pc len : Nat} {i : vm_I} {ls : vm_L} {st : List vm_V} {mem : vm_M} {q : List vm_V × vm_M × Nat × Bool} (hi : vm_at f pc = some (i, len)) (hx : vm_mk i st mem = some q) (hob : q.2.2.2 = true) (h1 : cells + 1 ≤ R.cells) (h2 : slots + q.2.2.1 ≤ R.slots) (K : vm_Wx p l e R s m args below meth c (cells + 1) (slots + q.2.2.1) Q dC dI ad CA A true f m0 n0 (pc + len) ls q.1 q.2.1) : vm_Wx p l e R s m args below meth c cells slots Q dC dI ad CA A true f m0 n0 pc ls st mem := by
  have hf : vm_pr f = true := C.2.2.2.2.2.2.2.2.1
  obtain ⟨ins, hd, htr⟩ := vm_dec hf hi
  obtain ⟨kd, a, b, t⟩ := i
  unfold vm_tr at htr
  unfold vm_mk at hx
  cases kd with
  | new o =>
    dsimp only at hx htr
    cases hx
    split at htr
    · simp only [Bool.and_eq_true] at htr
      obtain ⟨⟨w1, w2⟩, w3⟩ := htr
      have w1 := vm_beq w1
      subst w1
      exact vm_s_new C hob (vm_blt w3) ⟨h1, h2⟩ w2 hd K
    · cases htr
  | newarray o =>
    dsimp only at hx htr
    split at hx
    · cases hx
      simp only [Bool.and_eq_true, decide_eq_true_eq] at hob
      obtain ⟨k1, k2⟩ := hob
      split at htr
      · simp only [Bool.and_eq_true, decide_eq_true_eq] at htr
        obtain ⟨⟨⟨⟨w1, w2⟩, w3⟩, w4⟩, w5⟩ := htr
        have w1 := vm_beq w1
        have w3 := vm_beq w3
        subst w1 w2 w3 k2
        exact vm_s_newa C (vm_blt w5) k1 (vm_blt w4) ⟨h1, h2⟩ hd K
      · cases htr
    · cases hx
  | anewarray o =>
    dsimp only at hx htr
    split at hx
    · cases hx
      simp only [Bool.and_eq_true, decide_eq_true_eq] at hob
      obtain ⟨k1, k2⟩ := hob
      split at htr
      · simp only [Bool.and_eq_true] at htr
        obtain ⟨⟨w1, w2⟩, w3⟩ := htr
        have w1 := vm_beq w1
        subst w1 k2
        exact vm_s_newq C k1 (vm_blt w3) ⟨h1, h2⟩ w2 hd K
      · cases htr
    · cases hx
  | _ => cases hx
theorem vm_body (C : vm_Cx p R s m args meth c dC dI ad CA A f d m0 ph n0) (hsg : f = 301 → m0 903 0 ≠ -1) (hIH : ∀ d', d = d' + 1 → vm_OK l dC dI ad CA A m0 d') {Qv : Option vm_V → vm_M → Prop} {K0 : Nat}
    (hret : ∀ {pc len : Nat} {i : vm_I} {ls : vm_L} {st : List vm_V} {mem : vm_M} {cells slots : Nat} {v : Option vm_V}, vm_at f pc = some (i, len) → vm_re i st = some (v, true) → Qv v mem → (ph = true → cells = K0) → cells ≤ R.cells → slots ≤ R.slots → vm_Wx p l e R s m args below meth c cells slots Q dC dI ad CA A ph f m0 n0 pc ls st mem) :
    ∀ (n : Nat) {kc ks pc : Nat} {ls : vm_L} {st : List vm_V} {mem : vm_M} {cells slots : Nat}, vm_wp ph n d f kc ks pc ls st mem Qv → ls.length = vm_mx f → cells + kc ≤ R.cells → slots + ks ≤ R.slots → (ph = true → cells + kc = K0) → vm_Wx p l e R s m args below meth c cells slots Q dC dI ad CA A ph f m0 n0 pc ls st mem := by
  intro n
  induction n with
  | zero => intro kc ks pc ls st mem cells slots h _ _ _ _; exact h.elim
  | succ n ih =>
    intro kc ks pc ls st mem cells slots h hlen hc1 hc2 hk0
    unfold vm_wp at h
    cases ha : vm_at f pc with
    | none => rw [ha] at h; exact h.elim
    | some q =>
      obtain ⟨i, len⟩ := q
      rw [ha] at h
      dsimp only at h
      rcases hk : vm_kd i with _ | _ | _ | _ | kd
      · rw [hk] at h
        try dsimp only at h
        cases hx : vm_x ph i ls st mem true with
        | none => rw [hx] at h; exact h.elim
        | some s1 =>
          rw [hx] at h
          exact vm_s_x C ha hx h.1.1 h.1.2 hlen ⟨by omega, by omega⟩ hsg (ih h.2 (by rw [vm_x_len hx]; exact hlen) hc1 hc2 hk0)
      · rw [hk] at h
        try dsimp only at h
        cases hx : vm_jmp i (pc + len) st with
        | none => rw [hx] at h; exact h.elim
        | some s1 =>
          rw [hx] at h
          exact vm_s_jmp C ha hx (ih h hlen hc1 hc2 hk0)
      · rw [hk] at h
        try dsimp only at h
        cases hx : vm_re i st with
        | none => rw [hx] at h; exact h.elim
        | some s1 =>
          rw [hx] at h
          obtain ⟨v, ob⟩ := s1
          obtain ⟨⟨h1, h2⟩, h3⟩ := h
          dsimp only at h1 h3
          subst h1
          refine hret ha hx h3 (fun hp => ?_) (by omega) (by omega)
          rw [hp] at h2
          have := vm_beq h2
          have := hk0 hp
          omega
      · rw [hk] at h
        try dsimp only at h
        cases d with
        | zero => exact h.elim
        | succ d =>
          try dsimp only at h
          obtain ⟨⟨h1, h2⟩, h3⟩ := h
          obtain ⟨r, m1, h4, h5⟩ := vm_wp_out n h3
          have h6 := h5 (fun r' m' => r' = r ∧ m' = m1) ⟨rfl, rfl⟩
          have hok := h1
          unfold vm_okc vm_okn at hok
          simp only [Bool.and_eq_true] at hok
          obtain ⟨-, ⟨⟨-, k3⟩, k4⟩, -⟩ := hok
          have k3 := Nat.le_of_ble_eq_true k3
          have k4 := Nat.le_of_ble_eq_true k4
          exact vm_s_call (hIH d rfl) C ha hk h1 h2 ⟨hc1, hc2⟩ h6 (ih h4 hlen (by omega) (by omega) (fun hp => by have := hk0 hp; omega))
      · rw [hk] at h
        try dsimp only at h
        cases ph with
        | false => exact h.elim
        | true =>
          dsimp only [cond] at h
          cases hx : vm_mk i st mem with
          | none => rw [hx] at h; exact h.elim
          | some q =>
            rw [hx] at h
            obtain ⟨h1, h2, h3, h4⟩ := h
            exact vm_s_mk C ha hx h1 (by omega) (by omega) (ih h4 hlen (by omega) (by omega) (fun hp => by have := hk0 hp; omega))
end VMSA
/-- the entry's locals -/
theorem vm_ea_len (ad : Nat → Nat) : ∀ av : List vm_V, (lg_sl (av.map (vm_v ad))).length = (vm_ea av).length
  | [] => rfl
  | v :: r => by
    have h := vm_ea_len ad r
    unfold lg_sl at h
    show ((List.flatMap _ (vm_v ad v :: r.map (vm_v ad)))).length = _
    rw [List.flatMap_cons, List.length_append, h, vm_v_cat, show vm_ea (v :: r) = some v :: (bif vm_cat v == 2 then none :: vm_ea r else vm_ea r) from rfl]
    cases hq : (vm_cat v == 2) with
    | true =>
      have : vm_cat v = 2 := by simpa using hq
      rw [if_pos this]
      simp; omega
    | false =>
      have : ¬ vm_cat v = 2 := by simpa using hq
      rw [if_neg this]
      simp; omega
theorem vm_lv_rep (ad : Nat → Nat) : ∀ (k o : Nat), vm_lv ad o (List.replicate k none) = []
  | 0, _ => rfl
  | k + 1, o => by rw [List.replicate_succ]; exact vm_lv_rep ad k (o + 1)
theorem vm_lv_ea (ad : Nat → Nat) (k : Nat) : ∀ (av : List vm_V) (o : Nat), vm_lv ad o (vm_ea av ++ List.replicate k none) = lv_args o (av.map (vm_v ad))
  | [], o => vm_lv_rep ad k o
  | v :: r, o => by
    show vm_lv ad o (vm_ea (v :: r) ++ _) = (o, vm_v ad v) :: lv_args (if (vm_v ad v).category = 2 then o + 2 else o + 1) (r.map (vm_v ad))
    rw [vm_v_cat]
    unfold vm_ea
    cases hq : (vm_cat v == 2) with
    | true =>
      have : vm_cat v = 2 := by simpa using hq
      rw [if_pos this]
      show (o, vm_v ad v) :: vm_lv ad (o + 1 + 1) (vm_ea r ++ List.replicate k none) = _
      rw [vm_lv_ea ad k r (o + 2)]
    | false =>
      have : ¬ vm_cat v = 2 := by simpa using hq
      rw [if_neg this]
      show (o, vm_v ad v) :: vm_lv ad (o + 1) (vm_ea r ++ List.replicate k none) = _
      rw [vm_lv_ea ad k r (o + 1)]
theorem vm_ea_mem (ad : Nat → Nat) {av : List vm_V} : ∀ {x : vm_V}, some x ∈ vm_ea av → x ∈ av := by
  induction av with
  | nil => intro x h; cases h
  | cons v r ih =>
    intro x h
    unfold vm_ea at h
    rcases List.mem_cons.mp h with h | h
    · cases h; exact List.mem_cons_self
    · refine List.mem_cons_of_mem _ (ih ?_)
      cases hq : (vm_cat v == 2) with
      | true =>
        rw [hq] at h
        rcases List.mem_cons.mp h with h | h
        · cases h
        · exact h
      | false => rw [hq] at h; exact h
theorem vm_gl_mem : ∀ {ls : vm_L} {k : Nat} {v : vm_V}, vm_gl ls k = some v → some v ∈ ls
  | [], _, _, h => by cases h
  | x :: r, 0, v, h => by have h : x = some v := h; rw [h]; exact List.mem_cons_self
  | x :: r, k + 1, v, h => List.mem_cons_of_mem _ (vm_gl_mem (show vm_gl r k = some v from h))
theorem vm_ol_en {g : Nat} {av : List vm_V} (h : vm_os av) : vm_ol (vm_en g av) := by
  intro k v hk
  have h1 := vm_gl_mem hk
  unfold vm_en at h1
  rcases List.mem_append.mp h1 with h2 | h2
  · exact h v (vm_ea_mem (fun _ => 0) h2)
  · have := List.eq_of_mem_replicate h2
    cases this
theorem vm_en_len {g : Nat} {av : List vm_V} (h : (vm_ea av).length ≤ vm_mx g) : (vm_en g av).length = vm_mx g := by
  unfold vm_en
  rw [List.length_append, List.length_replicate]
  omega
theorem vm_lv_en {ad : Nat → Nat} {g : Nat} {av : List vm_V} (h : (vm_ea av).length ≤ vm_mx g) : lv_has ((lg_sl (av.map (vm_v ad)) ++ List.replicate (vm_mx g - (lg_sl (av.map (vm_v ad))).length) Slot.unset).toArray) (vm_mx g) (vm_lv ad 0 (vm_en g av)) := by
  unfold vm_en
  rw [vm_lv_ea]
  exact lv_entry _ (by rw [vm_ea_len]; exact h)
theorem vm_all_1 (l : Launch) (dC : Nat → ClassId) (dI : Nat → Nat → Nat) (ad : Nat → Nat) (CA : Nat → ClassId) (A : Nat → Prop) (m0 : vm_M) (d : Nat) (hIH : ∀ d', d = d' + 1 → vm_OK l dC dI ad CA A m0 d') (ph : Bool) (g : Nat) (hg : vm_pr g = true) (hht : vm_ht g ≤ d) (n : Nat) (av : List vm_V) (mem : vm_M) (r : Option vm_V) (m1 : vm_M) (_ : vm_okh g av = true) (_ : av.length = vm_na g) (hea : (vm_ea av).length ≤ vm_mx g) (hos : vm_os av) (hom : vm_om mem) (hox : vm_ox m0 mem) (hw : vm_wp ph n d g (vm_mc g) (vm_ms g) 0 (vm_en g av) [] mem (fun r' m' => r' = r ∧ m' = m1)) : vm_Mt l dC dI ad CA A ph m0 g d av mem r m1 := by
  unfold vm_Mt
  obtain ⟨w1, w2, w3, w4, w5, w6, w7⟩ := vm_mok_0 hg
  refine Met.ofW (cc := vm_cb g) (maxL := vm_mx g) (ret := vm_ret g) w3 rfl ?_
  intro p e s m args below meth c s₁ B hml hv
  obtain ⟨rfl, hB⟩ := hv
  obtain ⟨b1, b2, b3, b4, b5, b6⟩ := hB
  have hts0 := atoms_spec B.pre
  have hts : ∀ w ∈ vm_W, w.before (av.map (vm_v ad)).toArray s = true := fun w hw => hts0 w (List.mem_cons_of_mem _ hw)
  have C : vm_Cx p (vm_rm g d) s m (av.map (vm_v ad)).toArray meth c dC dI ad CA A g d m0 ph (vm_n ph mem) :=
    ⟨B.exec, B.bytes, hml, findClass_of_methodNamed B.named, hts, b1, b5, b2, by omega, fun _ => (name_of_methodNamed B.named B.method).1, Nat.le_refl _, Nat.le_refl _, hht, fun h => by have := vm_pr_lt hg; omega, B.returns, B.notSynchronized, fun hp k hk => (b6 hp).2.2 k hk⟩
  rw [lg_entry_eq]
  refine vm_body (Q := MQ below (vm_Qg dC dI ad CA A ph m0 (vm_n ph mem + vm_mc g) r m1) (av.map (vm_v ad)).toArray s (vm_mc g) (vm_ms g) A) C (fun h => by have := vm_pr_lt hg; omega) hIH (Qv := fun r' m' => r' = r ∧ m' = m1) (K0 := vm_mc g) ?_ n hw (vm_en_len hea) (by show 0 + vm_mc g ≤ vm_mc g; omega) (by show 0 + vm_ms g ≤ vm_ms g; omega) (fun _ => by omega) s.heap [] _ ⟨b3, b4, va_S.rf, fun hp => ⟨by omega, (b6 hp).1, (b6 hp).2.1⟩⟩ (vm_ol_en hos) (fun v hv => by cases hv) hom hox (vm_lv_en hea)
  intro pc len i ls st mem' cells slots v hi hr hQ hk h1 h2
  obtain ⟨rfl, rfl⟩ := hQ
  refine vm_s_ret C hi hr h1 h2 ?_
  intro H locs hat hom1 hox1 hov t ht hW
  subst ht
  exact ⟨rfl, hat.1, hat.2.1, hat.2.2.1.F rfl, fun hp => ⟨by have := (hat.2.2.2 hp).1; have := hk hp; omega, (hat.2.2.2 hp).2⟩, hov, hom1, hox1⟩
theorem vm_all (l : Launch) (dC : Nat → ClassId) (dI : Nat → Nat → Nat) (ad : Nat → Nat) (CA : Nat → ClassId) (A : Nat → Prop) (m0 : vm_M) : ∀ d, vm_OK l dC dI ad CA A m0 d := by
  intro d
  induction d with
  | zero =>
    intro ph g hg hht n av mem r m1 hok hna hea _ hos hom hox hw
    exact vm_all_1 l dC dI ad CA A m0 0 (fun d' h => by omega) ph g hg hht n av mem r m1 hok hna hea hos hom hox hw
  | succ d ih =>
    intro ph g hg hht n av mem r m1 hok hna hea _ hos hom hox hw
    exact vm_all_1 l dC dI ad CA A m0 (d + 1) (fun d' h => by cases h; exact ih) ph g hg hht n av mem r m1 hok hna hea hos hom hox hw
