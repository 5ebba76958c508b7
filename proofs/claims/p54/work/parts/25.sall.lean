/-! ===== every step that goes on to the next instruction ===== -/
theorem vm_look_mem {pc : Nat} {i : vm_I} {len : Nat} : ∀ {l : List (Nat × Nat × vm_I)}, vm_look pc l = some (i, len) → (pc, len, i) ∈ l
  | [], h => by cases h
  | q :: r, h => by
    unfold vm_look at h
    cases hq : (q.1 == pc) with
    | true =>
      rw [hq] at h
      have h1 : q.1 = pc := by simpa using hq
      obtain ⟨a, b, d⟩ := q
      simp only [cond_true, Option.some.injEq, Prod.mk.injEq] at h
      obtain ⟨h2, h3⟩ := h
      subst h1 h2 h3
      exact List.mem_cons_self
    | false =>
      rw [hq] at h
      exact List.mem_cons_of_mem _ (vm_look_mem h)
theorem vm_dec {f pc : Nat} {i : vm_I} {len : Nat} (hf : vm_pr f = true) (h : vm_at f pc = some (i, len)) : ∃ ins, decode (vm_cb f) pc = .ok (ins, len) ∧ vm_tr (vm_mo f) f pc ins len i = true := by
  have h1 := List.all_eq_true.mp (vm_dck_all hf) _ (vm_look_mem h)
  unfold vm_dc1 at h1
  dsimp only at h1
  split at h1
  · rename_i ins l2 hd
    simp only [Bool.and_eq_true] at h1
    have h2 := vm_beq h1.1
    subst h2
    exact ⟨ins, hd, h1.2⟩
  · cases h1
def vm_hti (f : Nat) (i : vm_I) : Bool :=
  match i.1 with
  | .invokevirtual _ => (bif Nat.blt i.2.1 1000 then Nat.blt (vm_ht i.2.1) (vm_ht f) else Nat.ble (bif Nat.beq i.2.1 1004 then 2 else 4) (vm_ht f))
  | .invokestatic _ => (bif Nat.blt i.2.1 1000 then Nat.blt (vm_ht i.2.1) (vm_ht f) else Nat.ble 1 (vm_ht f))
  | .invokespecial _ => (bif Nat.blt i.2.1 1000 then Nat.blt (vm_ht i.2.1) (vm_ht f) else Nat.ble 1 (vm_ht f))
  | _ => true
theorem vm_hti_at {f pc : Nat} {i : vm_I} {len : Nat} (hf : vm_pr f = true) (h : vm_at f pc = some (i, len)) : vm_hti f i = true := by
  have h1 := List.all_eq_true.mp vm_htok_all f (List.mem_range.mpr (vm_pr_lt hf))
  unfold vm_htok at h1
  have h2 := List.all_eq_true.mp h1 _ (vm_look_mem h)
  exact h2
theorem vm_hasF_in {own idx a b : Nat} (h : vm_hasF own idx a b = true) : Cond.fieldLink (vm_cn own) idx (vm_cn a) (vm_fd a b).1 (vm_fd a b).2.1 ∈ vm_W := by
  unfold vm_hasF at h
  obtain ⟨e, he, h1⟩ := List.any_eq_true.mp h
  simp only [Bool.and_eq_true] at h1
  obtain ⟨⟨⟨g1, g2⟩, g3⟩, g4⟩ := h1
  have := vm_hw_in (List.all_eq_true.mp vm_okF e he)
  unfold vm_wdF at this
  rw [vm_beq g1, vm_beq g2, vm_beq g3, vm_beq g4] at this
  exact this
theorem vm_hasB_in {own idx g : Nat} (h : vm_hasB own idx g = true) : Cond.methodLink (vm_cn own) idx (vm_bn g) ∈ vm_W := by
  unfold vm_hasB at h
  obtain ⟨e, he, h1⟩ := List.any_eq_true.mp h
  simp only [Bool.and_eq_true] at h1
  obtain ⟨⟨g1, g2⟩, g3⟩ := h1
  have := vm_hw_in (List.all_eq_true.mp vm_okB e he)
  unfold vm_wdB at this
  rw [vm_beq g1, vm_beq g2, vm_beq g3] at this
  exact this
theorem vm_hasL_in {own idx : Nat} {v : Int} (h : vm_hasL own idx v = true) : Cond.constantLong (vm_cn own) idx (Int64.ofInt v) ∈ vm_W := by
  unfold vm_hasL at h
  obtain ⟨e, he, h1⟩ := List.any_eq_true.mp h
  simp only [Bool.and_eq_true, decide_eq_true_eq] at h1
  obtain ⟨⟨g1, g2⟩, g3⟩ := h1
  have := vm_hw_in (List.all_eq_true.mp vm_okL e he)
  unfold vm_wdL at this
  rw [vm_beq g1, vm_beq g2, g3] at this
  exact this
theorem vm_hasE_in {own idx : Nat} (h : vm_hasE own idx = true) : Cond.constantFloat (vm_cn own) idx 3212836864 ∈ vm_W := by
  unfold vm_hasE at h
  obtain ⟨e, he, h1⟩ := List.any_eq_true.mp h
  simp only [Bool.and_eq_true] at h1
  obtain ⟨g1, g2⟩ := h1
  have := vm_hw_in (List.all_eq_true.mp vm_okE e he)
  unfold vm_wdE at this
  rw [vm_beq g1, vm_beq g2] at this
  exact this
theorem vm_hasT_in {own idx g : Nat} (h : vm_hasT own idx g = true) : Cond.fieldLink (vm_cn own) idx "BoardLetters" (vm_snm g) "[I" ∈ vm_W ∨ Cond.fieldLinkNest (vm_cn own) idx "BoardLetters" (vm_snm g) "[I" "BoardLetters" ∈ vm_NW := by
  unfold vm_hasT at h
  obtain ⟨e, he, h1⟩ := List.any_eq_true.mp h
  simp only [Bool.and_eq_true] at h1
  obtain ⟨⟨g1, g2⟩, g3⟩ := h1
  by_cases h10 : e.1 = 10
  · have h2 := vm_hv_in (List.all_eq_true.mp vm_okT e he)
    unfold vm_wdT at h2
    dsimp only at h2
    rw [h10] at h2
    have h3 : Cond.fieldLink (vm_cn 10) e.2.1 "BoardLetters" (vm_snm e.2.2.1) "[I" ∈ lw_tbl := h2
    have h4 : Cond.fieldLink (vm_cn 10) e.2.1 "BoardLetters" (vm_snm e.2.2.1) "[I" ∈ vm_W := List.mem_filter.mpr ⟨List.mem_append_left _ h3, rfl⟩
    rw [← h10, vm_beq g1, vm_beq g2, vm_beq g3] at h4
    exact Or.inl h4
  · refine Or.inr ?_
    have h2 : vm_wdT (e.1, e.2.1, e.2.2.1) ∈ vm_NW := List.mem_append_left _ (List.mem_append_right _ (List.mem_map.mpr ⟨e, List.mem_filter.mpr ⟨he, by
      have : Nat.beq e.1 10 = false := Bool.eq_false_iff.mpr (fun q => h10 (vm_beq q))
      rw [this]; rfl⟩, rfl⟩))
    unfold vm_wdT at h2
    dsimp only at h2
    have h3 : (e.1 == 10) = false := Bool.eq_false_iff.mpr (fun q => h10 (by simpa using q))
    rw [h3] at h2
    rw [← vm_beq g1, ← vm_beq g2, ← vm_beq g3]
    exact h2
theorem vm_hasT_k {own idx g : Nat} (h : vm_hasT own idx g = true) : g = 900 ∨ g = 901 := by
  unfold vm_hasT at h
  obtain ⟨e, he, h1⟩ := List.any_eq_true.mp h
  simp only [Bool.and_eq_true] at h1
  have h2 : vm_stL.all (fun e => Nat.beq e.2.2.1 900 || Nat.beq e.2.2.1 901) = true := by decide +kernel
  have h3 := List.all_eq_true.mp h2 e he
  simp only [Bool.or_eq_true] at h3
  rw [← vm_beq h1.2]
  exact h3.imp vm_beq vm_beq
theorem vm_trd {ins k : Instr} {len n : Nat} (h : (decide (ins = k) && Nat.beq len n) = true) : ins = k ∧ len = n := by
  simp only [Bool.and_eq_true, decide_eq_true_eq] at h
  exact ⟨h.1, vm_beq h.2⟩
section VMS8
variable {p : Program} {l : Launch} {e : Env} {R : Room} {s : State} {m : MethodId} {args : Array Value} {below : List Frame} {meth : Method} {c : Code} {cells slots : Nat} {Q : State → Prop}
variable {dC : Nat → ClassId} {dI : Nat → Nat → Nat} {ad : Nat → Nat} {CA : Nat → ClassId} {A : Nat → Prop} {ph : Bool} {f d : Nat} {m0 : vm_M} {n0 : Nat}
theorem vm_x_ishl (C : vm_Cx p R s m args meth c dC dI ad CA A f d m0 ph n0) {pc len a b : Nat} {t : List (Int × Nat)} {ls : vm_L} {st : List vm_V} {mem : vm_M} {s1 : vm_S} {ins : Instr} (hd : decode (vm_cb f) pc = .ok (ins, len)) (htr : vm_tr (vm_mo f) f pc ins len (.ishl, a, b, t) = true) (hti : vm_hti f (.ishl, a, b, t) = true) (hx : vm_x ph (.ishl, a, b, t) ls st mem true = some s1) (hob : s1.2.2.2 = true) (hpre : vm_pre ph st mem = true) (hlen : ls.length = vm_mx f) (hcs : cells ≤ R.cells ∧ slots ≤ R.slots) (hsg : f = 301 → m0 903 0 ≠ -1) (K : vm_Wx p l e R s m args below meth c cells slots Q dC dI ad CA A ph f m0 n0 (pc + len) s1.1 s1.2.1 s1.2.2.1) : vm_Wx p l e R s m args below meth c cells slots Q dC dI ad CA A ph f m0 n0 pc ls st mem := by
  unfold vm_x at hx
  dsimp only at hx
  have h1 : (decide (ins = .ishl) && Nat.beq len 1) = true := htr
  obtain ⟨rfl, rfl⟩ := vm_trd h1
  split at hx
  · rename_i x y r
    cases hx
    exact vm_s_ishl C hd K
  · cases hx
theorem vm_x_ishr (C : vm_Cx p R s m args meth c dC dI ad CA A f d m0 ph n0) {pc len a b : Nat} {t : List (Int × Nat)} {ls : vm_L} {st : List vm_V} {mem : vm_M} {s1 : vm_S} {ins : Instr} (hd : decode (vm_cb f) pc = .ok (ins, len)) (htr : vm_tr (vm_mo f) f pc ins len (.ishr, a, b, t) = true) (hti : vm_hti f (.ishr, a, b, t) = true) (hx : vm_x ph (.ishr, a, b, t) ls st mem true = some s1) (hob : s1.2.2.2 = true) (hpre : vm_pre ph st mem = true) (hlen : ls.length = vm_mx f) (hcs : cells ≤ R.cells ∧ slots ≤ R.slots) (hsg : f = 301 → m0 903 0 ≠ -1) (K : vm_Wx p l e R s m args below meth c cells slots Q dC dI ad CA A ph f m0 n0 (pc + len) s1.1 s1.2.1 s1.2.2.1) : vm_Wx p l e R s m args below meth c cells slots Q dC dI ad CA A ph f m0 n0 pc ls st mem := by
  unfold vm_x at hx
  dsimp only at hx
  have h1 : (decide (ins = .ishr) && Nat.beq len 1) = true := htr
  obtain ⟨rfl, rfl⟩ := vm_trd h1
  split at hx
  · rename_i x y r
    cases hx
    exact vm_s_ishr C hd K
  · cases hx
theorem vm_x_iushr (C : vm_Cx p R s m args meth c dC dI ad CA A f d m0 ph n0) {pc len a b : Nat} {t : List (Int × Nat)} {ls : vm_L} {st : List vm_V} {mem : vm_M} {s1 : vm_S} {ins : Instr} (hd : decode (vm_cb f) pc = .ok (ins, len)) (htr : vm_tr (vm_mo f) f pc ins len (.iushr, a, b, t) = true) (hti : vm_hti f (.iushr, a, b, t) = true) (hx : vm_x ph (.iushr, a, b, t) ls st mem true = some s1) (hob : s1.2.2.2 = true) (hpre : vm_pre ph st mem = true) (hlen : ls.length = vm_mx f) (hcs : cells ≤ R.cells ∧ slots ≤ R.slots) (hsg : f = 301 → m0 903 0 ≠ -1) (K : vm_Wx p l e R s m args below meth c cells slots Q dC dI ad CA A ph f m0 n0 (pc + len) s1.1 s1.2.1 s1.2.2.1) : vm_Wx p l e R s m args below meth c cells slots Q dC dI ad CA A ph f m0 n0 pc ls st mem := by
  unfold vm_x at hx
  dsimp only at hx
  have h1 : (decide (ins = .iushr) && Nat.beq len 1) = true := htr
  obtain ⟨rfl, rfl⟩ := vm_trd h1
  split at hx
  · rename_i x y r
    cases hx
    exact vm_s_iushr C hd K
  · cases hx
theorem vm_x_iand (C : vm_Cx p R s m args meth c dC dI ad CA A f d m0 ph n0) {pc len a b : Nat} {t : List (Int × Nat)} {ls : vm_L} {st : List vm_V} {mem : vm_M} {s1 : vm_S} {ins : Instr} (hd : decode (vm_cb f) pc = .ok (ins, len)) (htr : vm_tr (vm_mo f) f pc ins len (.iand, a, b, t) = true) (hti : vm_hti f (.iand, a, b, t) = true) (hx : vm_x ph (.iand, a, b, t) ls st mem true = some s1) (hob : s1.2.2.2 = true) (hpre : vm_pre ph st mem = true) (hlen : ls.length = vm_mx f) (hcs : cells ≤ R.cells ∧ slots ≤ R.slots) (hsg : f = 301 → m0 903 0 ≠ -1) (K : vm_Wx p l e R s m args below meth c cells slots Q dC dI ad CA A ph f m0 n0 (pc + len) s1.1 s1.2.1 s1.2.2.1) : vm_Wx p l e R s m args below meth c cells slots Q dC dI ad CA A ph f m0 n0 pc ls st mem := by
  unfold vm_x at hx
  dsimp only at hx
  have h1 : (decide (ins = .iand) && Nat.beq len 1) = true := htr
  obtain ⟨rfl, rfl⟩ := vm_trd h1
  split at hx
  · rename_i x y r
    cases hx
    exact vm_s_iand C hd K
  · cases hx
theorem vm_x_ior (C : vm_Cx p R s m args meth c dC dI ad CA A f d m0 ph n0) {pc len a b : Nat} {t : List (Int × Nat)} {ls : vm_L} {st : List vm_V} {mem : vm_M} {s1 : vm_S} {ins : Instr} (hd : decode (vm_cb f) pc = .ok (ins, len)) (htr : vm_tr (vm_mo f) f pc ins len (.ior, a, b, t) = true) (hti : vm_hti f (.ior, a, b, t) = true) (hx : vm_x ph (.ior, a, b, t) ls st mem true = some s1) (hob : s1.2.2.2 = true) (hpre : vm_pre ph st mem = true) (hlen : ls.length = vm_mx f) (hcs : cells ≤ R.cells ∧ slots ≤ R.slots) (hsg : f = 301 → m0 903 0 ≠ -1) (K : vm_Wx p l e R s m args below meth c cells slots Q dC dI ad CA A ph f m0 n0 (pc + len) s1.1 s1.2.1 s1.2.2.1) : vm_Wx p l e R s m args below meth c cells slots Q dC dI ad CA A ph f m0 n0 pc ls st mem := by
  unfold vm_x at hx
  dsimp only at hx
  have h1 : (decide (ins = .ior) && Nat.beq len 1) = true := htr
  obtain ⟨rfl, rfl⟩ := vm_trd h1
  split at hx
  · rename_i x y r
    cases hx
    exact vm_s_ior C hd K
  · cases hx
theorem vm_x_land (C : vm_Cx p R s m args meth c dC dI ad CA A f d m0 ph n0) {pc len a b : Nat} {t : List (Int × Nat)} {ls : vm_L} {st : List vm_V} {mem : vm_M} {s1 : vm_S} {ins : Instr} (hd : decode (vm_cb f) pc = .ok (ins, len)) (htr : vm_tr (vm_mo f) f pc ins len (.land, a, b, t) = true) (hti : vm_hti f (.land, a, b, t) = true) (hx : vm_x ph (.land, a, b, t) ls st mem true = some s1) (hob : s1.2.2.2 = true) (hpre : vm_pre ph st mem = true) (hlen : ls.length = vm_mx f) (hcs : cells ≤ R.cells ∧ slots ≤ R.slots) (hsg : f = 301 → m0 903 0 ≠ -1) (K : vm_Wx p l e R s m args below meth c cells slots Q dC dI ad CA A ph f m0 n0 (pc + len) s1.1 s1.2.1 s1.2.2.1) : vm_Wx p l e R s m args below meth c cells slots Q dC dI ad CA A ph f m0 n0 pc ls st mem := by
  unfold vm_x at hx
  dsimp only at hx
  have h1 : (decide (ins = .land) && Nat.beq len 1) = true := htr
  obtain ⟨rfl, rfl⟩ := vm_trd h1
  split at hx
  · rename_i x y r
    cases hx
    exact vm_s_land C hd K
  · cases hx
theorem vm_x_lshr (C : vm_Cx p R s m args meth c dC dI ad CA A f d m0 ph n0) {pc len a b : Nat} {t : List (Int × Nat)} {ls : vm_L} {st : List vm_V} {mem : vm_M} {s1 : vm_S} {ins : Instr} (hd : decode (vm_cb f) pc = .ok (ins, len)) (htr : vm_tr (vm_mo f) f pc ins len (.lshr, a, b, t) = true) (hti : vm_hti f (.lshr, a, b, t) = true) (hx : vm_x ph (.lshr, a, b, t) ls st mem true = some s1) (hob : s1.2.2.2 = true) (hpre : vm_pre ph st mem = true) (hlen : ls.length = vm_mx f) (hcs : cells ≤ R.cells ∧ slots ≤ R.slots) (hsg : f = 301 → m0 903 0 ≠ -1) (K : vm_Wx p l e R s m args below meth c cells slots Q dC dI ad CA A ph f m0 n0 (pc + len) s1.1 s1.2.1 s1.2.2.1) : vm_Wx p l e R s m args below meth c cells slots Q dC dI ad CA A ph f m0 n0 pc ls st mem := by
  unfold vm_x at hx
  dsimp only at hx
  have h1 : (decide (ins = .lshr) && Nat.beq len 1) = true := htr
  obtain ⟨rfl, rfl⟩ := vm_trd h1
  split at hx
  · rename_i x y r
    cases hx
    exact vm_s_lshr C hd K
  · cases hx
theorem vm_x_lcmp (C : vm_Cx p R s m args meth c dC dI ad CA A f d m0 ph n0) {pc len a b : Nat} {t : List (Int × Nat)} {ls : vm_L} {st : List vm_V} {mem : vm_M} {s1 : vm_S} {ins : Instr} (hd : decode (vm_cb f) pc = .ok (ins, len)) (htr : vm_tr (vm_mo f) f pc ins len (.lcmp, a, b, t) = true) (hti : vm_hti f (.lcmp, a, b, t) = true) (hx : vm_x ph (.lcmp, a, b, t) ls st mem true = some s1) (hob : s1.2.2.2 = true) (hpre : vm_pre ph st mem = true) (hlen : ls.length = vm_mx f) (hcs : cells ≤ R.cells ∧ slots ≤ R.slots) (hsg : f = 301 → m0 903 0 ≠ -1) (K : vm_Wx p l e R s m args below meth c cells slots Q dC dI ad CA A ph f m0 n0 (pc + len) s1.1 s1.2.1 s1.2.2.1) : vm_Wx p l e R s m args below meth c cells slots Q dC dI ad CA A ph f m0 n0 pc ls st mem := by
  unfold vm_x at hx
  dsimp only at hx
  have h1 : (decide (ins = .lcmp) && Nat.beq len 1) = true := htr
  obtain ⟨rfl, rfl⟩ := vm_trd h1
  split at hx
  · rename_i x y r
    cases hx
    exact vm_s_lcmp C hd K
  · cases hx
theorem vm_x_i2l (C : vm_Cx p R s m args meth c dC dI ad CA A f d m0 ph n0) {pc len a b : Nat} {t : List (Int × Nat)} {ls : vm_L} {st : List vm_V} {mem : vm_M} {s1 : vm_S} {ins : Instr} (hd : decode (vm_cb f) pc = .ok (ins, len)) (htr : vm_tr (vm_mo f) f pc ins len (.i2l, a, b, t) = true) (hti : vm_hti f (.i2l, a, b, t) = true) (hx : vm_x ph (.i2l, a, b, t) ls st mem true = some s1) (hob : s1.2.2.2 = true) (hpre : vm_pre ph st mem = true) (hlen : ls.length = vm_mx f) (hcs : cells ≤ R.cells ∧ slots ≤ R.slots) (hsg : f = 301 → m0 903 0 ≠ -1) (K : vm_Wx p l e R s m args below meth c cells slots Q dC dI ad CA A ph f m0 n0 (pc + len) s1.1 s1.2.1 s1.2.2.1) : vm_Wx p l e R s m args below meth c cells slots Q dC dI ad CA A ph f m0 n0 pc ls st mem := by
  unfold vm_x at hx
  dsimp only at hx
  have h1 : (decide (ins = .i2l) && Nat.beq len 1) = true := htr
  obtain ⟨rfl, rfl⟩ := vm_trd h1
  split at hx
  · rename_i x r
    cases hx
    exact vm_s_i2l C hd K
  · cases hx
theorem vm_x_l2i (C : vm_Cx p R s m args meth c dC dI ad CA A f d m0 ph n0) {pc len a b : Nat} {t : List (Int × Nat)} {ls : vm_L} {st : List vm_V} {mem : vm_M} {s1 : vm_S} {ins : Instr} (hd : decode (vm_cb f) pc = .ok (ins, len)) (htr : vm_tr (vm_mo f) f pc ins len (.l2i, a, b, t) = true) (hti : vm_hti f (.l2i, a, b, t) = true) (hx : vm_x ph (.l2i, a, b, t) ls st mem true = some s1) (hob : s1.2.2.2 = true) (hpre : vm_pre ph st mem = true) (hlen : ls.length = vm_mx f) (hcs : cells ≤ R.cells ∧ slots ≤ R.slots) (hsg : f = 301 → m0 903 0 ≠ -1) (K : vm_Wx p l e R s m args below meth c cells slots Q dC dI ad CA A ph f m0 n0 (pc + len) s1.1 s1.2.1 s1.2.2.1) : vm_Wx p l e R s m args below meth c cells slots Q dC dI ad CA A ph f m0 n0 pc ls st mem := by
  unfold vm_x at hx
  dsimp only at hx
  have h1 : (decide (ins = .l2i) && Nat.beq len 1) = true := htr
  obtain ⟨rfl, rfl⟩ := vm_trd h1
  split at hx
  · rename_i x r
    cases hx
    exact vm_s_l2i C hd K
  · cases hx
theorem vm_x_i2b (C : vm_Cx p R s m args meth c dC dI ad CA A f d m0 ph n0) {pc len a b : Nat} {t : List (Int × Nat)} {ls : vm_L} {st : List vm_V} {mem : vm_M} {s1 : vm_S} {ins : Instr} (hd : decode (vm_cb f) pc = .ok (ins, len)) (htr : vm_tr (vm_mo f) f pc ins len (.i2b, a, b, t) = true) (hti : vm_hti f (.i2b, a, b, t) = true) (hx : vm_x ph (.i2b, a, b, t) ls st mem true = some s1) (hob : s1.2.2.2 = true) (hpre : vm_pre ph st mem = true) (hlen : ls.length = vm_mx f) (hcs : cells ≤ R.cells ∧ slots ≤ R.slots) (hsg : f = 301 → m0 903 0 ≠ -1) (K : vm_Wx p l e R s m args below meth c cells slots Q dC dI ad CA A ph f m0 n0 (pc + len) s1.1 s1.2.1 s1.2.2.1) : vm_Wx p l e R s m args below meth c cells slots Q dC dI ad CA A ph f m0 n0 pc ls st mem := by
  unfold vm_x at hx
  dsimp only at hx
  have h1 : (decide (ins = .i2b) && Nat.beq len 1) = true := htr
  obtain ⟨rfl, rfl⟩ := vm_trd h1
  split at hx
  · rename_i x r
    cases hx
    exact vm_s_i2b C hd K
  · cases hx
theorem vm_x_i2f (C : vm_Cx p R s m args meth c dC dI ad CA A f d m0 ph n0) {pc len a b : Nat} {t : List (Int × Nat)} {ls : vm_L} {st : List vm_V} {mem : vm_M} {s1 : vm_S} {ins : Instr} (hd : decode (vm_cb f) pc = .ok (ins, len)) (htr : vm_tr (vm_mo f) f pc ins len (.i2f, a, b, t) = true) (hti : vm_hti f (.i2f, a, b, t) = true) (hx : vm_x ph (.i2f, a, b, t) ls st mem true = some s1) (hob : s1.2.2.2 = true) (hpre : vm_pre ph st mem = true) (hlen : ls.length = vm_mx f) (hcs : cells ≤ R.cells ∧ slots ≤ R.slots) (hsg : f = 301 → m0 903 0 ≠ -1) (K : vm_Wx p l e R s m args below meth c cells slots Q dC dI ad CA A ph f m0 n0 (pc + len) s1.1 s1.2.1 s1.2.2.1) : vm_Wx p l e R s m args below meth c cells slots Q dC dI ad CA A ph f m0 n0 pc ls st mem := by
  unfold vm_x at hx
  dsimp only at hx
  have h1 : (decide (ins = .i2f) && Nat.beq len 1) = true := htr
  obtain ⟨rfl, rfl⟩ := vm_trd h1
  split at hx
  · rename_i x r
    cases hx
    exact vm_s_i2f C hd K
  · cases hx
theorem vm_x_i2d (C : vm_Cx p R s m args meth c dC dI ad CA A f d m0 ph n0) {pc len a b : Nat} {t : List (Int × Nat)} {ls : vm_L} {st : List vm_V} {mem : vm_M} {s1 : vm_S} {ins : Instr} (hd : decode (vm_cb f) pc = .ok (ins, len)) (htr : vm_tr (vm_mo f) f pc ins len (.i2d, a, b, t) = true) (hti : vm_hti f (.i2d, a, b, t) = true) (hx : vm_x ph (.i2d, a, b, t) ls st mem true = some s1) (hob : s1.2.2.2 = true) (hpre : vm_pre ph st mem = true) (hlen : ls.length = vm_mx f) (hcs : cells ≤ R.cells ∧ slots ≤ R.slots) (hsg : f = 301 → m0 903 0 ≠ -1) (K : vm_Wx p l e R s m args below meth c cells slots Q dC dI ad CA A ph f m0 n0 (pc + len) s1.1 s1.2.1 s1.2.2.1) : vm_Wx p l e R s m args below meth c cells slots Q dC dI ad CA A ph f m0 n0 pc ls st mem := by
  unfold vm_x at hx
  dsimp only at hx
  have h1 : (decide (ins = .i2d) && Nat.beq len 1) = true := htr
  obtain ⟨rfl, rfl⟩ := vm_trd h1
  split at hx
  · rename_i x r
    cases hx
    exact vm_s_i2d C hd K
  · cases hx
theorem vm_x_dcmp (C : vm_Cx p R s m args meth c dC dI ad CA A f d m0 ph n0) {pc len a b : Nat} {t : List (Int × Nat)} {ls : vm_L} {st : List vm_V} {mem : vm_M} {s1 : vm_S} {ins : Instr} {op : CmpOp} (hd : decode (vm_cb f) pc = .ok (ins, len)) (htr : vm_tr (vm_mo f) f pc ins len (.dcmp op, a, b, t) = true) (hti : vm_hti f (.dcmp op, a, b, t) = true) (hx : vm_x ph (.dcmp op, a, b, t) ls st mem true = some s1) (hob : s1.2.2.2 = true) (hpre : vm_pre ph st mem = true) (hlen : ls.length = vm_mx f) (hcs : cells ≤ R.cells ∧ slots ≤ R.slots) (hsg : f = 301 → m0 903 0 ≠ -1) (K : vm_Wx p l e R s m args below meth c cells slots Q dC dI ad CA A ph f m0 n0 (pc + len) s1.1 s1.2.1 s1.2.2.1) : vm_Wx p l e R s m args below meth c cells slots Q dC dI ad CA A ph f m0 n0 pc ls st mem := by
  unfold vm_x at hx
  dsimp only at hx
  have h1 : (decide (ins = .dcmp op) && Nat.beq len 1) = true := htr
  obtain ⟨rfl, rfl⟩ := vm_trd h1
  split at hx
  · rename_i x y r
    cases hx
    exact vm_s_dcmp C hd K
  · cases hx
theorem vm_x_iadd (C : vm_Cx p R s m args meth c dC dI ad CA A f d m0 ph n0) {pc len a b : Nat} {t : List (Int × Nat)} {ls : vm_L} {st : List vm_V} {mem : vm_M} {s1 : vm_S} {ins : Instr} (hd : decode (vm_cb f) pc = .ok (ins, len)) (htr : vm_tr (vm_mo f) f pc ins len (.iadd, a, b, t) = true) (hti : vm_hti f (.iadd, a, b, t) = true) (hx : vm_x ph (.iadd, a, b, t) ls st mem true = some s1) (hob : s1.2.2.2 = true) (hpre : vm_pre ph st mem = true) (hlen : ls.length = vm_mx f) (hcs : cells ≤ R.cells ∧ slots ≤ R.slots) (hsg : f = 301 → m0 903 0 ≠ -1) (K : vm_Wx p l e R s m args below meth c cells slots Q dC dI ad CA A ph f m0 n0 (pc + len) s1.1 s1.2.1 s1.2.2.1) : vm_Wx p l e R s m args below meth c cells slots Q dC dI ad CA A ph f m0 n0 pc ls st mem := by
  unfold vm_x at hx
  dsimp only at hx
  have h1 : (decide (ins = .iadd) && Nat.beq len 1) = true := htr
  obtain ⟨rfl, rfl⟩ := vm_trd h1
  split at hx
  · rename_i x y r
    cases hx
    simp only [Bool.true_and, Bool.and_eq_true, decide_eq_true_eq] at hob
    exact vm_s_iadd C hob hd K
  · cases hx
theorem vm_x_imul (C : vm_Cx p R s m args meth c dC dI ad CA A f d m0 ph n0) {pc len a b : Nat} {t : List (Int × Nat)} {ls : vm_L} {st : List vm_V} {mem : vm_M} {s1 : vm_S} {ins : Instr} (hd : decode (vm_cb f) pc = .ok (ins, len)) (htr : vm_tr (vm_mo f) f pc ins len (.imul, a, b, t) = true) (hti : vm_hti f (.imul, a, b, t) = true) (hx : vm_x ph (.imul, a, b, t) ls st mem true = some s1) (hob : s1.2.2.2 = true) (hpre : vm_pre ph st mem = true) (hlen : ls.length = vm_mx f) (hcs : cells ≤ R.cells ∧ slots ≤ R.slots) (hsg : f = 301 → m0 903 0 ≠ -1) (K : vm_Wx p l e R s m args below meth c cells slots Q dC dI ad CA A ph f m0 n0 (pc + len) s1.1 s1.2.1 s1.2.2.1) : vm_Wx p l e R s m args below meth c cells slots Q dC dI ad CA A ph f m0 n0 pc ls st mem := by
  unfold vm_x at hx
  dsimp only at hx
  have h1 : (decide (ins = .imul) && Nat.beq len 1) = true := htr
  obtain ⟨rfl, rfl⟩ := vm_trd h1
  split at hx
  · rename_i x y r
    cases hx
    simp only [Bool.true_and, Bool.and_eq_true, decide_eq_true_eq] at hob
    exact vm_s_imul C hob hd K
  · cases hx
theorem vm_x_irem (C : vm_Cx p R s m args meth c dC dI ad CA A f d m0 ph n0) {pc len a b : Nat} {t : List (Int × Nat)} {ls : vm_L} {st : List vm_V} {mem : vm_M} {s1 : vm_S} {ins : Instr} (hd : decode (vm_cb f) pc = .ok (ins, len)) (htr : vm_tr (vm_mo f) f pc ins len (.irem, a, b, t) = true) (hti : vm_hti f (.irem, a, b, t) = true) (hx : vm_x ph (.irem, a, b, t) ls st mem true = some s1) (hob : s1.2.2.2 = true) (hpre : vm_pre ph st mem = true) (hlen : ls.length = vm_mx f) (hcs : cells ≤ R.cells ∧ slots ≤ R.slots) (hsg : f = 301 → m0 903 0 ≠ -1) (K : vm_Wx p l e R s m args below meth c cells slots Q dC dI ad CA A ph f m0 n0 (pc + len) s1.1 s1.2.1 s1.2.2.1) : vm_Wx p l e R s m args below meth c cells slots Q dC dI ad CA A ph f m0 n0 pc ls st mem := by
  unfold vm_x at hx
  dsimp only at hx
  have h1 : (decide (ins = .irem) && Nat.beq len 1) = true := htr
  obtain ⟨rfl, rfl⟩ := vm_trd h1
  split at hx
  · rename_i x y r
    cases hx
    simp only [Bool.true_and, Bool.and_eq_true, decide_eq_true_eq] at hob
    exact vm_s_irem C hob hd K
  · cases hx
theorem vm_x_ladd (C : vm_Cx p R s m args meth c dC dI ad CA A f d m0 ph n0) {pc len a b : Nat} {t : List (Int × Nat)} {ls : vm_L} {st : List vm_V} {mem : vm_M} {s1 : vm_S} {ins : Instr} (hd : decode (vm_cb f) pc = .ok (ins, len)) (htr : vm_tr (vm_mo f) f pc ins len (.ladd, a, b, t) = true) (hti : vm_hti f (.ladd, a, b, t) = true) (hx : vm_x ph (.ladd, a, b, t) ls st mem true = some s1) (hob : s1.2.2.2 = true) (hpre : vm_pre ph st mem = true) (hlen : ls.length = vm_mx f) (hcs : cells ≤ R.cells ∧ slots ≤ R.slots) (hsg : f = 301 → m0 903 0 ≠ -1) (K : vm_Wx p l e R s m args below meth c cells slots Q dC dI ad CA A ph f m0 n0 (pc + len) s1.1 s1.2.1 s1.2.2.1) : vm_Wx p l e R s m args below meth c cells slots Q dC dI ad CA A ph f m0 n0 pc ls st mem := by
  unfold vm_x at hx
  dsimp only at hx
  have h1 : (decide (ins = .ladd) && Nat.beq len 1) = true := htr
  obtain ⟨rfl, rfl⟩ := vm_trd h1
  split at hx
  · rename_i x y r
    cases hx
    simp only [Bool.true_and, Bool.and_eq_true, decide_eq_true_eq] at hob
    exact vm_s_ladd C hob hd K
  · cases hx
theorem vm_x_lsub (C : vm_Cx p R s m args meth c dC dI ad CA A f d m0 ph n0) {pc len a b : Nat} {t : List (Int × Nat)} {ls : vm_L} {st : List vm_V} {mem : vm_M} {s1 : vm_S} {ins : Instr} (hd : decode (vm_cb f) pc = .ok (ins, len)) (htr : vm_tr (vm_mo f) f pc ins len (.lsub, a, b, t) = true) (hti : vm_hti f (.lsub, a, b, t) = true) (hx : vm_x ph (.lsub, a, b, t) ls st mem true = some s1) (hob : s1.2.2.2 = true) (hpre : vm_pre ph st mem = true) (hlen : ls.length = vm_mx f) (hcs : cells ≤ R.cells ∧ slots ≤ R.slots) (hsg : f = 301 → m0 903 0 ≠ -1) (K : vm_Wx p l e R s m args below meth c cells slots Q dC dI ad CA A ph f m0 n0 (pc + len) s1.1 s1.2.1 s1.2.2.1) : vm_Wx p l e R s m args below meth c cells slots Q dC dI ad CA A ph f m0 n0 pc ls st mem := by
  unfold vm_x at hx
  dsimp only at hx
  have h1 : (decide (ins = .lsub) && Nat.beq len 1) = true := htr
  obtain ⟨rfl, rfl⟩ := vm_trd h1
  split at hx
  · rename_i x y r
    cases hx
    simp only [Bool.true_and, Bool.and_eq_true, decide_eq_true_eq] at hob
    exact vm_s_lsub C hob hd K
  · cases hx
theorem vm_x_lmul (C : vm_Cx p R s m args meth c dC dI ad CA A f d m0 ph n0) {pc len a b : Nat} {t : List (Int × Nat)} {ls : vm_L} {st : List vm_V} {mem : vm_M} {s1 : vm_S} {ins : Instr} (hd : decode (vm_cb f) pc = .ok (ins, len)) (htr : vm_tr (vm_mo f) f pc ins len (.lmul, a, b, t) = true) (hti : vm_hti f (.lmul, a, b, t) = true) (hx : vm_x ph (.lmul, a, b, t) ls st mem true = some s1) (hob : s1.2.2.2 = true) (hpre : vm_pre ph st mem = true) (hlen : ls.length = vm_mx f) (hcs : cells ≤ R.cells ∧ slots ≤ R.slots) (hsg : f = 301 → m0 903 0 ≠ -1) (K : vm_Wx p l e R s m args below meth c cells slots Q dC dI ad CA A ph f m0 n0 (pc + len) s1.1 s1.2.1 s1.2.2.1) : vm_Wx p l e R s m args below meth c cells slots Q dC dI ad CA A ph f m0 n0 pc ls st mem := by
  unfold vm_x at hx
  dsimp only at hx
  have h1 : (decide (ins = .lmul) && Nat.beq len 1) = true := htr
  obtain ⟨rfl, rfl⟩ := vm_trd h1
  split at hx
  · rename_i x y r
    cases hx
    simp only [Bool.true_and, Bool.and_eq_true, decide_eq_true_eq] at hob
    exact vm_s_lmul C hob hd K
  · cases hx
theorem vm_x_fdiv (C : vm_Cx p R s m args meth c dC dI ad CA A f d m0 ph n0) {pc len a b : Nat} {t : List (Int × Nat)} {ls : vm_L} {st : List vm_V} {mem : vm_M} {s1 : vm_S} {ins : Instr} (hd : decode (vm_cb f) pc = .ok (ins, len)) (htr : vm_tr (vm_mo f) f pc ins len (.fdiv, a, b, t) = true) (hti : vm_hti f (.fdiv, a, b, t) = true) (hx : vm_x ph (.fdiv, a, b, t) ls st mem true = some s1) (hob : s1.2.2.2 = true) (hpre : vm_pre ph st mem = true) (hlen : ls.length = vm_mx f) (hcs : cells ≤ R.cells ∧ slots ≤ R.slots) (hsg : f = 301 → m0 903 0 ≠ -1) (K : vm_Wx p l e R s m args below meth c cells slots Q dC dI ad CA A ph f m0 n0 (pc + len) s1.1 s1.2.1 s1.2.2.1) : vm_Wx p l e R s m args below meth c cells slots Q dC dI ad CA A ph f m0 n0 pc ls st mem := by
  unfold vm_x at hx
  dsimp only at hx
  have h1 : (decide (ins = .fdiv) && Nat.beq len 1) = true := htr
  obtain ⟨rfl, rfl⟩ := vm_trd h1
  split at hx
  · rename_i x y r
    cases hx
    simp only [Bool.true_and, Bool.and_eq_true, decide_eq_true_eq] at hob
    exact vm_s_fdiv C hob hd K
  · cases hx
theorem vm_x_ddiv (C : vm_Cx p R s m args meth c dC dI ad CA A f d m0 ph n0) {pc len a b : Nat} {t : List (Int × Nat)} {ls : vm_L} {st : List vm_V} {mem : vm_M} {s1 : vm_S} {ins : Instr} (hd : decode (vm_cb f) pc = .ok (ins, len)) (htr : vm_tr (vm_mo f) f pc ins len (.ddiv, a, b, t) = true) (hti : vm_hti f (.ddiv, a, b, t) = true) (hx : vm_x ph (.ddiv, a, b, t) ls st mem true = some s1) (hob : s1.2.2.2 = true) (hpre : vm_pre ph st mem = true) (hlen : ls.length = vm_mx f) (hcs : cells ≤ R.cells ∧ slots ≤ R.slots) (hsg : f = 301 → m0 903 0 ≠ -1) (K : vm_Wx p l e R s m args below meth c cells slots Q dC dI ad CA A ph f m0 n0 (pc + len) s1.1 s1.2.1 s1.2.2.1) : vm_Wx p l e R s m args below meth c cells slots Q dC dI ad CA A ph f m0 n0 pc ls st mem := by
  unfold vm_x at hx
  dsimp only at hx
  have h1 : (decide (ins = .ddiv) && Nat.beq len 1) = true := htr
  obtain ⟨rfl, rfl⟩ := vm_trd h1
  split at hx
  · rename_i x y r
    cases hx
    simp only [Bool.true_and, Bool.and_eq_true, decide_eq_true_eq] at hob
    exact vm_s_ddiv C hob hd K
  · cases hx
theorem vm_x_ineg (C : vm_Cx p R s m args meth c dC dI ad CA A f d m0 ph n0) {pc len a b : Nat} {t : List (Int × Nat)} {ls : vm_L} {st : List vm_V} {mem : vm_M} {s1 : vm_S} {ins : Instr} (hd : decode (vm_cb f) pc = .ok (ins, len)) (htr : vm_tr (vm_mo f) f pc ins len (.ineg, a, b, t) = true) (hti : vm_hti f (.ineg, a, b, t) = true) (hx : vm_x ph (.ineg, a, b, t) ls st mem true = some s1) (hob : s1.2.2.2 = true) (hpre : vm_pre ph st mem = true) (hlen : ls.length = vm_mx f) (hcs : cells ≤ R.cells ∧ slots ≤ R.slots) (hsg : f = 301 → m0 903 0 ≠ -1) (K : vm_Wx p l e R s m args below meth c cells slots Q dC dI ad CA A ph f m0 n0 (pc + len) s1.1 s1.2.1 s1.2.2.1) : vm_Wx p l e R s m args below meth c cells slots Q dC dI ad CA A ph f m0 n0 pc ls st mem := by
  unfold vm_x at hx
  dsimp only at hx
  have h1 : (decide (ins = .ineg) && Nat.beq len 1) = true := htr
  obtain ⟨rfl, rfl⟩ := vm_trd h1
  split at hx
  · rename_i x r
    cases hx
    simp only [Bool.true_and, Bool.and_eq_true, decide_eq_true_eq] at hob
    exact vm_s_ineg C hob hd K
  · cases hx
theorem vm_x_f2d (C : vm_Cx p R s m args meth c dC dI ad CA A f d m0 ph n0) {pc len a b : Nat} {t : List (Int × Nat)} {ls : vm_L} {st : List vm_V} {mem : vm_M} {s1 : vm_S} {ins : Instr} (hd : decode (vm_cb f) pc = .ok (ins, len)) (htr : vm_tr (vm_mo f) f pc ins len (.f2d, a, b, t) = true) (hti : vm_hti f (.f2d, a, b, t) = true) (hx : vm_x ph (.f2d, a, b, t) ls st mem true = some s1) (hob : s1.2.2.2 = true) (hpre : vm_pre ph st mem = true) (hlen : ls.length = vm_mx f) (hcs : cells ≤ R.cells ∧ slots ≤ R.slots) (hsg : f = 301 → m0 903 0 ≠ -1) (K : vm_Wx p l e R s m args below meth c cells slots Q dC dI ad CA A ph f m0 n0 (pc + len) s1.1 s1.2.1 s1.2.2.1) : vm_Wx p l e R s m args below meth c cells slots Q dC dI ad CA A ph f m0 n0 pc ls st mem := by
  unfold vm_x at hx
  dsimp only at hx
  have h1 : (decide (ins = .f2d) && Nat.beq len 1) = true := htr
  obtain ⟨rfl, rfl⟩ := vm_trd h1
  split at hx
  · rename_i x r
    cases hx
    simp only [Bool.true_and, Bool.and_eq_true, decide_eq_true_eq] at hob
    exact vm_s_f2d C hob hd K
  · cases hx
theorem vm_x_isub (C : vm_Cx p R s m args meth c dC dI ad CA A f d m0 ph n0) {pc len a b : Nat} {t : List (Int × Nat)} {ls : vm_L} {st : List vm_V} {mem : vm_M} {s1 : vm_S} {ins : Instr} (hd : decode (vm_cb f) pc = .ok (ins, len)) (htr : vm_tr (vm_mo f) f pc ins len (.isub, a, b, t) = true) (hti : vm_hti f (.isub, a, b, t) = true) (hx : vm_x ph (.isub, a, b, t) ls st mem true = some s1) (hob : s1.2.2.2 = true) (hpre : vm_pre ph st mem = true) (hlen : ls.length = vm_mx f) (hcs : cells ≤ R.cells ∧ slots ≤ R.slots) (hsg : f = 301 → m0 903 0 ≠ -1) (K : vm_Wx p l e R s m args below meth c cells slots Q dC dI ad CA A ph f m0 n0 (pc + len) s1.1 s1.2.1 s1.2.2.1) : vm_Wx p l e R s m args below meth c cells slots Q dC dI ad CA A ph f m0 n0 pc ls st mem := by
  unfold vm_x at hx
  dsimp only at hx
  have h1 : (decide (ins = .isub) && Nat.beq len 1) = true := htr
  obtain ⟨rfl, rfl⟩ := vm_trd h1
  split at hx
  · rename_i x y r
    cases hq : (a == 1) with
    | true =>
      rw [hq] at hx
      cases hx
      exact vm_s_isubw C hd K
    | false =>
      rw [hq] at hx
      cases hx
      simp only [Bool.true_and, Bool.and_eq_true, decide_eq_true_eq] at hob
      exact vm_s_isub C hob hd K
  · cases hx
theorem vm_x_idiv (C : vm_Cx p R s m args meth c dC dI ad CA A f d m0 ph n0) {pc len a b : Nat} {t : List (Int × Nat)} {ls : vm_L} {st : List vm_V} {mem : vm_M} {s1 : vm_S} {ins : Instr} (hd : decode (vm_cb f) pc = .ok (ins, len)) (htr : vm_tr (vm_mo f) f pc ins len (.idiv, a, b, t) = true) (hti : vm_hti f (.idiv, a, b, t) = true) (hx : vm_x ph (.idiv, a, b, t) ls st mem true = some s1) (hob : s1.2.2.2 = true) (hpre : vm_pre ph st mem = true) (hlen : ls.length = vm_mx f) (hcs : cells ≤ R.cells ∧ slots ≤ R.slots) (hsg : f = 301 → m0 903 0 ≠ -1) (K : vm_Wx p l e R s m args below meth c cells slots Q dC dI ad CA A ph f m0 n0 (pc + len) s1.1 s1.2.1 s1.2.2.1) : vm_Wx p l e R s m args below meth c cells slots Q dC dI ad CA A ph f m0 n0 pc ls st mem := by
  unfold vm_x at hx
  dsimp only at hx
  have h1 : (decide (ins = .idiv) && Nat.beq len 1) = true := htr
  obtain ⟨rfl, rfl⟩ := vm_trd h1
  split at hx
  · rename_i x y r
    cases hq : (a == 1) with
    | true =>
      rw [hq] at hx
      cases hx
      simp only [Bool.true_and, Bool.and_eq_true, decide_eq_true_eq] at hob
      exact vm_s_idivt C hob hd K
    | false =>
      rw [hq] at hx
      cases hx
      simp only [Bool.true_and, Bool.and_eq_true, decide_eq_true_eq] at hob
      exact vm_s_idiv C hob hd K
  · cases hx
theorem vm_x_iload (C : vm_Cx p R s m args meth c dC dI ad CA A f d m0 ph n0) {pc len a b : Nat} {t : List (Int × Nat)} {ls : vm_L} {st : List vm_V} {mem : vm_M} {s1 : vm_S} {ins : Instr} {k : Nat} (hd : decode (vm_cb f) pc = .ok (ins, len)) (htr : vm_tr (vm_mo f) f pc ins len (.iload k, a, b, t) = true) (hti : vm_hti f (.iload k, a, b, t) = true) (hx : vm_x ph (.iload k, a, b, t) ls st mem true = some s1) (hob : s1.2.2.2 = true) (hpre : vm_pre ph st mem = true) (hlen : ls.length = vm_mx f) (hcs : cells ≤ R.cells ∧ slots ≤ R.slots) (hsg : f = 301 → m0 903 0 ≠ -1) (K : vm_Wx p l e R s m args below meth c cells slots Q dC dI ad CA A ph f m0 n0 (pc + len) s1.1 s1.2.1 s1.2.2.1) : vm_Wx p l e R s m args below meth c cells slots Q dC dI ad CA A ph f m0 n0 pc ls st mem := by
  unfold vm_x at hx
  dsimp only at hx
  split at hx
  · rename_i z hz
    cases hx
    unfold vm_tr at htr
    dsimp only at htr
    split at htr
    · simp only [Bool.and_eq_true] at htr
      obtain ⟨h1, h2⟩ := htr
      have h3 := vm_beq h1
      have h4 := vm_beq h2
      subst h3 h4
      exact vm_s_iload C hz hd K
    · simp only [Bool.and_eq_true] at htr
      obtain ⟨h1, h2⟩ := htr
      have h4 := vm_beq h2
      subst h4
      exact vm_s_iload_n C (vm_beq h1) hz hd K
    · cases htr
  · cases hx
theorem vm_x_lload (C : vm_Cx p R s m args meth c dC dI ad CA A f d m0 ph n0) {pc len a b : Nat} {t : List (Int × Nat)} {ls : vm_L} {st : List vm_V} {mem : vm_M} {s1 : vm_S} {ins : Instr} {k : Nat} (hd : decode (vm_cb f) pc = .ok (ins, len)) (htr : vm_tr (vm_mo f) f pc ins len (.lload k, a, b, t) = true) (hti : vm_hti f (.lload k, a, b, t) = true) (hx : vm_x ph (.lload k, a, b, t) ls st mem true = some s1) (hob : s1.2.2.2 = true) (hpre : vm_pre ph st mem = true) (hlen : ls.length = vm_mx f) (hcs : cells ≤ R.cells ∧ slots ≤ R.slots) (hsg : f = 301 → m0 903 0 ≠ -1) (K : vm_Wx p l e R s m args below meth c cells slots Q dC dI ad CA A ph f m0 n0 (pc + len) s1.1 s1.2.1 s1.2.2.1) : vm_Wx p l e R s m args below meth c cells slots Q dC dI ad CA A ph f m0 n0 pc ls st mem := by
  unfold vm_x at hx
  dsimp only at hx
  split at hx
  · rename_i z hz
    cases hx
    unfold vm_tr at htr
    dsimp only at htr
    split at htr
    · simp only [Bool.and_eq_true] at htr
      obtain ⟨h1, h2⟩ := htr
      have h3 := vm_beq h1
      have h4 := vm_beq h2
      subst h3 h4
      exact vm_s_lload C hz hd K
    · simp only [Bool.and_eq_true] at htr
      obtain ⟨h1, h2⟩ := htr
      have h4 := vm_beq h2
      subst h4
      exact vm_s_lload_n C (vm_beq h1) hz hd K
    · cases htr
  · cases hx
theorem vm_x_aload (C : vm_Cx p R s m args meth c dC dI ad CA A f d m0 ph n0) {pc len a b : Nat} {t : List (Int × Nat)} {ls : vm_L} {st : List vm_V} {mem : vm_M} {s1 : vm_S} {ins : Instr} {k : Nat} (hd : decode (vm_cb f) pc = .ok (ins, len)) (htr : vm_tr (vm_mo f) f pc ins len (.aload k, a, b, t) = true) (hti : vm_hti f (.aload k, a, b, t) = true) (hx : vm_x ph (.aload k, a, b, t) ls st mem true = some s1) (hob : s1.2.2.2 = true) (hpre : vm_pre ph st mem = true) (hlen : ls.length = vm_mx f) (hcs : cells ≤ R.cells ∧ slots ≤ R.slots) (hsg : f = 301 → m0 903 0 ≠ -1) (K : vm_Wx p l e R s m args below meth c cells slots Q dC dI ad CA A ph f m0 n0 (pc + len) s1.1 s1.2.1 s1.2.2.1) : vm_Wx p l e R s m args below meth c cells slots Q dC dI ad CA A ph f m0 n0 pc ls st mem := by
  unfold vm_x at hx
  dsimp only at hx
  split at hx
  · rename_i z hz
    cases hx
    unfold vm_tr at htr
    dsimp only at htr
    split at htr
    · simp only [Bool.and_eq_true] at htr
      obtain ⟨h1, h2⟩ := htr
      have h3 := vm_beq h1
      have h4 := vm_beq h2
      subst h3 h4
      exact vm_s_aload C hz hd K
    · simp only [Bool.and_eq_true] at htr
      obtain ⟨h1, h2⟩ := htr
      have h4 := vm_beq h2
      subst h4
      exact vm_s_aload_n C (vm_beq h1) hz hd K
    · cases htr
  · cases hx
theorem vm_x_dload (C : vm_Cx p R s m args meth c dC dI ad CA A f d m0 ph n0) {pc len a b : Nat} {t : List (Int × Nat)} {ls : vm_L} {st : List vm_V} {mem : vm_M} {s1 : vm_S} {ins : Instr} {k : Nat} (hd : decode (vm_cb f) pc = .ok (ins, len)) (htr : vm_tr (vm_mo f) f pc ins len (.dload k, a, b, t) = true) (hti : vm_hti f (.dload k, a, b, t) = true) (hx : vm_x ph (.dload k, a, b, t) ls st mem true = some s1) (hob : s1.2.2.2 = true) (hpre : vm_pre ph st mem = true) (hlen : ls.length = vm_mx f) (hcs : cells ≤ R.cells ∧ slots ≤ R.slots) (hsg : f = 301 → m0 903 0 ≠ -1) (K : vm_Wx p l e R s m args below meth c cells slots Q dC dI ad CA A ph f m0 n0 (pc + len) s1.1 s1.2.1 s1.2.2.1) : vm_Wx p l e R s m args below meth c cells slots Q dC dI ad CA A ph f m0 n0 pc ls st mem := by
  unfold vm_x at hx
  dsimp only at hx
  split at hx
  · rename_i z hz
    cases hx
    unfold vm_tr at htr
    dsimp only at htr
    split at htr
    · simp only [Bool.and_eq_true] at htr
      obtain ⟨h1, h2⟩ := htr
      have h3 := vm_beq h1
      have h4 := vm_beq h2
      subst h3 h4
      exact vm_s_dload C hz hd K
    · simp only [Bool.and_eq_true] at htr
      obtain ⟨h1, h2⟩ := htr
      have h4 := vm_beq h2
      subst h4
      exact vm_s_dload_n C (vm_beq h1) hz hd K
    · cases htr
  · cases hx
theorem vm_x_istore (C : vm_Cx p R s m args meth c dC dI ad CA A f d m0 ph n0) {pc len a b : Nat} {t : List (Int × Nat)} {ls : vm_L} {st : List vm_V} {mem : vm_M} {s1 : vm_S} {ins : Instr} {k : Nat} (hd : decode (vm_cb f) pc = .ok (ins, len)) (htr : vm_tr (vm_mo f) f pc ins len (.istore k, a, b, t) = true) (hti : vm_hti f (.istore k, a, b, t) = true) (hx : vm_x ph (.istore k, a, b, t) ls st mem true = some s1) (hob : s1.2.2.2 = true) (hpre : vm_pre ph st mem = true) (hlen : ls.length = vm_mx f) (hcs : cells ≤ R.cells ∧ slots ≤ R.slots) (hsg : f = 301 → m0 903 0 ≠ -1) (K : vm_Wx p l e R s m args below meth c cells slots Q dC dI ad CA A ph f m0 n0 (pc + len) s1.1 s1.2.1 s1.2.2.1) : vm_Wx p l e R s m args below meth c cells slots Q dC dI ad CA A ph f m0 n0 pc ls st mem := by
  unfold vm_x at hx
  dsimp only at hx
  split at hx
  · rename_i z r
    split at hx
    · rename_i l1 hz
      cases hx
      unfold vm_tr at htr
      dsimp only at htr
      split at htr
      · simp only [Bool.and_eq_true] at htr
        obtain ⟨h1, h2⟩ := htr
        have h3 := vm_beq h1
        have h4 := vm_beq h2
        subst h3 h4
        exact vm_s_istore C hz hlen hd K
      · simp only [Bool.and_eq_true] at htr
        obtain ⟨h1, h2⟩ := htr
        have h4 := vm_beq h2
        subst h4
        exact vm_s_istore_n C (vm_beq h1) hz hlen hd K
      · cases htr
    · cases hx
  · cases hx
theorem vm_x_lstore (C : vm_Cx p R s m args meth c dC dI ad CA A f d m0 ph n0) {pc len a b : Nat} {t : List (Int × Nat)} {ls : vm_L} {st : List vm_V} {mem : vm_M} {s1 : vm_S} {ins : Instr} {k : Nat} (hd : decode (vm_cb f) pc = .ok (ins, len)) (htr : vm_tr (vm_mo f) f pc ins len (.lstore k, a, b, t) = true) (hti : vm_hti f (.lstore k, a, b, t) = true) (hx : vm_x ph (.lstore k, a, b, t) ls st mem true = some s1) (hob : s1.2.2.2 = true) (hpre : vm_pre ph st mem = true) (hlen : ls.length = vm_mx f) (hcs : cells ≤ R.cells ∧ slots ≤ R.slots) (hsg : f = 301 → m0 903 0 ≠ -1) (K : vm_Wx p l e R s m args below meth c cells slots Q dC dI ad CA A ph f m0 n0 (pc + len) s1.1 s1.2.1 s1.2.2.1) : vm_Wx p l e R s m args below meth c cells slots Q dC dI ad CA A ph f m0 n0 pc ls st mem := by
  unfold vm_x at hx
  dsimp only at hx
  split at hx
  · rename_i z r
    split at hx
    · rename_i l1 hz
      cases hx
      unfold vm_tr at htr
      dsimp only at htr
      split at htr
      · simp only [Bool.and_eq_true] at htr
        obtain ⟨h1, h2⟩ := htr
        have h3 := vm_beq h1
        have h4 := vm_beq h2
        subst h3 h4
        exact vm_s_lstore C hz hlen hd K
      · simp only [Bool.and_eq_true] at htr
        obtain ⟨h1, h2⟩ := htr
        have h4 := vm_beq h2
        subst h4
        exact vm_s_lstore_n C (vm_beq h1) hz hlen hd K
      · cases htr
    · cases hx
  · cases hx
theorem vm_x_astore (C : vm_Cx p R s m args meth c dC dI ad CA A f d m0 ph n0) {pc len a b : Nat} {t : List (Int × Nat)} {ls : vm_L} {st : List vm_V} {mem : vm_M} {s1 : vm_S} {ins : Instr} {k : Nat} (hd : decode (vm_cb f) pc = .ok (ins, len)) (htr : vm_tr (vm_mo f) f pc ins len (.astore k, a, b, t) = true) (hti : vm_hti f (.astore k, a, b, t) = true) (hx : vm_x ph (.astore k, a, b, t) ls st mem true = some s1) (hob : s1.2.2.2 = true) (hpre : vm_pre ph st mem = true) (hlen : ls.length = vm_mx f) (hcs : cells ≤ R.cells ∧ slots ≤ R.slots) (hsg : f = 301 → m0 903 0 ≠ -1) (K : vm_Wx p l e R s m args below meth c cells slots Q dC dI ad CA A ph f m0 n0 (pc + len) s1.1 s1.2.1 s1.2.2.1) : vm_Wx p l e R s m args below meth c cells slots Q dC dI ad CA A ph f m0 n0 pc ls st mem := by
  unfold vm_x at hx
  dsimp only at hx
  split at hx
  · rename_i z r
    split at hx
    · rename_i l1 hz
      cases hx
      unfold vm_tr at htr
      dsimp only at htr
      split at htr
      · simp only [Bool.and_eq_true] at htr
        obtain ⟨h1, h2⟩ := htr
        have h3 := vm_beq h1
        have h4 := vm_beq h2
        subst h3 h4
        exact vm_s_astore C hz hlen hd K
      · simp only [Bool.and_eq_true] at htr
        obtain ⟨h1, h2⟩ := htr
        have h4 := vm_beq h2
        subst h4
        exact vm_s_astore_n C (vm_beq h1) hz hlen hd K
      · cases htr
    · cases hx
  · cases hx
theorem vm_x_dstore (C : vm_Cx p R s m args meth c dC dI ad CA A f d m0 ph n0) {pc len a b : Nat} {t : List (Int × Nat)} {ls : vm_L} {st : List vm_V} {mem : vm_M} {s1 : vm_S} {ins : Instr} {k : Nat} (hd : decode (vm_cb f) pc = .ok (ins, len)) (htr : vm_tr (vm_mo f) f pc ins len (.dstore k, a, b, t) = true) (hti : vm_hti f (.dstore k, a, b, t) = true) (hx : vm_x ph (.dstore k, a, b, t) ls st mem true = some s1) (hob : s1.2.2.2 = true) (hpre : vm_pre ph st mem = true) (hlen : ls.length = vm_mx f) (hcs : cells ≤ R.cells ∧ slots ≤ R.slots) (hsg : f = 301 → m0 903 0 ≠ -1) (K : vm_Wx p l e R s m args below meth c cells slots Q dC dI ad CA A ph f m0 n0 (pc + len) s1.1 s1.2.1 s1.2.2.1) : vm_Wx p l e R s m args below meth c cells slots Q dC dI ad CA A ph f m0 n0 pc ls st mem := by
  unfold vm_x at hx
  dsimp only at hx
  split at hx
  · rename_i z r
    split at hx
    · rename_i l1 hz
      cases hx
      unfold vm_tr at htr
      dsimp only at htr
      split at htr
      · simp only [Bool.and_eq_true] at htr
        obtain ⟨h1, h2⟩ := htr
        have h3 := vm_beq h1
        have h4 := vm_beq h2
        subst h3 h4
        exact vm_s_dstore C hz hlen hd K
      · simp only [Bool.and_eq_true] at htr
        obtain ⟨h1, h2⟩ := htr
        have h4 := vm_beq h2
        subst h4
        exact vm_s_dstore_n C (vm_beq h1) hz hlen hd K
      · cases htr
    · cases hx
  · cases hx
theorem vm_x_iinc (C : vm_Cx p R s m args meth c dC dI ad CA A f d m0 ph n0) {pc len a b : Nat} {t : List (Int × Nat)} {ls : vm_L} {st : List vm_V} {mem : vm_M} {s1 : vm_S} {ins : Instr} {k : Nat} {n : Int} (hd : decode (vm_cb f) pc = .ok (ins, len)) (htr : vm_tr (vm_mo f) f pc ins len (.iinc k n, a, b, t) = true) (hti : vm_hti f (.iinc k n, a, b, t) = true) (hx : vm_x ph (.iinc k n, a, b, t) ls st mem true = some s1) (hob : s1.2.2.2 = true) (hpre : vm_pre ph st mem = true) (hlen : ls.length = vm_mx f) (hcs : cells ≤ R.cells ∧ slots ≤ R.slots) (hsg : f = 301 → m0 903 0 ≠ -1) (K : vm_Wx p l e R s m args below meth c cells slots Q dC dI ad CA A ph f m0 n0 (pc + len) s1.1 s1.2.1 s1.2.2.1) : vm_Wx p l e R s m args below meth c cells slots Q dC dI ad CA A ph f m0 n0 pc ls st mem := by
  unfold vm_x at hx
  dsimp only at hx
  split at hx
  · rename_i z hz
    split at hx
    · rename_i l1 hs
      cases hx
      simp only [Bool.true_and, decide_eq_true_eq] at hob
      unfold vm_tr at htr
      dsimp only at htr
      simp only [Bool.and_eq_true] at htr
      obtain ⟨-, htr⟩ := htr
      split at htr
      · simp only [Bool.and_eq_true, decide_eq_true_eq] at htr
        obtain ⟨⟨h1, h2⟩, h3⟩ := htr
        have h4 := vm_beq h1
        have h5 := vm_beq h3
        subst h4 h2 h5
        exact vm_s_iinc C hz hs hlen hob hd K
      · cases htr
    · cases hx
  · cases hx
theorem vm_x_iconst (C : vm_Cx p R s m args meth c dC dI ad CA A f d m0 ph n0) {pc len a b : Nat} {t : List (Int × Nat)} {ls : vm_L} {st : List vm_V} {mem : vm_M} {s1 : vm_S} {ins : Instr} {n : Int} (hd : decode (vm_cb f) pc = .ok (ins, len)) (htr : vm_tr (vm_mo f) f pc ins len (.iconst n, a, b, t) = true) (hti : vm_hti f (.iconst n, a, b, t) = true) (hx : vm_x ph (.iconst n, a, b, t) ls st mem true = some s1) (hob : s1.2.2.2 = true) (hpre : vm_pre ph st mem = true) (hlen : ls.length = vm_mx f) (hcs : cells ≤ R.cells ∧ slots ≤ R.slots) (hsg : f = 301 → m0 903 0 ≠ -1) (K : vm_Wx p l e R s m args below meth c cells slots Q dC dI ad CA A ph f m0 n0 (pc + len) s1.1 s1.2.1 s1.2.2.1) : vm_Wx p l e R s m args below meth c cells slots Q dC dI ad CA A ph f m0 n0 pc ls st mem := by
  unfold vm_x at hx
  dsimp only at hx
  cases hx
  unfold vm_tr at htr
  dsimp only at htr
  simp only [Bool.and_eq_true, decide_eq_true_eq] at htr
  obtain ⟨h0, htr⟩ := htr
  split at htr
  · simp only [Bool.and_eq_true, decide_eq_true_eq] at htr
    obtain ⟨h1, h2⟩ := htr
    have h3 := vm_beq h2
    subst h1 h3
    exact vm_s_iconst C h0 hd K
  · simp only [Bool.and_eq_true, decide_eq_true_eq] at htr
    obtain ⟨h1, h2⟩ := htr
    have h3 := vm_beq h2
    subst h3
    exact vm_s_bipush C h0 h1 hd K
  · simp only [Bool.and_eq_true, decide_eq_true_eq] at htr
    obtain ⟨h1, h2⟩ := htr
    have h3 := vm_beq h2
    subst h3
    exact vm_s_sipush C h0 h1 hd K
  · cases htr
theorem vm_x_ldc2 (C : vm_Cx p R s m args meth c dC dI ad CA A f d m0 ph n0) {pc len a b : Nat} {t : List (Int × Nat)} {ls : vm_L} {st : List vm_V} {mem : vm_M} {s1 : vm_S} {ins : Instr} {n : Nat} (hd : decode (vm_cb f) pc = .ok (ins, len)) (htr : vm_tr (vm_mo f) f pc ins len (.ldc2_w n, a, b, t) = true) (hti : vm_hti f (.ldc2_w n, a, b, t) = true) (hx : vm_x ph (.ldc2_w n, a, b, t) ls st mem true = some s1) (hob : s1.2.2.2 = true) (hpre : vm_pre ph st mem = true) (hlen : ls.length = vm_mx f) (hcs : cells ≤ R.cells ∧ slots ≤ R.slots) (hsg : f = 301 → m0 903 0 ≠ -1) (K : vm_Wx p l e R s m args below meth c cells slots Q dC dI ad CA A ph f m0 n0 (pc + len) s1.1 s1.2.1 s1.2.2.1) : vm_Wx p l e R s m args below meth c cells slots Q dC dI ad CA A ph f m0 n0 pc ls st mem := by
  unfold vm_x at hx
  dsimp only at hx
  split at hx
  · rename_i q r
    cases hx
    unfold vm_tr at htr
    dsimp only at htr
    simp only [Bool.and_eq_true, decide_eq_true_eq] at htr
    obtain ⟨h0, htr⟩ := htr
    split at htr
    · simp only [Bool.and_eq_true, decide_eq_true_eq] at htr
      obtain ⟨h1, h2⟩ := htr
      have h3 := vm_beq h2
      subst h3
      exact vm_s_ldc2 C h0 (vm_hasL_in h1) hd K
    · simp only [Bool.and_eq_true, decide_eq_true_eq] at htr
      obtain ⟨h1, h2⟩ := htr
      have h3 := vm_beq h2
      subst h3
      exact vm_s_lconst C h0 h1 hd K
    · cases htr
  · cases hx
theorem vm_x_fconst (C : vm_Cx p R s m args meth c dC dI ad CA A f d m0 ph n0) {pc len a b : Nat} {t : List (Int × Nat)} {ls : vm_L} {st : List vm_V} {mem : vm_M} {s1 : vm_S} {ins : Instr} {n : Fin 3} (hd : decode (vm_cb f) pc = .ok (ins, len)) (htr : vm_tr (vm_mo f) f pc ins len (.fconst n, a, b, t) = true) (hti : vm_hti f (.fconst n, a, b, t) = true) (hx : vm_x ph (.fconst n, a, b, t) ls st mem true = some s1) (hob : s1.2.2.2 = true) (hpre : vm_pre ph st mem = true) (hlen : ls.length = vm_mx f) (hcs : cells ≤ R.cells ∧ slots ≤ R.slots) (hsg : f = 301 → m0 903 0 ≠ -1) (K : vm_Wx p l e R s m args below meth c cells slots Q dC dI ad CA A ph f m0 n0 (pc + len) s1.1 s1.2.1 s1.2.2.1) : vm_Wx p l e R s m args below meth c cells slots Q dC dI ad CA A ph f m0 n0 pc ls st mem := by
  unfold vm_x at hx
  dsimp only at hx
  cases hx
  unfold vm_tr at htr
  dsimp only at htr
  simp only [Bool.and_eq_true] at htr
  obtain ⟨h0, htr⟩ := htr
  have h9 := vm_beq h0
  subst h9
  split at htr
  · simp only [Bool.and_eq_true] at htr
    obtain ⟨h1, h2⟩ := htr
    have h3 := vm_beq h2
    subst h3
    exact vm_s_fconst C (vm_hasE_in h1) hd K
  · simp only [Bool.and_eq_true] at htr
    obtain ⟨h1, h2⟩ := htr
    have h3 := vm_beq h2
    subst h3
    exact vm_s_fconstw C (vm_hasE_in h1) hd K
  · cases htr
theorem vm_x_dconst (C : vm_Cx p R s m args meth c dC dI ad CA A f d m0 ph n0) {pc len a b : Nat} {t : List (Int × Nat)} {ls : vm_L} {st : List vm_V} {mem : vm_M} {s1 : vm_S} {ins : Instr} {n : Fin 2} (hd : decode (vm_cb f) pc = .ok (ins, len)) (htr : vm_tr (vm_mo f) f pc ins len (.dconst n, a, b, t) = true) (hti : vm_hti f (.dconst n, a, b, t) = true) (hx : vm_x ph (.dconst n, a, b, t) ls st mem true = some s1) (hob : s1.2.2.2 = true) (hpre : vm_pre ph st mem = true) (hlen : ls.length = vm_mx f) (hcs : cells ≤ R.cells ∧ slots ≤ R.slots) (hsg : f = 301 → m0 903 0 ≠ -1) (K : vm_Wx p l e R s m args below meth c cells slots Q dC dI ad CA A ph f m0 n0 (pc + len) s1.1 s1.2.1 s1.2.2.1) : vm_Wx p l e R s m args below meth c cells slots Q dC dI ad CA A ph f m0 n0 pc ls st mem := by
  unfold vm_x at hx
  dsimp only at hx
  cases hx
  unfold vm_tr at htr
  dsimp only at htr
  split at htr
  · simp only [Bool.and_eq_true] at htr
    obtain ⟨h1, h2⟩ := htr
    have h3 := vm_beq h2
    subst h3
    exact vm_s_dconst C (vm_beq h1) hd K
  · cases htr
theorem vm_x_ldc (C : vm_Cx p R s m args meth c dC dI ad CA A f d m0 ph n0) {pc len a b : Nat} {t : List (Int × Nat)} {ls : vm_L} {st : List vm_V} {mem : vm_M} {s1 : vm_S} {ins : Instr} {n : Nat} (hd : decode (vm_cb f) pc = .ok (ins, len)) (htr : vm_tr (vm_mo f) f pc ins len (.ldc n, a, b, t) = true) (hti : vm_hti f (.ldc n, a, b, t) = true) (hx : vm_x ph (.ldc n, a, b, t) ls st mem true = some s1) (hob : s1.2.2.2 = true) (hpre : vm_pre ph st mem = true) (hlen : ls.length = vm_mx f) (hcs : cells ≤ R.cells ∧ slots ≤ R.slots) (hsg : f = 301 → m0 903 0 ≠ -1) (K : vm_Wx p l e R s m args below meth c cells slots Q dC dI ad CA A ph f m0 n0 (pc + len) s1.1 s1.2.1 s1.2.2.1) : vm_Wx p l e R s m args below meth c cells slots Q dC dI ad CA A ph f m0 n0 pc ls st mem := by
  unfold vm_x at hx
  dsimp only at hx
  cases hx
  have hE : vm_Ext ad A m0 s s.heap := C.2.2.2.2.2.2.2.1
  have key : ∀ idx, vm_hasS (vm_mo f) idx a = true → vk_R (vm_cn (vm_mo f)) idx (vm_tx a) (ad (1000 + a)) s := by
    intro idx h
    unfold vm_hasS at h
    obtain ⟨e, he, h1⟩ := List.any_eq_true.mp h
    simp only [Bool.and_eq_true] at h1
    obtain ⟨⟨g1, g2⟩, g3⟩ := h1
    have := hE.2.2.2.2.2.1 e he
    rw [vm_beq g1, vm_beq g2, vm_beq g3] at this
    exact this
  unfold vm_tr at htr
  dsimp only at htr
  split at htr
  · simp only [Bool.and_eq_true] at htr
    obtain ⟨h1, h2⟩ := htr
    have h3 := vm_beq h2
    subst h3
    exact vm_s_ldcs C (key _ h1) hd K
  · simp only [Bool.and_eq_true] at htr
    obtain ⟨h1, h2⟩ := htr
    have h3 := vm_beq h2
    subst h3
    exact vm_s_ldcws C (key _ h1) hd K
  · cases htr
theorem vm_x_getstatic (C : vm_Cx p R s m args meth c dC dI ad CA A f d m0 ph n0) {pc len a b : Nat} {t : List (Int × Nat)} {ls : vm_L} {st : List vm_V} {mem : vm_M} {s1 : vm_S} {ins : Instr} {n : Nat} (hd : decode (vm_cb f) pc = .ok (ins, len)) (htr : vm_tr (vm_mo f) f pc ins len (.getstatic n, a, b, t) = true) (hti : vm_hti f (.getstatic n, a, b, t) = true) (hx : vm_x ph (.getstatic n, a, b, t) ls st mem true = some s1) (hob : s1.2.2.2 = true) (hpre : vm_pre ph st mem = true) (hlen : ls.length = vm_mx f) (hcs : cells ≤ R.cells ∧ slots ≤ R.slots) (hsg : f = 301 → m0 903 0 ≠ -1) (K : vm_Wx p l e R s m args below meth c cells slots Q dC dI ad CA A ph f m0 n0 (pc + len) s1.1 s1.2.1 s1.2.2.1) : vm_Wx p l e R s m args below meth c cells slots Q dC dI ad CA A ph f m0 n0 pc ls st mem := by
  unfold vm_x at hx
  dsimp only at hx
  cases hx
  have hE : vm_Ext ad A m0 s s.heap := C.2.2.2.2.2.2.2.1
  unfold vm_tr at htr
  dsimp only at htr
  split at htr
  · simp only [Bool.and_eq_true] at htr
    obtain ⟨h1, h2⟩ := htr
    have h3 := vm_beq h2
    subst h3
    have hk : a = 900 ∨ a = 901 := vm_hasT_k h1
    rcases vm_hasT_in h1 with hw | hw
    · exact vm_s_gets C hk hw hd K
    · exact vm_s_getsN C hk (va_Nw.use rfl (hE.2.2.2.2.1 _ hw)) hd K
  · cases htr
theorem vm_x_dup (C : vm_Cx p R s m args meth c dC dI ad CA A f d m0 ph n0) {pc len a b : Nat} {t : List (Int × Nat)} {ls : vm_L} {st : List vm_V} {mem : vm_M} {s1 : vm_S} {ins : Instr} (hd : decode (vm_cb f) pc = .ok (ins, len)) (htr : vm_tr (vm_mo f) f pc ins len (.dup, a, b, t) = true) (hti : vm_hti f (.dup, a, b, t) = true) (hx : vm_x ph (.dup, a, b, t) ls st mem true = some s1) (hob : s1.2.2.2 = true) (hpre : vm_pre ph st mem = true) (hlen : ls.length = vm_mx f) (hcs : cells ≤ R.cells ∧ slots ≤ R.slots) (hsg : f = 301 → m0 903 0 ≠ -1) (K : vm_Wx p l e R s m args below meth c cells slots Q dC dI ad CA A ph f m0 n0 (pc + len) s1.1 s1.2.1 s1.2.2.1) : vm_Wx p l e R s m args below meth c cells slots Q dC dI ad CA A ph f m0 n0 pc ls st mem := by
  unfold vm_x at hx
  dsimp only at hx
  have h1 : (decide (ins = .dup) && Nat.beq len 1) = true := htr
  obtain ⟨rfl, rfl⟩ := vm_trd h1
  split at hx
  · rename_i x r
    cases hq : (vm_cat x == 1) with
    | true =>
      rw [hq] at hx
      cases hx
      exact vm_s_dup C (by simpa using hq) hd K
    | false => rw [hq] at hx; cases hx
  · cases hx
theorem vm_x_dup2 (C : vm_Cx p R s m args meth c dC dI ad CA A f d m0 ph n0) {pc len a b : Nat} {t : List (Int × Nat)} {ls : vm_L} {st : List vm_V} {mem : vm_M} {s1 : vm_S} {ins : Instr} (hd : decode (vm_cb f) pc = .ok (ins, len)) (htr : vm_tr (vm_mo f) f pc ins len (.dup2, a, b, t) = true) (hti : vm_hti f (.dup2, a, b, t) = true) (hx : vm_x ph (.dup2, a, b, t) ls st mem true = some s1) (hob : s1.2.2.2 = true) (hpre : vm_pre ph st mem = true) (hlen : ls.length = vm_mx f) (hcs : cells ≤ R.cells ∧ slots ≤ R.slots) (hsg : f = 301 → m0 903 0 ≠ -1) (K : vm_Wx p l e R s m args below meth c cells slots Q dC dI ad CA A ph f m0 n0 (pc + len) s1.1 s1.2.1 s1.2.2.1) : vm_Wx p l e R s m args below meth c cells slots Q dC dI ad CA A ph f m0 n0 pc ls st mem := by
  unfold vm_x at hx
  dsimp only at hx
  have h1 : (decide (ins = .dup2) && Nat.beq len 1) = true := htr
  obtain ⟨rfl, rfl⟩ := vm_trd h1
  split at hx
  · rename_i x y r
    cases hq : (vm_cat x == 1 && vm_cat y == 1) with
    | true =>
      rw [hq] at hx
      cases hx
      exact vm_s_dup2 C (by simpa using hq) hd K
    | false => rw [hq] at hx; cases hx
  · cases hx
theorem vm_x_getfield (C : vm_Cx p R s m args meth c dC dI ad CA A f d m0 ph n0) {pc len a b : Nat} {t : List (Int × Nat)} {ls : vm_L} {st : List vm_V} {mem : vm_M} {s1 : vm_S} {ins : Instr} {n : Nat} (hd : decode (vm_cb f) pc = .ok (ins, len)) (htr : vm_tr (vm_mo f) f pc ins len (.getfield n, a, b, t) = true) (hti : vm_hti f (.getfield n, a, b, t) = true) (hx : vm_x ph (.getfield n, a, b, t) ls st mem true = some s1) (hob : s1.2.2.2 = true) (hpre : vm_pre ph st mem = true) (hlen : ls.length = vm_mx f) (hcs : cells ≤ R.cells ∧ slots ≤ R.slots) (hsg : f = 301 → m0 903 0 ≠ -1) (K : vm_Wx p l e R s m args below meth c cells slots Q dC dI ad CA A ph f m0 n0 (pc + len) s1.1 s1.2.1 s1.2.2.1) : vm_Wx p l e R s m args below meth c cells slots Q dC dI ad CA A ph f m0 n0 pc ls st mem := by
  unfold vm_x at hx
  dsimp only at hx
  split at hx
  · rename_i k r
    unfold vm_tr at htr
    dsimp only at htr
    split at htr
    · rename_i idx
      simp only [Bool.and_eq_true] at htr
      obtain ⟨⟨⟨⟨w1, w2⟩, w3⟩, w4⟩, w5⟩ := htr
      have h3 := vm_beq w2
      subst h3
      split at hx
      · cases hx
        simp only [Bool.true_and] at hob
        simp only [Bool.or_eq_true] at w5
        exact vm_s_getI C hob (vm_blt w4) (vm_blt w3) (vm_hasF_in w1) hpre (w5.imp vm_beq vm_beq) hd K
      · cases hx
        simp only [Bool.true_and] at hob
        exact vm_s_getL C hob (vm_blt w4) (vm_blt w3) (vm_hasF_in w1) hpre (vm_beq w5) hd K
      · rename_i h0 h1
        split at hx
        · rename_i q r2
          cases hx
          simp only [Bool.true_and, Bool.and_eq_true] at hob
          have w6 : (Nat.beq (vm_fk a b) 2 && decide (q :: r2 = [vm_rf a b])) = true := by
            split at w5
            · exact absurd rfl h0
            · exact absurd rfl h1
            · exact w5
          simp only [Bool.and_eq_true, decide_eq_true_eq] at w6
          obtain ⟨w7, w8⟩ := w6
          injection w8 with w8 w9
          subst w8
          refine vm_s_getR C hob.1 (vm_blt w4) (vm_blt w3) (vm_hasF_in w1) hpre (vm_beq w7) (fun hp => ?_) hd K
          have w10 := hob.2
          rw [hp] at w10
          exact of_decide_eq_true w10
        · cases hx
    · cases htr
  · cases hx
theorem vm_x_putfield (C : vm_Cx p R s m args meth c dC dI ad CA A f d m0 ph n0) {pc len a b : Nat} {t : List (Int × Nat)} {ls : vm_L} {st : List vm_V} {mem : vm_M} {s1 : vm_S} {ins : Instr} {n : Nat} (hd : decode (vm_cb f) pc = .ok (ins, len)) (htr : vm_tr (vm_mo f) f pc ins len (.putfield n, a, b, t) = true) (hti : vm_hti f (.putfield n, a, b, t) = true) (hx : vm_x ph (.putfield n, a, b, t) ls st mem true = some s1) (hob : s1.2.2.2 = true) (hpre : vm_pre ph st mem = true) (hlen : ls.length = vm_mx f) (hcs : cells ≤ R.cells ∧ slots ≤ R.slots) (hsg : f = 301 → m0 903 0 ≠ -1) (K : vm_Wx p l e R s m args below meth c cells slots Q dC dI ad CA A ph f m0 n0 (pc + len) s1.1 s1.2.1 s1.2.2.1) : vm_Wx p l e R s m args below meth c cells slots Q dC dI ad CA A ph f m0 n0 pc ls st mem := by
  unfold vm_x at hx
  dsimp only at hx
  have hnm0 : vm_pr f = true → meth.name = (vm_mt f).1 := C.2.2.2.2.2.2.2.2.2.1
  have hf302 : vm_pr f = true := C.2.2.2.2.2.2.2.2.1
  have hnm : (vm_mt f).1 = "<init>" → meth.name = (vm_mt f).1 := fun _ => hnm0 hf302
  split at hx
  · rename_i v k r
    unfold vm_tr at htr
    dsimp only at htr
    split at htr
    · rename_i idx
      simp only [Bool.and_eq_true] at htr
      obtain ⟨⟨⟨⟨⟨w1, w2⟩, w3⟩, w4⟩, w5⟩, w6⟩ := htr
      have h3 := vm_beq w2
      subst h3
      split at hx
      · cases hx
        simp only [Bool.true_and] at hob
        exact vm_s_putI C hob (vm_blt w4) (vm_blt w3) (vm_hasF_in w1) hpre (vm_beq w6) (fun hq => by
        rw [hq] at w5
        simp only [cond_true, Bool.and_eq_true, decide_eq_true_eq] at w5
        exact ⟨(hnm w5.1).trans w5.1, by rw [vm_beq w5.2]⟩) hd K
      · cases hx
        simp only [Bool.true_and, Bool.and_eq_true, decide_eq_true_eq] at hob
        exact vm_s_putZ C hob.1 (vm_blt w4) (vm_blt w3) (vm_hasF_in w1) hpre (vm_beq w6) hob.2 (fun hq => by
        rw [hq] at w5
        simp only [cond_true, Bool.and_eq_true, decide_eq_true_eq] at w5
        exact ⟨(hnm w5.1).trans w5.1, by rw [vm_beq w5.2]⟩) hd K
      · cases hx
    · cases htr
  · rename_i v k r
    unfold vm_tr at htr
    dsimp only at htr
    split at htr
    · rename_i idx
      simp only [Bool.and_eq_true] at htr
      obtain ⟨⟨⟨⟨⟨w1, w2⟩, w3⟩, w4⟩, w5⟩, w6⟩ := htr
      have h3 := vm_beq w2
      subst h3
      split at hx
      · cases hx
        simp only [Bool.true_and] at hob
        exact vm_s_putL C hob (vm_blt w4) (vm_blt w3) (vm_hasF_in w1) hpre (vm_beq w6) (fun hq => by
        rw [hq] at w5
        simp only [cond_true, Bool.and_eq_true, decide_eq_true_eq] at w5
        exact ⟨(hnm w5.1).trans w5.1, by rw [vm_beq w5.2]⟩) hd K
      · cases hx
    · cases htr
  · rename_i v k r
    unfold vm_tr at htr
    dsimp only at htr
    split at htr
    · rename_i idx
      simp only [Bool.and_eq_true] at htr
      obtain ⟨⟨⟨⟨⟨w1, w2⟩, w3⟩, w4⟩, w5⟩, w6⟩ := htr
      have h3 := vm_beq w2
      subst h3
      split at hx
      · rename_i q r2
        cases ph with
        | false => cases hx
        | true =>
          cases hx
          simp only [Bool.true_and, Bool.and_eq_true, decide_eq_true_eq] at hob
          simp only [Bool.and_eq_true, decide_eq_true_eq] at w6
          obtain ⟨w7, w8⟩ := w6
          injection w8 with w8 w9
          subst w8
          exact vm_s_putR C hob.1 (vm_blt w4) (vm_blt w3) (vm_hasF_in w1) hpre (vm_beq w7) hob.2 (fun hq => by
        rw [hq] at w5
        simp only [cond_true, Bool.and_eq_true, decide_eq_true_eq] at w5
        exact ⟨(hnm w5.1).trans w5.1, by rw [vm_beq w5.2]⟩) hd K
      · cases hx
    · cases htr
  · cases hx
theorem vm_x_iaload (C : vm_Cx p R s m args meth c dC dI ad CA A f d m0 ph n0) {pc len a b : Nat} {t : List (Int × Nat)} {ls : vm_L} {st : List vm_V} {mem : vm_M} {s1 : vm_S} {ins : Instr} (hd : decode (vm_cb f) pc = .ok (ins, len)) (htr : vm_tr (vm_mo f) f pc ins len (.iaload, a, b, t) = true) (hti : vm_hti f (.iaload, a, b, t) = true) (hx : vm_x ph (.iaload, a, b, t) ls st mem true = some s1) (hob : s1.2.2.2 = true) (hpre : vm_pre ph st mem = true) (hlen : ls.length = vm_mx f) (hcs : cells ≤ R.cells ∧ slots ≤ R.slots) (hsg : f = 301 → m0 903 0 ≠ -1) (K : vm_Wx p l e R s m args below meth c cells slots Q dC dI ad CA A ph f m0 n0 (pc + len) s1.1 s1.2.1 s1.2.2.1) : vm_Wx p l e R s m args below meth c cells slots Q dC dI ad CA A ph f m0 n0 pc ls st mem := by
  unfold vm_x at hx
  dsimp only at hx
  unfold vm_tr at htr
  dsimp only at htr
  simp only [Bool.and_eq_true, decide_eq_true_eq] at htr
  obtain ⟨⟨rfl, w2⟩, w3⟩ := htr
  have h3 := vm_beq w2
  subst h3
  split at hx
  · rename_i j k r
    cases hq : (a == 0) with
    | true =>
      rw [hq] at hx
      cases hx
      simp only [Bool.true_and, Bool.and_eq_true, decide_eq_true_eq] at hob
      have ha : a = 0 := by simpa using hq
      subst ha
      obtain ⟨rfl, hj⟩ := hob
      exact vm_s_sld C (vm_beq w3) (hsg (vm_beq w3)) hj hd K
    | false =>
      rw [hq] at hx
      dsimp only [cond] at hx
      cases hq2 : (b == 1) with
      | true =>
        rw [hq2] at hx
        cases hx
        simp only [Bool.true_and, Bool.and_eq_true, decide_eq_true_eq] at hob
        exact vm_s_ild C hob.1 hob.2 hd K
      | false =>
        rw [hq2] at hx
        cases hx
        simp only [Bool.true_and, Bool.and_eq_true, decide_eq_true_eq] at hob
        exact vm_s_iald C hob.1 hob.2 hpre hd K
  · cases hx
theorem vm_x_baload (C : vm_Cx p R s m args meth c dC dI ad CA A f d m0 ph n0) {pc len a b : Nat} {t : List (Int × Nat)} {ls : vm_L} {st : List vm_V} {mem : vm_M} {s1 : vm_S} {ins : Instr} (hd : decode (vm_cb f) pc = .ok (ins, len)) (htr : vm_tr (vm_mo f) f pc ins len (.baload, a, b, t) = true) (hti : vm_hti f (.baload, a, b, t) = true) (hx : vm_x ph (.baload, a, b, t) ls st mem true = some s1) (hob : s1.2.2.2 = true) (hpre : vm_pre ph st mem = true) (hlen : ls.length = vm_mx f) (hcs : cells ≤ R.cells ∧ slots ≤ R.slots) (hsg : f = 301 → m0 903 0 ≠ -1) (K : vm_Wx p l e R s m args below meth c cells slots Q dC dI ad CA A ph f m0 n0 (pc + len) s1.1 s1.2.1 s1.2.2.1) : vm_Wx p l e R s m args below meth c cells slots Q dC dI ad CA A ph f m0 n0 pc ls st mem := by
  unfold vm_x at hx
  dsimp only at hx
  unfold vm_tr at htr
  dsimp only at htr
  simp only [Bool.and_eq_true, decide_eq_true_eq, Bool.or_eq_true] at htr
  obtain ⟨⟨rfl, w2⟩, w3⟩ := htr
  have h3 := vm_beq w2
  subst h3
  split at hx
  · rename_i j k r
    cases hx
    simp only [Bool.true_and, Bool.and_eq_true, decide_eq_true_eq] at hob
    rcases w3 with w3 | w3
    · have h4 := vm_beq w3
      subst h4
      exact vm_s_bald C hob.1 hob.2 hpre hd K
    · have h4 := vm_beq w3
      subst h4
      exact vm_s_zald C hob.1 hob.2 hpre hd K
  · cases hx
theorem vm_x_laload (C : vm_Cx p R s m args meth c dC dI ad CA A f d m0 ph n0) {pc len a b : Nat} {t : List (Int × Nat)} {ls : vm_L} {st : List vm_V} {mem : vm_M} {s1 : vm_S} {ins : Instr} (hd : decode (vm_cb f) pc = .ok (ins, len)) (htr : vm_tr (vm_mo f) f pc ins len (.laload, a, b, t) = true) (hti : vm_hti f (.laload, a, b, t) = true) (hx : vm_x ph (.laload, a, b, t) ls st mem true = some s1) (hob : s1.2.2.2 = true) (hpre : vm_pre ph st mem = true) (hlen : ls.length = vm_mx f) (hcs : cells ≤ R.cells ∧ slots ≤ R.slots) (hsg : f = 301 → m0 903 0 ≠ -1) (K : vm_Wx p l e R s m args below meth c cells slots Q dC dI ad CA A ph f m0 n0 (pc + len) s1.1 s1.2.1 s1.2.2.1) : vm_Wx p l e R s m args below meth c cells slots Q dC dI ad CA A ph f m0 n0 pc ls st mem := by
  unfold vm_x at hx
  dsimp only at hx
  have h1 : (decide (ins = .laload) && Nat.beq len 1) = true := htr
  obtain ⟨rfl, rfl⟩ := vm_trd h1
  split at hx
  · rename_i j k r
    cases hx
    simp only [Bool.true_and, Bool.and_eq_true, decide_eq_true_eq] at hob
    exact vm_s_lald C hob.1 hob.2 hpre hd K
  · cases hx
theorem vm_x_iastore (C : vm_Cx p R s m args meth c dC dI ad CA A f d m0 ph n0) {pc len a b : Nat} {t : List (Int × Nat)} {ls : vm_L} {st : List vm_V} {mem : vm_M} {s1 : vm_S} {ins : Instr} (hd : decode (vm_cb f) pc = .ok (ins, len)) (htr : vm_tr (vm_mo f) f pc ins len (.iastore, a, b, t) = true) (hti : vm_hti f (.iastore, a, b, t) = true) (hx : vm_x ph (.iastore, a, b, t) ls st mem true = some s1) (hob : s1.2.2.2 = true) (hpre : vm_pre ph st mem = true) (hlen : ls.length = vm_mx f) (hcs : cells ≤ R.cells ∧ slots ≤ R.slots) (hsg : f = 301 → m0 903 0 ≠ -1) (K : vm_Wx p l e R s m args below meth c cells slots Q dC dI ad CA A ph f m0 n0 (pc + len) s1.1 s1.2.1 s1.2.2.1) : vm_Wx p l e R s m args below meth c cells slots Q dC dI ad CA A ph f m0 n0 pc ls st mem := by
  unfold vm_x at hx
  dsimp only at hx
  have h1 : (decide (ins = .iastore) && Nat.beq len 1) = true := htr
  obtain ⟨rfl, rfl⟩ := vm_trd h1
  split at hx
  · rename_i v j k r
    cases hx
    simp only [Bool.true_and, Bool.and_eq_true, decide_eq_true_eq] at hob
    exact vm_s_iast C hob.1 hob.2 hpre hd K
  · cases hx
theorem vm_x_lastore (C : vm_Cx p R s m args meth c dC dI ad CA A f d m0 ph n0) {pc len a b : Nat} {t : List (Int × Nat)} {ls : vm_L} {st : List vm_V} {mem : vm_M} {s1 : vm_S} {ins : Instr} (hd : decode (vm_cb f) pc = .ok (ins, len)) (htr : vm_tr (vm_mo f) f pc ins len (.lastore, a, b, t) = true) (hti : vm_hti f (.lastore, a, b, t) = true) (hx : vm_x ph (.lastore, a, b, t) ls st mem true = some s1) (hob : s1.2.2.2 = true) (hpre : vm_pre ph st mem = true) (hlen : ls.length = vm_mx f) (hcs : cells ≤ R.cells ∧ slots ≤ R.slots) (hsg : f = 301 → m0 903 0 ≠ -1) (K : vm_Wx p l e R s m args below meth c cells slots Q dC dI ad CA A ph f m0 n0 (pc + len) s1.1 s1.2.1 s1.2.2.1) : vm_Wx p l e R s m args below meth c cells slots Q dC dI ad CA A ph f m0 n0 pc ls st mem := by
  unfold vm_x at hx
  dsimp only at hx
  have h1 : (decide (ins = .lastore) && Nat.beq len 1) = true := htr
  obtain ⟨rfl, rfl⟩ := vm_trd h1
  split at hx
  · rename_i v j k r
    cases hx
    simp only [Bool.true_and, Bool.and_eq_true, decide_eq_true_eq] at hob
    exact vm_s_last C hob.1 hob.2 hpre hd K
  · cases hx
theorem vm_x_bastore (C : vm_Cx p R s m args meth c dC dI ad CA A f d m0 ph n0) {pc len a b : Nat} {t : List (Int × Nat)} {ls : vm_L} {st : List vm_V} {mem : vm_M} {s1 : vm_S} {ins : Instr} (hd : decode (vm_cb f) pc = .ok (ins, len)) (htr : vm_tr (vm_mo f) f pc ins len (.bastore, a, b, t) = true) (hti : vm_hti f (.bastore, a, b, t) = true) (hx : vm_x ph (.bastore, a, b, t) ls st mem true = some s1) (hob : s1.2.2.2 = true) (hpre : vm_pre ph st mem = true) (hlen : ls.length = vm_mx f) (hcs : cells ≤ R.cells ∧ slots ≤ R.slots) (hsg : f = 301 → m0 903 0 ≠ -1) (K : vm_Wx p l e R s m args below meth c cells slots Q dC dI ad CA A ph f m0 n0 (pc + len) s1.1 s1.2.1 s1.2.2.1) : vm_Wx p l e R s m args below meth c cells slots Q dC dI ad CA A ph f m0 n0 pc ls st mem := by
  unfold vm_x at hx
  dsimp only at hx
  unfold vm_tr at htr
  dsimp only at htr
  simp only [Bool.and_eq_true, decide_eq_true_eq, Bool.or_eq_true] at htr
  obtain ⟨⟨rfl, w2⟩, w3⟩ := htr
  have h3 := vm_beq w2
  subst h3
  split at hx
  · rename_i v j k r
    rcases w3 with w3 | w3
    · have h4 := vm_beq w3
      subst h4
      cases hx
      simp only [Bool.true_and, Bool.and_eq_true, decide_eq_true_eq] at hob
      exact vm_s_bast C hob.1.1 hob.1.2 hob.2 hpre hd K
    · have h4 := vm_beq w3
      subst h4
      cases hx
      simp only [Bool.true_and, Bool.and_eq_true, decide_eq_true_eq] at hob
      exact vm_s_zast C hob.1.1 hob.1.2 hob.2 hpre hd K
  · cases hx
theorem vm_x_aaload (C : vm_Cx p R s m args meth c dC dI ad CA A f d m0 ph n0) {pc len a b : Nat} {t : List (Int × Nat)} {ls : vm_L} {st : List vm_V} {mem : vm_M} {s1 : vm_S} {ins : Instr} (hd : decode (vm_cb f) pc = .ok (ins, len)) (htr : vm_tr (vm_mo f) f pc ins len (.aaload, a, b, t) = true) (hti : vm_hti f (.aaload, a, b, t) = true) (hx : vm_x ph (.aaload, a, b, t) ls st mem true = some s1) (hob : s1.2.2.2 = true) (hpre : vm_pre ph st mem = true) (hlen : ls.length = vm_mx f) (hcs : cells ≤ R.cells ∧ slots ≤ R.slots) (hsg : f = 301 → m0 903 0 ≠ -1) (K : vm_Wx p l e R s m args below meth c cells slots Q dC dI ad CA A ph f m0 n0 (pc + len) s1.1 s1.2.1 s1.2.2.1) : vm_Wx p l e R s m args below meth c cells slots Q dC dI ad CA A ph f m0 n0 pc ls st mem := by
  unfold vm_x at hx
  dsimp only at hx
  unfold vm_tr at htr
  dsimp only at htr
  simp only [Bool.and_eq_true, decide_eq_true_eq, Bool.or_eq_true] at htr
  obtain ⟨⟨rfl, w2⟩, w3⟩ := htr
  have h3 := vm_beq w2
  subst h3
  split at hx
  · rename_i j k r
    split at hx
    · rename_i q r2
      cases hx
      simp only [Bool.true_and, Bool.and_eq_true, decide_eq_true_eq] at hob
      obtain ⟨⟨hk, hj⟩, hs⟩ := hob
      have hs1 : ph = true → mem k j = 1 := fun hp => by
        rw [hp] at hs
        exact of_decide_eq_true hs
      rcases w3 with ⟨⟨w4, w5⟩, w6⟩ | ⟨⟨w4, w5⟩, w6⟩
      · have h4 := vm_beq w4
        have h5 := vm_beq w5
        injection w6 with w6 w7
        subst h4 h5 w6 hk
        exact vm_s_aald C (n := 8) ⟨by decide, by decide⟩ hj hs1 hpre hd K
      · have h4 := vm_beq w4
        have h5 := vm_beq w5
        injection w6 with w6 w7
        subst h4 h5 w6 hk
        exact vm_s_aald C (n := 2) ⟨by decide, by decide⟩ hj hs1 hpre hd K
    · cases hx
  · cases hx
theorem vm_x_aastore (C : vm_Cx p R s m args meth c dC dI ad CA A f d m0 ph n0) {pc len a b : Nat} {t : List (Int × Nat)} {ls : vm_L} {st : List vm_V} {mem : vm_M} {s1 : vm_S} {ins : Instr} (hd : decode (vm_cb f) pc = .ok (ins, len)) (htr : vm_tr (vm_mo f) f pc ins len (.aastore, a, b, t) = true) (hti : vm_hti f (.aastore, a, b, t) = true) (hx : vm_x ph (.aastore, a, b, t) ls st mem true = some s1) (hob : s1.2.2.2 = true) (hpre : vm_pre ph st mem = true) (hlen : ls.length = vm_mx f) (hcs : cells ≤ R.cells ∧ slots ≤ R.slots) (hsg : f = 301 → m0 903 0 ≠ -1) (K : vm_Wx p l e R s m args below meth c cells slots Q dC dI ad CA A ph f m0 n0 (pc + len) s1.1 s1.2.1 s1.2.2.1) : vm_Wx p l e R s m args below meth c cells slots Q dC dI ad CA A ph f m0 n0 pc ls st mem := by
  unfold vm_x at hx
  dsimp only at hx
  unfold vm_tr at htr
  dsimp only at htr
  simp only [Bool.and_eq_true, decide_eq_true_eq, Bool.or_eq_true] at htr
  obtain ⟨⟨rfl, w2⟩, w3⟩ := htr
  have h3 := vm_beq w2
  subst h3
  split at hx
  · rename_i v j k r
    split at hx
    · rename_i q r2
      cases ph with
      | false => cases hx
      | true =>
        cases hx
        simp only [Bool.true_and, Bool.and_eq_true, decide_eq_true_eq] at hob
        obtain ⟨⟨⟨hk, hj⟩, hv⟩, hv4⟩ := hob
        rcases w3 with ⟨⟨w4, w5⟩, w6⟩ | ⟨⟨w4, w5⟩, w6⟩
        · have h4 := vm_beq w4
          have h5 := vm_beq w5
          injection w6 with w6 w7
          subst h4 h5 w6 hk
          exact vm_s_aast C (n := 8) ⟨by decide, by decide⟩ hj hv hv4 hpre hd K
        · have h4 := vm_beq w4
          have h5 := vm_beq w5
          injection w6 with w6 w7
          subst h4 h5 w6 hk
          exact vm_s_aast C (n := 2) ⟨by decide, by decide⟩ hj hv hv4 hpre hd K
    · cases hx
  · cases hx
theorem vm_x_arraylength (C : vm_Cx p R s m args meth c dC dI ad CA A f d m0 ph n0) {pc len a b : Nat} {t : List (Int × Nat)} {ls : vm_L} {st : List vm_V} {mem : vm_M} {s1 : vm_S} {ins : Instr} (hd : decode (vm_cb f) pc = .ok (ins, len)) (htr : vm_tr (vm_mo f) f pc ins len (.arraylength, a, b, t) = true) (hti : vm_hti f (.arraylength, a, b, t) = true) (hx : vm_x ph (.arraylength, a, b, t) ls st mem true = some s1) (hob : s1.2.2.2 = true) (hpre : vm_pre ph st mem = true) (hlen : ls.length = vm_mx f) (hcs : cells ≤ R.cells ∧ slots ≤ R.slots) (hsg : f = 301 → m0 903 0 ≠ -1) (K : vm_Wx p l e R s m args below meth c cells slots Q dC dI ad CA A ph f m0 n0 (pc + len) s1.1 s1.2.1 s1.2.2.1) : vm_Wx p l e R s m args below meth c cells slots Q dC dI ad CA A ph f m0 n0 pc ls st mem := by
  unfold vm_x at hx
  dsimp only at hx
  unfold vm_tr at htr
  dsimp only at htr
  simp only [Bool.and_eq_true, decide_eq_true_eq] at htr
  obtain ⟨⟨rfl, w2⟩, w3⟩ := htr
  have h3 := vm_beq w2
  subst h3
  split at hx
  · rename_i k r
    cases hx
    simp only [Bool.true_and, decide_eq_true_eq] at hob
    subst hob
    exact vm_s_slen C (vm_beq w3) (hsg (vm_beq w3)) hd K
  · cases hx
theorem vm_x_invokestatic (C : vm_Cx p R s m args meth c dC dI ad CA A f d m0 ph n0) {pc len a b : Nat} {t : List (Int × Nat)} {ls : vm_L} {st : List vm_V} {mem : vm_M} {s1 : vm_S} {ins : Instr} {n : Nat} (hd : decode (vm_cb f) pc = .ok (ins, len)) (htr : vm_tr (vm_mo f) f pc ins len (.invokestatic n, a, b, t) = true) (hti : vm_hti f (.invokestatic n, a, b, t) = true) (hx : vm_x ph (.invokestatic n, a, b, t) ls st mem true = some s1) (hob : s1.2.2.2 = true) (hpre : vm_pre ph st mem = true) (hlen : ls.length = vm_mx f) (hcs : cells ≤ R.cells ∧ slots ≤ R.slots) (hsg : f = 301 → m0 903 0 ≠ -1) (K : vm_Wx p l e R s m args below meth c cells slots Q dC dI ad CA A ph f m0 n0 (pc + len) s1.1 s1.2.1 s1.2.2.1) : vm_Wx p l e R s m args below meth c cells slots Q dC dI ad CA A ph f m0 n0 pc ls st mem := by
  unfold vm_x at hx
  dsimp only at hx
  unfold vm_tr at htr
  dsimp only at htr
  unfold vm_hti at hti
  dsimp only at hti
  split at htr
  · rename_i idx
    simp only [Bool.and_eq_true] at htr
    obtain ⟨w2, w3⟩ := htr
    have h3 := vm_beq w2
    subst h3
    split at hx
    · cases hx
      simp only [Bool.true_and, Bool.and_eq_true, decide_eq_true_eq] at hob
      exact vm_s_max C hob (Nat.le_of_ble_eq_true hti) hcs (vm_hasB_in w3) hd K
    · cases hx
      simp only [Bool.true_and, Bool.and_eq_true, decide_eq_true_eq] at hob
      exact vm_s_min C hob (Nat.le_of_ble_eq_true hti) hcs (vm_hasB_in w3) hd K
    · cases hx
      simp only [Bool.true_and, Bool.and_eq_true, decide_eq_true_eq] at hob
      exact vm_s_abs C hob.1 hob.2 (Nat.le_of_ble_eq_true hti) hcs (vm_hasB_in w3) hd K
    · cases hx
      simp only [Bool.true_and, Bool.and_eq_true, decide_eq_true_eq] at hob
      exact vm_s_copy C hob.1.1.1 (Nat.le_of_ble_eq_true hti) hob.1.1.2 hob.1.2 hob.2 hpre (vm_hasB_in w3) hd K
    · cases hx
  · cases htr
theorem vm_x_invokevirtual (C : vm_Cx p R s m args meth c dC dI ad CA A f d m0 ph n0) {pc len a b : Nat} {t : List (Int × Nat)} {ls : vm_L} {st : List vm_V} {mem : vm_M} {s1 : vm_S} {ins : Instr} {n : Nat} (hd : decode (vm_cb f) pc = .ok (ins, len)) (htr : vm_tr (vm_mo f) f pc ins len (.invokevirtual n, a, b, t) = true) (hti : vm_hti f (.invokevirtual n, a, b, t) = true) (hx : vm_x ph (.invokevirtual n, a, b, t) ls st mem true = some s1) (hob : s1.2.2.2 = true) (hpre : vm_pre ph st mem = true) (hlen : ls.length = vm_mx f) (hcs : cells ≤ R.cells ∧ slots ≤ R.slots) (hsg : f = 301 → m0 903 0 ≠ -1) (K : vm_Wx p l e R s m args below meth c cells slots Q dC dI ad CA A ph f m0 n0 (pc + len) s1.1 s1.2.1 s1.2.2.1) : vm_Wx p l e R s m args below meth c cells slots Q dC dI ad CA A ph f m0 n0 pc ls st mem := by
  unfold vm_x at hx
  dsimp only at hx
  unfold vm_tr at htr
  dsimp only at htr
  unfold vm_hti at hti
  dsimp only at hti
  split at htr
  · rename_i idx
    simp only [Bool.and_eq_true] at htr
    obtain ⟨w2, w3⟩ := htr
    have h3 := vm_beq w2
    subst h3
    split at hx
    · cases hx
      simp only [Bool.true_and, Bool.and_eq_true, decide_eq_true_eq] at hob
      exact vm_s_len C hob.1 (Nat.le_of_ble_eq_true hti) hcs hob.2 (vm_hasB_in w3) hd K
    · cases hx
      simp only [Bool.true_and, Bool.and_eq_true, decide_eq_true_eq] at hob
      exact vm_s_chr C hob.1.1 (Nat.le_of_ble_eq_true hti) hcs hob.1.2 hob.2 (vm_hasB_in w3) hd K
    · cases hx
  · cases htr
theorem vm_x_invokespecial (C : vm_Cx p R s m args meth c dC dI ad CA A f d m0 ph n0) {pc len a b : Nat} {t : List (Int × Nat)} {ls : vm_L} {st : List vm_V} {mem : vm_M} {s1 : vm_S} {ins : Instr} {n : Nat} (hd : decode (vm_cb f) pc = .ok (ins, len)) (htr : vm_tr (vm_mo f) f pc ins len (.invokespecial n, a, b, t) = true) (hti : vm_hti f (.invokespecial n, a, b, t) = true) (hx : vm_x ph (.invokespecial n, a, b, t) ls st mem true = some s1) (hob : s1.2.2.2 = true) (hpre : vm_pre ph st mem = true) (hlen : ls.length = vm_mx f) (hcs : cells ≤ R.cells ∧ slots ≤ R.slots) (hsg : f = 301 → m0 903 0 ≠ -1) (K : vm_Wx p l e R s m args below meth c cells slots Q dC dI ad CA A ph f m0 n0 (pc + len) s1.1 s1.2.1 s1.2.2.1) : vm_Wx p l e R s m args below meth c cells slots Q dC dI ad CA A ph f m0 n0 pc ls st mem := by
  unfold vm_x at hx
  dsimp only at hx
  unfold vm_tr at htr
  dsimp only at htr
  unfold vm_hti at hti
  dsimp only at hti
  split at htr
  · rename_i idx
    simp only [Bool.and_eq_true] at htr
    obtain ⟨w2, w3⟩ := htr
    have h3 := vm_beq w2
    subst h3
    split at hx
    · cases hx
      simp only [Bool.true_and, Bool.and_eq_true, decide_eq_true_eq] at hob
      exact vm_s_obj C hob.1 (Nat.le_of_ble_eq_true hti) (vm_hasB_in w3) hd K
    · cases hx
  · cases htr
theorem vm_s_x (C : vm_Cx p R s m args meth c dC dI ad CA A f d m0 ph n0) {pc len : Nat} {i : vm_I} {ls : vm_L} {st : List vm_V} {mem : vm_M} {s1 : vm_S} (hi : vm_at f pc = some (i, len)) (hx : vm_x ph i ls st mem true = some s1) (hob : s1.2.2.2 = true) (hpre : vm_pre ph st mem = true) (hlen : ls.length = vm_mx f) (hcs : cells ≤ R.cells ∧ slots ≤ R.slots) (hsg : f = 301 → m0 903 0 ≠ -1) (K : vm_Wx p l e R s m args below meth c cells slots Q dC dI ad CA A ph f m0 n0 (pc + len) s1.1 s1.2.1 s1.2.2.1) : vm_Wx p l e R s m args below meth c cells slots Q dC dI ad CA A ph f m0 n0 pc ls st mem := by
  have hf : vm_pr f = true := C.2.2.2.2.2.2.2.2.1
  obtain ⟨ins, hd, htr⟩ := vm_dec hf hi
  have hti := vm_hti_at hf hi
  obtain ⟨kd, a, b, t⟩ := i
  cases kd with
  | iconst n => exact vm_x_iconst C hd htr hti hx hob hpre hlen hcs hsg K
  | ldc2_w n => exact vm_x_ldc2 C hd htr hti hx hob hpre hlen hcs hsg K
  | fconst n => exact vm_x_fconst C hd htr hti hx hob hpre hlen hcs hsg K
  | dconst n => exact vm_x_dconst C hd htr hti hx hob hpre hlen hcs hsg K
  | ldc n => exact vm_x_ldc C hd htr hti hx hob hpre hlen hcs hsg K
  | getstatic n => exact vm_x_getstatic C hd htr hti hx hob hpre hlen hcs hsg K
  | iload k => exact vm_x_iload C hd htr hti hx hob hpre hlen hcs hsg K
  | lload k => exact vm_x_lload C hd htr hti hx hob hpre hlen hcs hsg K
  | aload k => exact vm_x_aload C hd htr hti hx hob hpre hlen hcs hsg K
  | dload k => exact vm_x_dload C hd htr hti hx hob hpre hlen hcs hsg K
  | istore k => exact vm_x_istore C hd htr hti hx hob hpre hlen hcs hsg K
  | astore k => exact vm_x_astore C hd htr hti hx hob hpre hlen hcs hsg K
  | lstore k => exact vm_x_lstore C hd htr hti hx hob hpre hlen hcs hsg K
  | dstore k => exact vm_x_dstore C hd htr hti hx hob hpre hlen hcs hsg K
  | iinc k n => exact vm_x_iinc C hd htr hti hx hob hpre hlen hcs hsg K
  | iadd => exact vm_x_iadd C hd htr hti hx hob hpre hlen hcs hsg K
  | isub => exact vm_x_isub C hd htr hti hx hob hpre hlen hcs hsg K
  | imul => exact vm_x_imul C hd htr hti hx hob hpre hlen hcs hsg K
  | idiv => exact vm_x_idiv C hd htr hti hx hob hpre hlen hcs hsg K
  | irem => exact vm_x_irem C hd htr hti hx hob hpre hlen hcs hsg K
  | ineg => exact vm_x_ineg C hd htr hti hx hob hpre hlen hcs hsg K
  | ishl => exact vm_x_ishl C hd htr hti hx hob hpre hlen hcs hsg K
  | ishr => exact vm_x_ishr C hd htr hti hx hob hpre hlen hcs hsg K
  | iushr => exact vm_x_iushr C hd htr hti hx hob hpre hlen hcs hsg K
  | iand => exact vm_x_iand C hd htr hti hx hob hpre hlen hcs hsg K
  | ior => exact vm_x_ior C hd htr hti hx hob hpre hlen hcs hsg K
  | ladd => exact vm_x_ladd C hd htr hti hx hob hpre hlen hcs hsg K
  | lsub => exact vm_x_lsub C hd htr hti hx hob hpre hlen hcs hsg K
  | lmul => exact vm_x_lmul C hd htr hti hx hob hpre hlen hcs hsg K
  | land => exact vm_x_land C hd htr hti hx hob hpre hlen hcs hsg K
  | lshr => exact vm_x_lshr C hd htr hti hx hob hpre hlen hcs hsg K
  | lcmp => exact vm_x_lcmp C hd htr hti hx hob hpre hlen hcs hsg K
  | i2l => exact vm_x_i2l C hd htr hti hx hob hpre hlen hcs hsg K
  | l2i => exact vm_x_l2i C hd htr hti hx hob hpre hlen hcs hsg K
  | i2b => exact vm_x_i2b C hd htr hti hx hob hpre hlen hcs hsg K
  | i2f => exact vm_x_i2f C hd htr hti hx hob hpre hlen hcs hsg K
  | i2d => exact vm_x_i2d C hd htr hti hx hob hpre hlen hcs hsg K
  | f2d => exact vm_x_f2d C hd htr hti hx hob hpre hlen hcs hsg K
  | fdiv => exact vm_x_fdiv C hd htr hti hx hob hpre hlen hcs hsg K
  | ddiv => exact vm_x_ddiv C hd htr hti hx hob hpre hlen hcs hsg K
  | dcmp op => exact vm_x_dcmp C hd htr hti hx hob hpre hlen hcs hsg K
  | dup => exact vm_x_dup C hd htr hti hx hob hpre hlen hcs hsg K
  | dup2 => exact vm_x_dup2 C hd htr hti hx hob hpre hlen hcs hsg K
  | getfield n => exact vm_x_getfield C hd htr hti hx hob hpre hlen hcs hsg K
  | putfield n => exact vm_x_putfield C hd htr hti hx hob hpre hlen hcs hsg K
  | iaload => exact vm_x_iaload C hd htr hti hx hob hpre hlen hcs hsg K
  | baload => exact vm_x_baload C hd htr hti hx hob hpre hlen hcs hsg K
  | laload => exact vm_x_laload C hd htr hti hx hob hpre hlen hcs hsg K
  | aaload => exact vm_x_aaload C hd htr hti hx hob hpre hlen hcs hsg K
  | iastore => exact vm_x_iastore C hd htr hti hx hob hpre hlen hcs hsg K
  | bastore => exact vm_x_bastore C hd htr hti hx hob hpre hlen hcs hsg K
  | lastore => exact vm_x_lastore C hd htr hti hx hob hpre hlen hcs hsg K
  | aastore => exact vm_x_aastore C hd htr hti hx hob hpre hlen hcs hsg K
  | arraylength => exact vm_x_arraylength C hd htr hti hx hob hpre hlen hcs hsg K
  | invokestatic n => exact vm_x_invokestatic C hd htr hti hx hob hpre hlen hcs hsg K
  | invokevirtual n => exact vm_x_invokevirtual C hd htr hti hx hob hpre hlen hcs hsg K
  | invokespecial n => exact vm_x_invokespecial C hd htr hti hx hob hpre hlen hcs hsg K
  | _ => exact absurd hx (fun h => by cases h)
end VMS8
