/-! ===== STEPS: what the machine of numbers does in a step, the machine does ===== -/
def vm_tys (CA : Nat → ClassId) : List (ClassId × FieldType) := [(CA 100, .int), (CA 101, .byte), (CA 102, .boolean), (CA 103, .int), (CA 104, .object (vm_cn 4))]
/-- words that calls don't carry -/
def vm_NW : List Cond := vm_nlL.map (fun e => vm_wdN (e.1, e.2.1, e.2.2.1)) ++ (vm_stL.filter (fun e => !Nat.beq e.1 10)).map (fun e => vm_wdT (e.1, e.2.1, e.2.2.1)) ++ [Cond.arrayOver (.object (vm_cn 4))]
/-- a text: an object of the library's class String over a row of bytes -/
def vm_Tx (ad : Nat → Nat) (A : Nat → Prop) (U : State) (H : Heap) (k : Nat) : Prop := va_O "java/lang/String" (ad (1000 + k)) A U H ∧ ∃ b : Nat, va_OF "java/lang/String" "value" "[B" (.ref b) (ad (1000 + k)) A U H ∧ va_OF "java/lang/String" "coder" "B" (.int 0) (ad (1000 + k)) A U H ∧ va_T .byte b (vm_strL.getD k []).length (fun j => .int (Int32.ofInt ((vm_strL.getD k []).getD j 0))) A U H
/-- what lies outside: static arrays, texts, words -/
def vm_Ext (ad : Nat → Nat) (A : Nat → Prop) (m0 : vm_M) (U : State) (H : Heap) : Prop :=
  va_T .int (ad 900) 6 (fun j => .int (Int32.ofInt (m0 900 (j : Nat)))) A U H ∧ va_T .int (ad 901) 6 (fun j => .int (Int32.ofInt (m0 901 (j : Nat)))) A U H
  ∧ va_Z "BoardLetters" "LEAST_NUMBER" "[I" (.ref (ad 900)) A U H ∧ va_Z "BoardLetters" "MOST_NUMBER" "[I" (.ref (ad 901)) A U H
  ∧ (∀ w ∈ vm_NW, va_Nw w U) ∧ (∀ e ∈ vm_slL, vk_R (vm_cn e.1) e.2.1 (vm_tx e.2.2) (ad (1000 + e.2.2)) U)
  ∧ (∀ k, k < vm_sN → vm_Tx ad A U H k) ∧ va_Z "java/lang/String" "COMPACT_STRINGS" "Z" (.int 1) A U H ∧ va_Zq "jdk/internal/util/Preconditions" "SIOOBE_FORMATTER" "Ljava/util/function/BiFunction;" A U H
/-- the places of the memory that no step writes -/
def vm_ox (m0 m : vm_M) : Prop := ∀ k, 900 ≤ k → k < 990 → m k = m0 k
def vm_n (ph : Bool) (m : vm_M) : Nat := bif ph then (m 990 0).toNat else vm_N
def vm_htok (f : Nat) : Bool := (vm_code.getD f []).all (fun q => match q.2.2.1 with
  | .invokevirtual _ => (bif Nat.blt q.2.2.2.1 1000 then Nat.blt (vm_ht q.2.2.2.1) (vm_ht f) else Nat.ble (bif Nat.beq q.2.2.2.1 1004 then 2 else 4) (vm_ht f))
  | .invokestatic _ => (bif Nat.blt q.2.2.2.1 1000 then Nat.blt (vm_ht q.2.2.2.1) (vm_ht f) else Nat.ble 1 (vm_ht f))
  | .invokespecial _ => (bif Nat.blt q.2.2.2.1 1000 then Nat.blt (vm_ht q.2.2.2.1) (vm_ht f) else Nat.ble 1 (vm_ht f))
  | _ => true)
theorem vm_htok_all : (List.range 163).all vm_htok = true := by decide +kernel
section VMS
variable {p : Program} {l : Launch} {e : Env} {R : Room} {s : State} {m : MethodId} {args : Array Value} {below : List Frame} {meth : Method} {c : Code} {cells slots : Nat} {Q : State → Prop}
variable {dC : Nat → ClassId} {dI : Nat → Nat → Nat} {ad : Nat → Nat} {CA : Nat → ClassId} {A : Nat → Prop} {ph : Bool} {f d : Nat} {m0 : vm_M} {n0 : Nat}
/-- what stays while a method runs -/
def vm_Cx (p : Program) (R : Room) (s : State) (m : MethodId) (args : Array Value) (meth : Method) (c : Code) (dC : Nat → ClassId) (dI : Nat → Nat → Nat) (ad : Nat → Nat) (CA : Nat → ClassId) (A : Nat → Prop) (f d : Nat) (m0 : vm_M) (ph : Bool) (n0 : Nat) : Prop :=
  p.tables.exec = Jvm.exec ∧ c.code = vm_cb f ∧ c.maxLocals = vm_mx f ∧ s.vm.findClass (vm_cn (vm_mo f)) = some m.cls ∧ (∀ w ∈ vm_W, w.before args s = true) ∧ va_K (dC, dI) vm_cls (vm_tys CA) s ∧ (∀ q, s.heap.size ≤ q → A q) ∧ vm_Ext ad A m0 s s.heap ∧ vm_pr f = true ∧ (vm_pr f = true → meth.name = (vm_mt f).1) ∧ d ≤ R.frames ∧ 30 * d + 60 ≤ R.locals ∧ vm_ht f ≤ d ∧ (f = 301 → m0 903 0 ≠ -1 → ∃ L : Nat, va_X (ad 902) L (fun j => Int32.ofInt (m0 902 (j : Nat))) s s.heap ∧ ad 902 < s.heap.size ∧ ¬ A (ad 902) ∧ m0 903 0 = (L : Int) ∧ L ≤ 2147483647) ∧ meth.sig.returnType = vm_ret f ∧ meth.locks = false ∧ (ph = true → ∀ k, k < 900 → ad k + n0 = k + s.heap.size)
/-- the cells hold the memory -/
def vm_At (s : State) (dC : Nat → ClassId) (dI : Nat → Nat → Nat) (ad : Nat → Nat) (CA : Nat → ClassId) (A : Nat → Prop) (ph : Bool) (mem : vm_M) (cells n0 : Nat) (H : Heap) (locs : List Loc) : Prop :=
  va_P (dC, dI) vm_cls (vm_ws ad CA ph mem (vm_n ph mem)) H ∧ va_D A (vm_ws ad CA ph mem (vm_n ph mem)) ∧ va_S A s.heap H locs ∧ (ph = true → cells + n0 = vm_n ph mem ∧ 0 ≤ mem 990 0 ∧ mem 990 0 ≤ 96)
/-- from this state of the machine of numbers on, the machine comes to Q -/
def vm_Wx (p : Program) (l : Launch) (e : Env) (R : Room) (s : State) (m : MethodId) (args : Array Value) (below : List Frame) (meth : Method) (c : Code) (cells slots : Nat) (Q : State → Prop) (dC : Nat → ClassId) (dI : Nat → Nat → Nat) (ad : Nat → Nat) (CA : Nat → ClassId) (A : Nat → Prop) (ph : Bool) (f : Nat) (m0 : vm_M) (n0 : Nat) (pc : Nat) (ls : vm_L) (st : List vm_V) (mem : vm_M) : Prop :=
  ∀ (H : Heap) (locs : List Loc) (lsa : Array Slot), vm_At s dC dI ad CA A ph mem cells n0 H locs → vm_ol ls → vm_os st → vm_om mem → vm_ox m0 mem → lv_has lsa (vm_mx f) (vm_lv ad 0 ls) → W p l e R s m args below meth c H locs cells slots Q (F0 m pc lsa (st.map (vm_v ad)))
theorem vm_s_iconst (C : vm_Cx p R s m args meth c dC dI ad CA A f d m0 ph n0) {pc : Nat} {ls : vm_L} {mem : vm_M} {n : Int} {r : List vm_V} (h32 : vm_32 n) (hd : decode (vm_cb f) pc = .ok (.iconst n, 1)) (K : vm_Wx p l e R s m args below meth c cells slots Q dC dI ad CA A ph f m0 n0 (pc + 1) ls (vm_i n :: r) mem) : vm_Wx p l e R s m args below meth c cells slots Q dC dI ad CA A ph f m0 n0 pc ls r mem := by
  intro H locs lsa hat hol hos hom hox hl
  exact lv_iconst C.1 C.2.1 hd rfl (K H locs lsa hat hol (hos.c h32) hom hox hl)
theorem vm_s_bipush (C : vm_Cx p R s m args meth c dC dI ad CA A f d m0 ph n0) {pc : Nat} {ls : vm_L} {mem : vm_M} {n n1 : Int} {r : List vm_V} (h32 : vm_32 n) (he : (Int8.ofInt n1).toInt32 = Int32.ofInt n) (hd : decode (vm_cb f) pc = .ok (.bipush n1, 2)) (K : vm_Wx p l e R s m args below meth c cells slots Q dC dI ad CA A ph f m0 n0 (pc + 2) ls (vm_i n :: r) mem) : vm_Wx p l e R s m args below meth c cells slots Q dC dI ad CA A ph f m0 n0 pc ls r mem := by
  intro H locs lsa hat hol hos hom hox hl
  exact lv_bipush C.1 C.2.1 hd he (K H locs lsa hat hol (hos.c h32) hom hox hl)
theorem vm_s_sipush (C : vm_Cx p R s m args meth c dC dI ad CA A f d m0 ph n0) {pc : Nat} {ls : vm_L} {mem : vm_M} {n n1 : Int} {r : List vm_V} (h32 : vm_32 n) (he : (Int16.ofInt n1).toInt32 = Int32.ofInt n) (hd : decode (vm_cb f) pc = .ok (.sipush n1, 3)) (K : vm_Wx p l e R s m args below meth c cells slots Q dC dI ad CA A ph f m0 n0 (pc + 3) ls (vm_i n :: r) mem) : vm_Wx p l e R s m args below meth c cells slots Q dC dI ad CA A ph f m0 n0 pc ls r mem := by
  intro H locs lsa hat hol hos hom hox hl
  exact lv_sipush C.1 C.2.1 hd he (K H locs lsa hat hol (hos.c h32) hom hox hl)
theorem vm_s_lconst (C : vm_Cx p R s m args meth c dC dI ad CA A f d m0 ph n0) {pc : Nat} {ls : vm_L} {mem : vm_M} {n : Int} {k : Fin 2} {r : List vm_V} (h64 : vm_64 n) (he : Int64.ofNat (k : Nat) = Int64.ofInt n) (hd : decode (vm_cb f) pc = .ok (.lconst k, 1)) (K : vm_Wx p l e R s m args below meth c cells slots Q dC dI ad CA A ph f m0 n0 (pc + 1) ls (vm_l n :: r) mem) : vm_Wx p l e R s m args below meth c cells slots Q dC dI ad CA A ph f m0 n0 pc ls r mem := by
  intro H locs lsa hat hol hos hom hox hl
  exact lv_lconst C.1 C.2.1 hd he (K H locs lsa hat hol (hos.c h64) hom hox hl)
theorem vm_s_ldc2 (C : vm_Cx p R s m args meth c dC dI ad CA A f d m0 ph n0) {pc : Nat} {ls : vm_L} {mem : vm_M} {n : Int} {idx : Nat} {r : List vm_V} (h64 : vm_64 n) (hw : Cond.constantLong (vm_cn (vm_mo f)) idx (Int64.ofInt n) ∈ vm_W) (hd : decode (vm_cb f) pc = .ok (.ldc2_w idx, 3)) (K : vm_Wx p l e R s m args below meth c cells slots Q dC dI ad CA A ph f m0 n0 (pc + 3) ls (vm_l n :: r) mem) : vm_Wx p l e R s m args below meth c cells slots Q dC dI ad CA A ph f m0 n0 pc ls r mem := by
  intro H locs lsa hat hol hos hom hox hl
  exact lv_ldc2 C.1 C.2.1 C.2.2.2.1 (C.2.2.2.2.1 _ hw) hd (K H locs lsa hat hol (hos.c h64) hom hox hl)
theorem vm_s_iload (C : vm_Cx p R s m args meth c dC dI ad CA A f d m0 ph n0) {pc : Nat} {ls : vm_L} {mem : vm_M} {k : Nat} {z : Int} {r : List vm_V} (hg : vm_gl ls k = some (vm_i z)) (hd : decode (vm_cb f) pc = .ok (.iload k, 2)) (K : vm_Wx p l e R s m args below meth c cells slots Q dC dI ad CA A ph f m0 n0 (pc + 2) ls (vm_i z :: r) mem) : vm_Wx p l e R s m args below meth c cells slots Q dC dI ad CA A ph f m0 n0 pc ls r mem := by
  intro H locs lsa hat hol hos hom hox hl
  exact lv_iload C.1 C.2.1 hd (vm_lv_at hl hg) (K H locs lsa hat hol (hos.c (hol _ _ hg)) hom hox hl)
theorem vm_s_iload_n (C : vm_Cx p R s m args meth c dC dI ad CA A f d m0 ph n0) {pc : Nat} {ls : vm_L} {mem : vm_M} {k : Nat} {j : Fin 4} {z : Int} {r : List vm_V} (hj : (j : Nat) = k) (hg : vm_gl ls k = some (vm_i z)) (hd : decode (vm_cb f) pc = .ok (.iload_n j, 1)) (K : vm_Wx p l e R s m args below meth c cells slots Q dC dI ad CA A ph f m0 n0 (pc + 1) ls (vm_i z :: r) mem) : vm_Wx p l e R s m args below meth c cells slots Q dC dI ad CA A ph f m0 n0 pc ls r mem := by
  intro H locs lsa hat hol hos hom hox hl
  exact lv_iload_n C.1 C.2.1 hd hj (vm_lv_at hl hg) (K H locs lsa hat hol (hos.c (hol _ _ hg)) hom hox hl)
theorem vm_s_lload (C : vm_Cx p R s m args meth c dC dI ad CA A f d m0 ph n0) {pc : Nat} {ls : vm_L} {mem : vm_M} {k : Nat} {z : Int} {r : List vm_V} (hg : vm_gl ls k = some (vm_l z)) (hd : decode (vm_cb f) pc = .ok (.lload k, 2)) (K : vm_Wx p l e R s m args below meth c cells slots Q dC dI ad CA A ph f m0 n0 (pc + 2) ls (vm_l z :: r) mem) : vm_Wx p l e R s m args below meth c cells slots Q dC dI ad CA A ph f m0 n0 pc ls r mem := by
  intro H locs lsa hat hol hos hom hox hl
  exact lv_lload C.1 C.2.1 hd (vm_lv_at hl hg) (K H locs lsa hat hol (hos.c (hol _ _ hg)) hom hox hl)
theorem vm_s_lload_n (C : vm_Cx p R s m args meth c dC dI ad CA A f d m0 ph n0) {pc : Nat} {ls : vm_L} {mem : vm_M} {k : Nat} {j : Fin 4} {z : Int} {r : List vm_V} (hj : (j : Nat) = k) (hg : vm_gl ls k = some (vm_l z)) (hd : decode (vm_cb f) pc = .ok (.lload_n j, 1)) (K : vm_Wx p l e R s m args below meth c cells slots Q dC dI ad CA A ph f m0 n0 (pc + 1) ls (vm_l z :: r) mem) : vm_Wx p l e R s m args below meth c cells slots Q dC dI ad CA A ph f m0 n0 pc ls r mem := by
  intro H locs lsa hat hol hos hom hox hl
  exact lv_lload_n C.1 C.2.1 hd hj (vm_lv_at hl hg) (K H locs lsa hat hol (hos.c (hol _ _ hg)) hom hox hl)
theorem vm_s_aload (C : vm_Cx p R s m args meth c dC dI ad CA A f d m0 ph n0) {pc : Nat} {ls : vm_L} {mem : vm_M} {k : Nat} {z : Nat} {r : List vm_V} (hg : vm_gl ls k = some (vm_r z)) (hd : decode (vm_cb f) pc = .ok (.aload k, 2)) (K : vm_Wx p l e R s m args below meth c cells slots Q dC dI ad CA A ph f m0 n0 (pc + 2) ls (vm_r z :: r) mem) : vm_Wx p l e R s m args below meth c cells slots Q dC dI ad CA A ph f m0 n0 pc ls r mem := by
  intro H locs lsa hat hol hos hom hox hl
  exact lv_aload C.1 C.2.1 hd (vm_lv_at hl hg) (K H locs lsa hat hol (hos.c (hol _ _ hg)) hom hox hl)
theorem vm_s_aload_n (C : vm_Cx p R s m args meth c dC dI ad CA A f d m0 ph n0) {pc : Nat} {ls : vm_L} {mem : vm_M} {k : Nat} {j : Fin 4} {z : Nat} {r : List vm_V} (hj : (j : Nat) = k) (hg : vm_gl ls k = some (vm_r z)) (hd : decode (vm_cb f) pc = .ok (.aload_n j, 1)) (K : vm_Wx p l e R s m args below meth c cells slots Q dC dI ad CA A ph f m0 n0 (pc + 1) ls (vm_r z :: r) mem) : vm_Wx p l e R s m args below meth c cells slots Q dC dI ad CA A ph f m0 n0 pc ls r mem := by
  intro H locs lsa hat hol hos hom hox hl
  exact lv_aload_n C.1 C.2.1 hd hj (vm_lv_at hl hg) (K H locs lsa hat hol (hos.c (hol _ _ hg)) hom hox hl)
theorem vm_s_dload (C : vm_Cx p R s m args meth c dC dI ad CA A f d m0 ph n0) {pc : Nat} {ls : vm_L} {mem : vm_M} {k : Nat} {z : UInt64} {r : List vm_V} (hg : vm_gl ls k = some (vm_d z)) (hd : decode (vm_cb f) pc = .ok (.dload k, 2)) (K : vm_Wx p l e R s m args below meth c cells slots Q dC dI ad CA A ph f m0 n0 (pc + 2) ls (vm_d z :: r) mem) : vm_Wx p l e R s m args below meth c cells slots Q dC dI ad CA A ph f m0 n0 pc ls r mem := by
  intro H locs lsa hat hol hos hom hox hl
  exact lv_dload C.1 C.2.1 hd (vm_lv_at hl hg) (K H locs lsa hat hol (hos.c (hol _ _ hg)) hom hox hl)
theorem vm_s_dload_n (C : vm_Cx p R s m args meth c dC dI ad CA A f d m0 ph n0) {pc : Nat} {ls : vm_L} {mem : vm_M} {k : Nat} {j : Fin 4} {z : UInt64} {r : List vm_V} (hj : (j : Nat) = k) (hg : vm_gl ls k = some (vm_d z)) (hd : decode (vm_cb f) pc = .ok (.dload_n j, 1)) (K : vm_Wx p l e R s m args below meth c cells slots Q dC dI ad CA A ph f m0 n0 (pc + 1) ls (vm_d z :: r) mem) : vm_Wx p l e R s m args below meth c cells slots Q dC dI ad CA A ph f m0 n0 pc ls r mem := by
  intro H locs lsa hat hol hos hom hox hl
  exact lv_dload_n C.1 C.2.1 hd hj (vm_lv_at hl hg) (K H locs lsa hat hol (hos.c (hol _ _ hg)) hom hox hl)
theorem vm_s_istore (C : vm_Cx p R s m args meth c dC dI ad CA A f d m0 ph n0) {pc : Nat} {ls : vm_L} {mem : vm_M} {k : Nat} {z : Int} {r : List vm_V} {l1 : vm_L} (hs : vm_s1 ls k (vm_i z) = some l1) (hlen : ls.length = vm_mx f) (hd : decode (vm_cb f) pc = .ok (.istore k, 2)) (K : vm_Wx p l e R s m args below meth c cells slots Q dC dI ad CA A ph f m0 n0 (pc + 2) l1 r mem) : vm_Wx p l e R s m args below meth c cells slots Q dC dI ad CA A ph f m0 n0 pc ls (vm_i z :: r) mem := by
  intro H locs lsa hat hol hos hom hox hl
  exact lv_istore C.1 C.2.1 hd hl (by have := (vm_s1_some hs).2.1; omega) rfl (fun ls1 hl1 => K H locs ls1 hat (hol.s1 hs hos.h) hos.t hom hox (vm_lv_s1 hs hl1))
theorem vm_s_istore_n (C : vm_Cx p R s m args meth c dC dI ad CA A f d m0 ph n0) {pc : Nat} {ls : vm_L} {mem : vm_M} {k : Nat} {z : Int} {r : List vm_V} {l1 : vm_L} {j : Fin 4} (hj : (j : Nat) = k) (hs : vm_s1 ls k (vm_i z) = some l1) (hlen : ls.length = vm_mx f) (hd : decode (vm_cb f) pc = .ok (.istore_n j, 1)) (K : vm_Wx p l e R s m args below meth c cells slots Q dC dI ad CA A ph f m0 n0 (pc + 1) l1 r mem) : vm_Wx p l e R s m args below meth c cells slots Q dC dI ad CA A ph f m0 n0 pc ls (vm_i z :: r) mem := by
  intro H locs lsa hat hol hos hom hox hl
  exact lv_istore_n C.1 C.2.1 hd hj hl (by have := (vm_s1_some hs).2.1; omega) rfl (fun ls1 hl1 => K H locs ls1 hat (hol.s1 hs hos.h) hos.t hom hox (vm_lv_s1 hs hl1))
theorem vm_s_lstore (C : vm_Cx p R s m args meth c dC dI ad CA A f d m0 ph n0) {pc : Nat} {ls : vm_L} {mem : vm_M} {k : Nat} {z : Int} {r : List vm_V} {l1 : vm_L} (hs : vm_s2 ls k (vm_l z) = some l1) (hlen : ls.length = vm_mx f) (hd : decode (vm_cb f) pc = .ok (.lstore k, 2)) (K : vm_Wx p l e R s m args below meth c cells slots Q dC dI ad CA A ph f m0 n0 (pc + 2) l1 r mem) : vm_Wx p l e R s m args below meth c cells slots Q dC dI ad CA A ph f m0 n0 pc ls (vm_l z :: r) mem := by
  intro H locs lsa hat hol hos hom hox hl
  exact lv_lstore C.1 C.2.1 hd hl (by have := (vm_s2_some hs).2.1; omega) rfl (fun ls1 hl1 => K H locs ls1 hat (hol.s2 hs hos.h) hos.t hom hox (vm_lv_s2 hs hl1))
theorem vm_s_lstore_n (C : vm_Cx p R s m args meth c dC dI ad CA A f d m0 ph n0) {pc : Nat} {ls : vm_L} {mem : vm_M} {k : Nat} {z : Int} {r : List vm_V} {l1 : vm_L} {j : Fin 4} (hj : (j : Nat) = k) (hs : vm_s2 ls k (vm_l z) = some l1) (hlen : ls.length = vm_mx f) (hd : decode (vm_cb f) pc = .ok (.lstore_n j, 1)) (K : vm_Wx p l e R s m args below meth c cells slots Q dC dI ad CA A ph f m0 n0 (pc + 1) l1 r mem) : vm_Wx p l e R s m args below meth c cells slots Q dC dI ad CA A ph f m0 n0 pc ls (vm_l z :: r) mem := by
  intro H locs lsa hat hol hos hom hox hl
  exact lv_lstore_n C.1 C.2.1 hd hj hl (by have := (vm_s2_some hs).2.1; omega) rfl (fun ls1 hl1 => K H locs ls1 hat (hol.s2 hs hos.h) hos.t hom hox (vm_lv_s2 hs hl1))
theorem vm_s_astore (C : vm_Cx p R s m args meth c dC dI ad CA A f d m0 ph n0) {pc : Nat} {ls : vm_L} {mem : vm_M} {k : Nat} {z : Nat} {r : List vm_V} {l1 : vm_L} (hs : vm_s1 ls k (vm_r z) = some l1) (hlen : ls.length = vm_mx f) (hd : decode (vm_cb f) pc = .ok (.astore k, 2)) (K : vm_Wx p l e R s m args below meth c cells slots Q dC dI ad CA A ph f m0 n0 (pc + 2) l1 r mem) : vm_Wx p l e R s m args below meth c cells slots Q dC dI ad CA A ph f m0 n0 pc ls (vm_r z :: r) mem := by
  intro H locs lsa hat hol hos hom hox hl
  exact lv_astore C.1 C.2.1 hd hl (by have := (vm_s1_some hs).2.1; omega) rfl (fun ls1 hl1 => K H locs ls1 hat (hol.s1 hs hos.h) hos.t hom hox (vm_lv_s1 hs hl1))
theorem vm_s_astore_n (C : vm_Cx p R s m args meth c dC dI ad CA A f d m0 ph n0) {pc : Nat} {ls : vm_L} {mem : vm_M} {k : Nat} {z : Nat} {r : List vm_V} {l1 : vm_L} {j : Fin 4} (hj : (j : Nat) = k) (hs : vm_s1 ls k (vm_r z) = some l1) (hlen : ls.length = vm_mx f) (hd : decode (vm_cb f) pc = .ok (.astore_n j, 1)) (K : vm_Wx p l e R s m args below meth c cells slots Q dC dI ad CA A ph f m0 n0 (pc + 1) l1 r mem) : vm_Wx p l e R s m args below meth c cells slots Q dC dI ad CA A ph f m0 n0 pc ls (vm_r z :: r) mem := by
  intro H locs lsa hat hol hos hom hox hl
  exact lv_astore_n C.1 C.2.1 hd hj hl (by have := (vm_s1_some hs).2.1; omega) rfl (fun ls1 hl1 => K H locs ls1 hat (hol.s1 hs hos.h) hos.t hom hox (vm_lv_s1 hs hl1))
theorem vm_s_dstore (C : vm_Cx p R s m args meth c dC dI ad CA A f d m0 ph n0) {pc : Nat} {ls : vm_L} {mem : vm_M} {k : Nat} {z : UInt64} {r : List vm_V} {l1 : vm_L} (hs : vm_s2 ls k (vm_d z) = some l1) (hlen : ls.length = vm_mx f) (hd : decode (vm_cb f) pc = .ok (.dstore k, 2)) (K : vm_Wx p l e R s m args below meth c cells slots Q dC dI ad CA A ph f m0 n0 (pc + 2) l1 r mem) : vm_Wx p l e R s m args below meth c cells slots Q dC dI ad CA A ph f m0 n0 pc ls (vm_d z :: r) mem := by
  intro H locs lsa hat hol hos hom hox hl
  exact lv_dstore C.1 C.2.1 hd hl (by have := (vm_s2_some hs).2.1; omega) rfl (fun ls1 hl1 => K H locs ls1 hat (hol.s2 hs hos.h) hos.t hom hox (vm_lv_s2 hs hl1))
theorem vm_s_dstore_n (C : vm_Cx p R s m args meth c dC dI ad CA A f d m0 ph n0) {pc : Nat} {ls : vm_L} {mem : vm_M} {k : Nat} {z : UInt64} {r : List vm_V} {l1 : vm_L} {j : Fin 4} (hj : (j : Nat) = k) (hs : vm_s2 ls k (vm_d z) = some l1) (hlen : ls.length = vm_mx f) (hd : decode (vm_cb f) pc = .ok (.dstore_n j, 1)) (K : vm_Wx p l e R s m args below meth c cells slots Q dC dI ad CA A ph f m0 n0 (pc + 1) l1 r mem) : vm_Wx p l e R s m args below meth c cells slots Q dC dI ad CA A ph f m0 n0 pc ls (vm_d z :: r) mem := by
  intro H locs lsa hat hol hos hom hox hl
  exact lv_dstore_n C.1 C.2.1 hd hj hl (by have := (vm_s2_some hs).2.1; omega) rfl (fun ls1 hl1 => K H locs ls1 hat (hol.s2 hs hos.h) hos.t hom hox (vm_lv_s2 hs hl1))
end VMS
