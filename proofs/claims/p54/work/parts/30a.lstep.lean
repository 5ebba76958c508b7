/-! ===== the law's methods: from here on they come to an end at which Q holds ===== -/
/-- a method of the law: its name, its code, how many locals, its answer, its level, and how long the script is -/
abbrev lwK : Type := MethodName × ByteArray × Nat × Option FieldType × Nat × Nat
def lCx (p : Program) (R : Room) (s : State) (m : MethodId) (args : Array Value) (meth : Method) (c : Code) (dC : Nat → ClassId) (dI : Nat → Nat → Nat) (CA : Nat → ClassId) (AD : Nat → Nat) (base : Nat) (K : lwK) (mcB msB : Nat) : Prop :=
  p.tables.exec = Jvm.exec ∧ c.code = K.2.1 ∧ c.maxLocals = K.2.2.1 ∧ s.vm.findClass "BoardLettersLaw" = some m.cls ∧ (∀ w ∈ vm_W, w.before args s = true) ∧ va_K (dC, dI) vm_cls (vm_tys CA) s ∧ base ≤ s.heap.size ∧ vm_Ext AD (fun q => base ≤ q) vm_mZ s s.heap ∧ jX (fun q => base ≤ q) s s.heap ∧ 10 + K.2.2.2.2.1 ≤ R.frames ∧ 400 + 45 * K.2.2.2.2.1 ≤ R.locals ∧ mcB ≤ R.cells ∧ msB ≤ R.slots ∧ meth.sig.returnType = K.2.2.2.1 ∧ meth.locks = false ∧ (K.2.2.2.2.1 = 4 → ∃ xs, va_X (AD 1099) K.2.2.2.2.2 xs s s.heap ∧ AD 1099 < base)
def lAt (s : State) (dC : Nat → ClassId) (dI : Nat → Nat → Nat) (CA : Nat → ClassId) (AD : Nat → Nat) (base mcB msB : Nat) (S : lwS) (H : Heap) (locs : List Loc) (cells slots : Nat) : Prop :=
  lW dC dI CA AD base S.1 H ∧ va_S (fun q => base ≤ q) s.heap H locs ∧ cells + S.2.1 ≤ mcB ∧ slots + S.2.2 ≤ msB
def lWx (p : Program) (l : Launch) (e : Env) (R : Room) (s : State) (m : MethodId) (args : Array Value) (below : List Frame) (meth : Method) (c : Code) (dC : Nat → ClassId) (dI : Nat → Nat → Nat) (CA : Nat → ClassId) (AD : Nat → Nat) (base : Nat) (K : lwK) (mcB msB : Nat) (Z : State → Prop) (pc : Nat) (ls : vm_L) (st : List vm_V) (S : lwS) : Prop :=
  ∀ (H : Heap) (locs : List Loc) (lsa : Array Slot) (cells slots : Nat), lAt s dC dI CA AD base mcB msB S H locs cells slots → vm_ol ls → vm_os st → lv_has lsa K.2.2.1 (vm_lv (lvd AD) 0 ls) → W p l e R s m args below meth c H locs cells slots Z (F0 m pc lsa (st.map (vm_v (lvd AD))))
/-- a return: what it answers -/
def lRe (K : lwK) (pc : Nat) (st : List vm_V) (r : Option vm_V) : Prop :=
  (∃ z, decode K.2.1 pc = .ok (.ireturn, 1) ∧ (K.2.2.2.1 = some .int ∨ (K.2.2.2.1 = some .boolean ∧ (z = 0 ∨ z = 1))) ∧ st = [vm_i z] ∧ r = some (vm_i z)) ∨
  (∃ a, decode K.2.1 pc = .ok (.areturn, 1) ∧ K.2.2.2.1 = some (.object "java/lang/String") ∧ st = [vm_r a] ∧ r = some (vm_r a)) ∨
  (decode K.2.1 pc = .ok (.return_, 1) ∧ K.2.2.2.1 = none ∧ st = [] ∧ r = none)
/-- from here on the method comes to an end at which Q holds -/
def lG (K : lwK) (pc : Nat) (ls : vm_L) (st : List vm_V) (S : lwS) (Qp : Option vm_V → lwS → Prop) : Prop :=
  ∀ (p : Program) (l : Launch) (e : Env) (R : Room) (s : State) (m : MethodId) (args : Array Value) (below : List Frame) (meth : Method) (c : Code) (dC : Nat → ClassId) (dI : Nat → Nat → Nat) (CA : Nat → ClassId) (AD : Nat → Nat) (base mcB msB : Nat) (Z : State → Prop),
    lCx p R s m args meth c dC dI CA AD base K mcB msB → (∀ (pcr : Nat) (ls' : vm_L) (st' : List vm_V) (S' : lwS) (r : Option vm_V), lRe K pcr st' r → Qp r S' → lWx p l e R s m args below meth c dC dI CA AD base K mcB msB Z pcr ls' st' S') → lWx p l e R s m args below meth c dC dI CA AD base K mcB msB Z pc ls st S
theorem lG.mono {K : lwK} {pc : Nat} {ls : vm_L} {st : List vm_V} {S : lwS} {P Q : Option vm_V → lwS → Prop} (h : lG K pc ls st S P) (hq : ∀ r S', P r S' → Q r S') : lG K pc ls st S Q := by
  intro p l e R s m args below meth c dC dI CA AD base mcB msB Z C hZ
  exact h p l e R s m args below meth c dC dI CA AD base mcB msB Z C (fun pcr ls' st' S' r h1 h2 => hZ pcr ls' st' S' r h1 (hq r S' h2))
/-- what is lost of the budget is lost -/
theorem lG.less {K : lwK} {pc : Nat} {ls : vm_L} {st : List vm_V} {M : lwM} {a b a' b' : Nat} {Q : Option vm_V → lwS → Prop} (h : lG K pc ls st (M, a, b) Q) (ha : a ≤ a') (hb : b ≤ b') : lG K pc ls st (M, a', b') Q := by
  intro p l e R s m args below meth c dC dI CA AD base mcB msB Z C hZ H locs lsa cells slots hat hol hos hl
  obtain ⟨h1, h2, h3, h4⟩ := hat
  have h3 : cells + a' ≤ mcB := h3
  have h4 : slots + b' ≤ msB := h4
  exact h p l e R s m args below meth c dC dI CA AD base mcB msB Z C hZ H locs lsa cells slots ⟨h1, h2, by show cells + a ≤ mcB; omega, by show slots + b ≤ msB; omega⟩ hol hos hl
theorem lg_chr {n : Nat} (h : n < 65536) : ((Int32.ofInt (n : Int)).toUInt32 % 65536).toInt32 = Int32.ofInt (n : Int) := by
  have h1 : (Int32.ofInt (n : Int)).toUInt32 = UInt32.ofNat n := by
    rw [Int32.ofInt_eq_ofNat]; rfl
  rw [h1]
  have h2 : UInt32.ofNat n % 65536 = UInt32.ofNat n := by
    apply UInt32.toNat_inj.mp
    rw [UInt32.toNat_mod, UInt32.toNat_ofNat']
    show n % 2 ^ 32 % 65536 = n % 2 ^ 32
    omega
  rw [h2, Int32.ofInt_eq_ofNat]
  rfl
section LG1
variable {K : lwK} {S : lwS} {Qp : Option vm_V → lwS → Prop}
theorem lg_ret {pc : Nat} {ls : vm_L} {st : List vm_V} {r : Option vm_V} (h : lRe K pc st r) (hq : Qp r S) : lG K pc ls st S Qp := by
  intro p l e R s m args below meth c dC dI CA AD base mcB msB Z C hZ
  exact hZ pc ls st S r h hq
theorem lg_iconst {pc : Nat} {ls : vm_L} {n : Int} {r : List vm_V} (h32 : vm_32 n) (hd : decode (K.2.1) pc = .ok (.iconst n, 1)) (kk : lG K (pc + 1) ls (vm_i n :: r) S Qp) : lG K pc ls r S Qp := by
  intro p l e R s m args below meth c dC dI CA AD base mcB msB Z C hZ
  have K := kk p l e R s m args below meth c dC dI CA AD base mcB msB Z C hZ
  intro H locs lsa cells slots hat hol hos hl
  exact lv_iconst C.1 C.2.1 hd rfl (K H locs lsa cells slots hat hol (hos.c h32) hl)
theorem lg_bipush {pc : Nat} {ls : vm_L} {n n1 : Int} {r : List vm_V} (h32 : vm_32 n) (he : (Int8.ofInt n1).toInt32 = Int32.ofInt n) (hd : decode (K.2.1) pc = .ok (.bipush n1, 2)) (kk : lG K (pc + 2) ls (vm_i n :: r) S Qp) : lG K pc ls r S Qp := by
  intro p l e R s m args below meth c dC dI CA AD base mcB msB Z C hZ
  have K := kk p l e R s m args below meth c dC dI CA AD base mcB msB Z C hZ
  intro H locs lsa cells slots hat hol hos hl
  exact lv_bipush C.1 C.2.1 hd he (K H locs lsa cells slots hat hol (hos.c h32) hl)
theorem lg_sipush {pc : Nat} {ls : vm_L} {n n1 : Int} {r : List vm_V} (h32 : vm_32 n) (he : (Int16.ofInt n1).toInt32 = Int32.ofInt n) (hd : decode (K.2.1) pc = .ok (.sipush n1, 3)) (kk : lG K (pc + 3) ls (vm_i n :: r) S Qp) : lG K pc ls r S Qp := by
  intro p l e R s m args below meth c dC dI CA AD base mcB msB Z C hZ
  have K := kk p l e R s m args below meth c dC dI CA AD base mcB msB Z C hZ
  intro H locs lsa cells slots hat hol hos hl
  exact lv_sipush C.1 C.2.1 hd he (K H locs lsa cells slots hat hol (hos.c h32) hl)
theorem lg_lconst {pc : Nat} {ls : vm_L} {n : Int} {k : Fin 2} {r : List vm_V} (h64 : vm_64 n) (he : Int64.ofNat (k : Nat) = Int64.ofInt n) (hd : decode (K.2.1) pc = .ok (.lconst k, 1)) (kk : lG K (pc + 1) ls (vm_l n :: r) S Qp) : lG K pc ls r S Qp := by
  intro p l e R s m args below meth c dC dI CA AD base mcB msB Z C hZ
  have K := kk p l e R s m args below meth c dC dI CA AD base mcB msB Z C hZ
  intro H locs lsa cells slots hat hol hos hl
  exact lv_lconst C.1 C.2.1 hd he (K H locs lsa cells slots hat hol (hos.c h64) hl)
theorem lg_iload {pc : Nat} {ls : vm_L} {k : Nat} {z : Int} {r : List vm_V} (hg : vm_gl ls k = some (vm_i z)) (hd : decode (K.2.1) pc = .ok (.iload k, 2)) (kk : lG K (pc + 2) ls (vm_i z :: r) S Qp) : lG K pc ls r S Qp := by
  intro p l e R s m args below meth c dC dI CA AD base mcB msB Z C hZ
  have K := kk p l e R s m args below meth c dC dI CA AD base mcB msB Z C hZ
  intro H locs lsa cells slots hat hol hos hl
  exact lv_iload C.1 C.2.1 hd (vm_lv_at hl hg) (K H locs lsa cells slots hat hol (hos.c (hol _ _ hg)) hl)
theorem lg_iload_n {pc : Nat} {ls : vm_L} {k : Nat} {j : Fin 4} {z : Int} {r : List vm_V} (hj : (j : Nat) = k) (hg : vm_gl ls k = some (vm_i z)) (hd : decode (K.2.1) pc = .ok (.iload_n j, 1)) (kk : lG K (pc + 1) ls (vm_i z :: r) S Qp) : lG K pc ls r S Qp := by
  intro p l e R s m args below meth c dC dI CA AD base mcB msB Z C hZ
  have K := kk p l e R s m args below meth c dC dI CA AD base mcB msB Z C hZ
  intro H locs lsa cells slots hat hol hos hl
  exact lv_iload_n C.1 C.2.1 hd hj (vm_lv_at hl hg) (K H locs lsa cells slots hat hol (hos.c (hol _ _ hg)) hl)
theorem lg_lload {pc : Nat} {ls : vm_L} {k : Nat} {z : Int} {r : List vm_V} (hg : vm_gl ls k = some (vm_l z)) (hd : decode (K.2.1) pc = .ok (.lload k, 2)) (kk : lG K (pc + 2) ls (vm_l z :: r) S Qp) : lG K pc ls r S Qp := by
  intro p l e R s m args below meth c dC dI CA AD base mcB msB Z C hZ
  have K := kk p l e R s m args below meth c dC dI CA AD base mcB msB Z C hZ
  intro H locs lsa cells slots hat hol hos hl
  exact lv_lload C.1 C.2.1 hd (vm_lv_at hl hg) (K H locs lsa cells slots hat hol (hos.c (hol _ _ hg)) hl)
theorem lg_lload_n {pc : Nat} {ls : vm_L} {k : Nat} {j : Fin 4} {z : Int} {r : List vm_V} (hj : (j : Nat) = k) (hg : vm_gl ls k = some (vm_l z)) (hd : decode (K.2.1) pc = .ok (.lload_n j, 1)) (kk : lG K (pc + 1) ls (vm_l z :: r) S Qp) : lG K pc ls r S Qp := by
  intro p l e R s m args below meth c dC dI CA AD base mcB msB Z C hZ
  have K := kk p l e R s m args below meth c dC dI CA AD base mcB msB Z C hZ
  intro H locs lsa cells slots hat hol hos hl
  exact lv_lload_n C.1 C.2.1 hd hj (vm_lv_at hl hg) (K H locs lsa cells slots hat hol (hos.c (hol _ _ hg)) hl)
theorem lg_aload {pc : Nat} {ls : vm_L} {k : Nat} {z : Nat} {r : List vm_V} (hg : vm_gl ls k = some (vm_r z)) (hd : decode (K.2.1) pc = .ok (.aload k, 2)) (kk : lG K (pc + 2) ls (vm_r z :: r) S Qp) : lG K pc ls r S Qp := by
  intro p l e R s m args below meth c dC dI CA AD base mcB msB Z C hZ
  have K := kk p l e R s m args below meth c dC dI CA AD base mcB msB Z C hZ
  intro H locs lsa cells slots hat hol hos hl
  exact lv_aload C.1 C.2.1 hd (vm_lv_at hl hg) (K H locs lsa cells slots hat hol (hos.c (hol _ _ hg)) hl)
theorem lg_aload_n {pc : Nat} {ls : vm_L} {k : Nat} {j : Fin 4} {z : Nat} {r : List vm_V} (hj : (j : Nat) = k) (hg : vm_gl ls k = some (vm_r z)) (hd : decode (K.2.1) pc = .ok (.aload_n j, 1)) (kk : lG K (pc + 1) ls (vm_r z :: r) S Qp) : lG K pc ls r S Qp := by
  intro p l e R s m args below meth c dC dI CA AD base mcB msB Z C hZ
  have K := kk p l e R s m args below meth c dC dI CA AD base mcB msB Z C hZ
  intro H locs lsa cells slots hat hol hos hl
  exact lv_aload_n C.1 C.2.1 hd hj (vm_lv_at hl hg) (K H locs lsa cells slots hat hol (hos.c (hol _ _ hg)) hl)
theorem lg_dload {pc : Nat} {ls : vm_L} {k : Nat} {z : UInt64} {r : List vm_V} (hg : vm_gl ls k = some (vm_d z)) (hd : decode (K.2.1) pc = .ok (.dload k, 2)) (kk : lG K (pc + 2) ls (vm_d z :: r) S Qp) : lG K pc ls r S Qp := by
  intro p l e R s m args below meth c dC dI CA AD base mcB msB Z C hZ
  have K := kk p l e R s m args below meth c dC dI CA AD base mcB msB Z C hZ
  intro H locs lsa cells slots hat hol hos hl
  exact lv_dload C.1 C.2.1 hd (vm_lv_at hl hg) (K H locs lsa cells slots hat hol (hos.c (hol _ _ hg)) hl)
theorem lg_istore {pc : Nat} {ls : vm_L} {k : Nat} {z : Int} {r : List vm_V} {l1 : vm_L} (hs : vm_s1 ls k (vm_i z) = some l1) (hlen : ls.length = K.2.2.1) (hd : decode (K.2.1) pc = .ok (.istore k, 2)) (kk : lG K (pc + 2) l1 r S Qp) : lG K pc ls (vm_i z :: r) S Qp := by
  intro p l e R s m args below meth c dC dI CA AD base mcB msB Z C hZ
  have K := kk p l e R s m args below meth c dC dI CA AD base mcB msB Z C hZ
  intro H locs lsa cells slots hat hol hos hl
  exact lv_istore C.1 C.2.1 hd hl (by have := (vm_s1_some hs).2.1; omega) rfl (fun ls1 hl1 => K H locs ls1 cells slots hat (hol.s1 hs hos.h) hos.t (vm_lv_s1 hs hl1))
theorem lg_istore_n {pc : Nat} {ls : vm_L} {k : Nat} {z : Int} {r : List vm_V} {l1 : vm_L} {j : Fin 4} (hj : (j : Nat) = k) (hs : vm_s1 ls k (vm_i z) = some l1) (hlen : ls.length = K.2.2.1) (hd : decode (K.2.1) pc = .ok (.istore_n j, 1)) (kk : lG K (pc + 1) l1 r S Qp) : lG K pc ls (vm_i z :: r) S Qp := by
  intro p l e R s m args below meth c dC dI CA AD base mcB msB Z C hZ
  have K := kk p l e R s m args below meth c dC dI CA AD base mcB msB Z C hZ
  intro H locs lsa cells slots hat hol hos hl
  exact lv_istore_n C.1 C.2.1 hd hj hl (by have := (vm_s1_some hs).2.1; omega) rfl (fun ls1 hl1 => K H locs ls1 cells slots hat (hol.s1 hs hos.h) hos.t (vm_lv_s1 hs hl1))
theorem lg_lstore {pc : Nat} {ls : vm_L} {k : Nat} {z : Int} {r : List vm_V} {l1 : vm_L} (hs : vm_s2 ls k (vm_l z) = some l1) (hlen : ls.length = K.2.2.1) (hd : decode (K.2.1) pc = .ok (.lstore k, 2)) (kk : lG K (pc + 2) l1 r S Qp) : lG K pc ls (vm_l z :: r) S Qp := by
  intro p l e R s m args below meth c dC dI CA AD base mcB msB Z C hZ
  have K := kk p l e R s m args below meth c dC dI CA AD base mcB msB Z C hZ
  intro H locs lsa cells slots hat hol hos hl
  exact lv_lstore C.1 C.2.1 hd hl (by have := (vm_s2_some hs).2.1; omega) rfl (fun ls1 hl1 => K H locs ls1 cells slots hat (hol.s2 hs hos.h) hos.t (vm_lv_s2 hs hl1))
theorem lg_astore {pc : Nat} {ls : vm_L} {k : Nat} {z : Nat} {r : List vm_V} {l1 : vm_L} (hs : vm_s1 ls k (vm_r z) = some l1) (hlen : ls.length = K.2.2.1) (hd : decode (K.2.1) pc = .ok (.astore k, 2)) (kk : lG K (pc + 2) l1 r S Qp) : lG K pc ls (vm_r z :: r) S Qp := by
  intro p l e R s m args below meth c dC dI CA AD base mcB msB Z C hZ
  have K := kk p l e R s m args below meth c dC dI CA AD base mcB msB Z C hZ
  intro H locs lsa cells slots hat hol hos hl
  exact lv_astore C.1 C.2.1 hd hl (by have := (vm_s1_some hs).2.1; omega) rfl (fun ls1 hl1 => K H locs ls1 cells slots hat (hol.s1 hs hos.h) hos.t (vm_lv_s1 hs hl1))
theorem lg_astore_n {pc : Nat} {ls : vm_L} {k : Nat} {z : Nat} {r : List vm_V} {l1 : vm_L} {j : Fin 4} (hj : (j : Nat) = k) (hs : vm_s1 ls k (vm_r z) = some l1) (hlen : ls.length = K.2.2.1) (hd : decode (K.2.1) pc = .ok (.astore_n j, 1)) (kk : lG K (pc + 1) l1 r S Qp) : lG K pc ls (vm_r z :: r) S Qp := by
  intro p l e R s m args below meth c dC dI CA AD base mcB msB Z C hZ
  have K := kk p l e R s m args below meth c dC dI CA AD base mcB msB Z C hZ
  intro H locs lsa cells slots hat hol hos hl
  exact lv_astore_n C.1 C.2.1 hd hj hl (by have := (vm_s1_some hs).2.1; omega) rfl (fun ls1 hl1 => K H locs ls1 cells slots hat (hol.s1 hs hos.h) hos.t (vm_lv_s1 hs hl1))
theorem lg_dstore {pc : Nat} {ls : vm_L} {k : Nat} {z : UInt64} {r : List vm_V} {l1 : vm_L} (hs : vm_s2 ls k (vm_d z) = some l1) (hlen : ls.length = K.2.2.1) (hd : decode (K.2.1) pc = .ok (.dstore k, 2)) (kk : lG K (pc + 2) l1 r S Qp) : lG K pc ls (vm_d z :: r) S Qp := by
  intro p l e R s m args below meth c dC dI CA AD base mcB msB Z C hZ
  have K := kk p l e R s m args below meth c dC dI CA AD base mcB msB Z C hZ
  intro H locs lsa cells slots hat hol hos hl
  exact lv_dstore C.1 C.2.1 hd hl (by have := (vm_s2_some hs).2.1; omega) rfl (fun ls1 hl1 => K H locs ls1 cells slots hat (hol.s2 hs hos.h) hos.t (vm_lv_s2 hs hl1))
theorem lg_iadd {pc : Nat} {ls : vm_L} {a b : Int} {r : List vm_V} (h : vm_32 (a + b)) (hd : decode (K.2.1) pc = .ok (.iadd, 1)) (kk : lG K (pc + 1) ls (vm_i (a + b) :: r) S Qp) : lG K pc ls (vm_i b :: vm_i a :: r) S Qp := by
  intro p l e R s m args below meth c dC dI CA AD base mcB msB Z C hZ
  have K := kk p l e R s m args below meth c dC dI CA AD base mcB msB Z C hZ
  intro H locs lsa cells slots hat hol hos hl
  have K1 := K H locs lsa cells slots hat hol (hos.t.t.c h) hl
  refine lv_iadd C.1 C.2.1 hd  ?_
  rw [← Int32.ofInt_add]
  exact K1
theorem lg_isub {pc : Nat} {ls : vm_L} {a b : Int} {r : List vm_V} (h : vm_32 (a - b)) (hd : decode (K.2.1) pc = .ok (.isub, 1)) (kk : lG K (pc + 1) ls (vm_i (a - b) :: r) S Qp) : lG K pc ls (vm_i b :: vm_i a :: r) S Qp := by
  intro p l e R s m args below meth c dC dI CA AD base mcB msB Z C hZ
  have K := kk p l e R s m args below meth c dC dI CA AD base mcB msB Z C hZ
  intro H locs lsa cells slots hat hol hos hl
  have K1 := K H locs lsa cells slots hat hol (hos.t.t.c h) hl
  refine lv_isub C.1 C.2.1 hd  ?_
  rw [← Int32.ofInt_sub]
  exact K1
theorem lg_imul {pc : Nat} {ls : vm_L} {a b : Int} {r : List vm_V} (h : vm_32 (a * b)) (hd : decode (K.2.1) pc = .ok (.imul, 1)) (kk : lG K (pc + 1) ls (vm_i (a * b) :: r) S Qp) : lG K pc ls (vm_i b :: vm_i a :: r) S Qp := by
  intro p l e R s m args below meth c dC dI CA AD base mcB msB Z C hZ
  have K := kk p l e R s m args below meth c dC dI CA AD base mcB msB Z C hZ
  intro H locs lsa cells slots hat hol hos hl
  have K1 := K H locs lsa cells slots hat hol (hos.t.t.c h) hl
  refine lv_imul C.1 C.2.1 hd  ?_
  rw [← Int32.ofInt_mul]
  exact K1
theorem lg_idiv {pc : Nat} {ls : vm_L} {a b : Int} {r : List vm_V} (h : 0 ≤ a ∧ 0 < b) (hd : decode (K.2.1) pc = .ok (.idiv, 1)) (kk : lG K (pc + 1) ls (vm_i (a / b) :: r) S Qp) : lG K pc ls (vm_i b :: vm_i a :: r) S Qp := by
  intro p l e R s m args below meth c dC dI CA AD base mcB msB Z C hZ
  have K := kk p l e R s m args below meth c dC dI CA AD base mcB msB Z C hZ
  intro H locs lsa cells slots hat hol hos hl
  have K1 := K H locs lsa cells slots hat hol (hos.t.t.c (vm_ediv32 (show vm_32 a from hos.t.h) h)) hl
  refine lv_idiv C.1 C.2.1 hd (vm_ne0 (show vm_32 b from hos.h) (by omega)) ?_
  rw [← vm_ediv (show vm_32 a from hos.t.h) (show vm_32 b from hos.h) h]
  exact K1
theorem lg_irem {pc : Nat} {ls : vm_L} {a b : Int} {r : List vm_V} (h : 0 ≤ a ∧ 0 < b) (hd : decode (K.2.1) pc = .ok (.irem, 1)) (kk : lG K (pc + 1) ls (vm_i (a % b) :: r) S Qp) : lG K pc ls (vm_i b :: vm_i a :: r) S Qp := by
  intro p l e R s m args below meth c dC dI CA AD base mcB msB Z C hZ
  have K := kk p l e R s m args below meth c dC dI CA AD base mcB msB Z C hZ
  intro H locs lsa cells slots hat hol hos hl
  have K1 := K H locs lsa cells slots hat hol (hos.t.t.c (vm_erem32 (show vm_32 a from hos.t.h) (show vm_32 b from hos.h) h)) hl
  refine lv_irem C.1 C.2.1 hd (vm_ne0 (show vm_32 b from hos.h) (by omega)) ?_
  rw [← vm_erem (show vm_32 a from hos.t.h) (show vm_32 b from hos.h) h]
  exact K1
theorem lg_idivt {pc : Nat} {ls : vm_L} {a b : Int} {r : List vm_V} (h : ¬ b = 0 ∧ vm_32 (a.tdiv b)) (hd : decode (K.2.1) pc = .ok (.idiv, 1)) (kk : lG K (pc + 1) ls (vm_i (a.tdiv b) :: r) S Qp) : lG K pc ls (vm_i b :: vm_i a :: r) S Qp := by
  intro p l e R s m args below meth c dC dI CA AD base mcB msB Z C hZ
  have K := kk p l e R s m args below meth c dC dI CA AD base mcB msB Z C hZ
  intro H locs lsa cells slots hat hol hos hl
  have K1 := K H locs lsa cells slots hat hol (hos.t.t.c h.2) hl
  refine lv_idiv C.1 C.2.1 hd (vm_ne0 (show vm_32 b from hos.h) h.1) ?_
  rw [← vm_tdiv (show vm_32 a from hos.t.h) (show vm_32 b from hos.h)]
  exact K1
theorem lg_ineg {pc : Nat} {ls : vm_L} {a : Int} {r : List vm_V} (h : vm_32 (-a)) (hd : decode (K.2.1) pc = .ok (.ineg, 1)) (kk : lG K (pc + 1) ls (vm_i (-a) :: r) S Qp) : lG K pc ls (vm_i a :: r) S Qp := by
  intro p l e R s m args below meth c dC dI CA AD base mcB msB Z C hZ
  have K := kk p l e R s m args below meth c dC dI CA AD base mcB msB Z C hZ
  intro H locs lsa cells slots hat hol hos hl
  have K1 := K H locs lsa cells slots hat hol (hos.t.c h) hl
  refine lv_ineg C.1 C.2.1 hd  ?_
  rw [← Int32.ofInt_neg]
  exact K1
theorem lg_ishl {pc : Nat} {ls : vm_L} {a b : Int} {r : List vm_V}  (hd : decode (K.2.1) pc = .ok (.ishl, 1)) (kk : lG K (pc + 1) ls (vm_i (vm_shl a b) :: r) S Qp) : lG K pc ls (vm_i b :: vm_i a :: r) S Qp := by
  intro p l e R s m args below meth c dC dI CA AD base mcB msB Z C hZ
  have K := kk p l e R s m args below meth c dC dI CA AD base mcB msB Z C hZ
  intro H locs lsa cells slots hat hol hos hl
  have K1 := K H locs lsa cells slots hat hol (hos.t.t.c (vm_32t _)) hl
  refine lv_ishl C.1 C.2.1 hd  ?_
  rw [← Int32.ofInt_toInt (Int32.ofInt a <<< (Int32.ofInt b &&& 31))]
  exact K1
theorem lg_ishr {pc : Nat} {ls : vm_L} {a b : Int} {r : List vm_V}  (hd : decode (K.2.1) pc = .ok (.ishr, 1)) (kk : lG K (pc + 1) ls (vm_i (vm_shr a b) :: r) S Qp) : lG K pc ls (vm_i b :: vm_i a :: r) S Qp := by
  intro p l e R s m args below meth c dC dI CA AD base mcB msB Z C hZ
  have K := kk p l e R s m args below meth c dC dI CA AD base mcB msB Z C hZ
  intro H locs lsa cells slots hat hol hos hl
  have K1 := K H locs lsa cells slots hat hol (hos.t.t.c (vm_32t _)) hl
  refine lv_ishr C.1 C.2.1 hd  ?_
  rw [← Int32.ofInt_toInt (Int32.ofInt a >>> (Int32.ofInt b &&& 31))]
  exact K1
theorem lg_iand {pc : Nat} {ls : vm_L} {a b : Int} {r : List vm_V}  (hd : decode (K.2.1) pc = .ok (.iand, 1)) (kk : lG K (pc + 1) ls (vm_i (vm_and a b) :: r) S Qp) : lG K pc ls (vm_i b :: vm_i a :: r) S Qp := by
  intro p l e R s m args below meth c dC dI CA AD base mcB msB Z C hZ
  have K := kk p l e R s m args below meth c dC dI CA AD base mcB msB Z C hZ
  intro H locs lsa cells slots hat hol hos hl
  have K1 := K H locs lsa cells slots hat hol (hos.t.t.c (vm_32t _)) hl
  refine lv_iand C.1 C.2.1 hd  ?_
  rw [← Int32.ofInt_toInt (Int32.ofInt a &&& Int32.ofInt b)]
  exact K1
theorem lg_ior {pc : Nat} {ls : vm_L} {a b : Int} {r : List vm_V}  (hd : decode (K.2.1) pc = .ok (.ior, 1)) (kk : lG K (pc + 1) ls (vm_i (vm_or a b) :: r) S Qp) : lG K pc ls (vm_i b :: vm_i a :: r) S Qp := by
  intro p l e R s m args below meth c dC dI CA AD base mcB msB Z C hZ
  have K := kk p l e R s m args below meth c dC dI CA AD base mcB msB Z C hZ
  intro H locs lsa cells slots hat hol hos hl
  have K1 := K H locs lsa cells slots hat hol (hos.t.t.c (vm_32t _)) hl
  refine lv_ior C.1 C.2.1 hd  ?_
  rw [← Int32.ofInt_toInt (Int32.ofInt a ||| Int32.ofInt b)]
  exact K1
theorem lg_ladd {pc : Nat} {ls : vm_L} {a b : Int} {r : List vm_V} (h : vm_64 (a + b)) (hd : decode (K.2.1) pc = .ok (.ladd, 1)) (kk : lG K (pc + 1) ls (vm_l (a + b) :: r) S Qp) : lG K pc ls (vm_l b :: vm_l a :: r) S Qp := by
  intro p l e R s m args below meth c dC dI CA AD base mcB msB Z C hZ
  have K := kk p l e R s m args below meth c dC dI CA AD base mcB msB Z C hZ
  intro H locs lsa cells slots hat hol hos hl
  have K1 := K H locs lsa cells slots hat hol (hos.t.t.c h) hl
  refine lv_ladd C.1 C.2.1 hd  ?_
  rw [← Int64.ofInt_add]
  exact K1
theorem lg_lmul {pc : Nat} {ls : vm_L} {a b : Int} {r : List vm_V} (h : vm_64 (a * b)) (hd : decode (K.2.1) pc = .ok (.lmul, 1)) (kk : lG K (pc + 1) ls (vm_l (a * b) :: r) S Qp) : lG K pc ls (vm_l b :: vm_l a :: r) S Qp := by
  intro p l e R s m args below meth c dC dI CA AD base mcB msB Z C hZ
  have K := kk p l e R s m args below meth c dC dI CA AD base mcB msB Z C hZ
  intro H locs lsa cells slots hat hol hos hl
  have K1 := K H locs lsa cells slots hat hol (hos.t.t.c h) hl
  refine lv_lmul C.1 C.2.1 hd  ?_
  rw [← Int64.ofInt_mul]
  exact K1
theorem lg_i2l {pc : Nat} {ls : vm_L} {a : Int} {r : List vm_V}  (hd : decode (K.2.1) pc = .ok (.i2l, 1)) (kk : lG K (pc + 1) ls (vm_l a :: r) S Qp) : lG K pc ls (vm_i a :: r) S Qp := by
  intro p l e R s m args below meth c dC dI CA AD base mcB msB Z C hZ
  have K := kk p l e R s m args below meth c dC dI CA AD base mcB msB Z C hZ
  intro H locs lsa cells slots hat hol hos hl
  have K1 := K H locs lsa cells slots hat hol (hos.t.c (show vm_64 a from ⟨by have := (show vm_32 a from hos.h); omega, by have := (show vm_32 a from hos.h); omega⟩)) hl
  refine lv_i2l C.1 C.2.1 hd (vm_toL (show vm_32 a from hos.h)) ?_
  exact K1
theorem lg_l2i {pc : Nat} {ls : vm_L} {a : Int} {r : List vm_V}  (hd : decode (K.2.1) pc = .ok (.l2i, 1)) (kk : lG K (pc + 1) ls (vm_i (vm_w32 a) :: r) S Qp) : lG K pc ls (vm_l a :: r) S Qp := by
  intro p l e R s m args below meth c dC dI CA AD base mcB msB Z C hZ
  have K := kk p l e R s m args below meth c dC dI CA AD base mcB msB Z C hZ
  intro H locs lsa cells slots hat hol hos hl
  have K1 := K H locs lsa cells slots hat hol (hos.t.c (vm_32t _)) hl
  refine lv_l2i C.1 C.2.1 hd (v := Int32.ofInt (vm_w32 a)) (by rw [Int64.toInt32_ofInt]; exact (Int32.ofInt_toInt _).symm) ?_
  exact K1
theorem lg_i2f {pc : Nat} {ls : vm_L} {a : Int} {r : List vm_V}  (hd : decode (K.2.1) pc = .ok (.i2f, 1)) (kk : lG K (pc + 1) ls (vm_f (FP.i2f (Int32.ofInt a)) :: r) S Qp) : lG K pc ls (vm_i a :: r) S Qp := by
  intro p l e R s m args below meth c dC dI CA AD base mcB msB Z C hZ
  have K := kk p l e R s m args below meth c dC dI CA AD base mcB msB Z C hZ
  intro H locs lsa cells slots hat hol hos hl
  have K1 := K H locs lsa cells slots hat hol (hos.t.c trivial) hl
  refine lv_i2f C.1 C.2.1 hd  ?_
  exact K1
theorem lg_i2d {pc : Nat} {ls : vm_L} {a : Int} {r : List vm_V}  (hd : decode (K.2.1) pc = .ok (.i2d, 1)) (kk : lG K (pc + 1) ls (vm_d (FP.i2d (Int32.ofInt a)) :: r) S Qp) : lG K pc ls (vm_i a :: r) S Qp := by
  intro p l e R s m args below meth c dC dI CA AD base mcB msB Z C hZ
  have K := kk p l e R s m args below meth c dC dI CA AD base mcB msB Z C hZ
  intro H locs lsa cells slots hat hol hos hl
  have K1 := K H locs lsa cells slots hat hol (hos.t.c trivial) hl
  refine lv_i2d C.1 C.2.1 hd  ?_
  exact K1
theorem lg_fdiv {pc : Nat} {ls : vm_L} {a b : UInt32} {r : List vm_V} (h : vf_n32 (FP.fdiv a b)) (hd : decode (K.2.1) pc = .ok (.fdiv, 1)) (kk : lG K (pc + 1) ls (vm_f (FP.fdiv a b) :: r) S Qp) : lG K pc ls (vm_f b :: vm_f a :: r) S Qp := by
  intro p l e R s m args below meth c dC dI CA AD base mcB msB Z C hZ
  have K := kk p l e R s m args below meth c dC dI CA AD base mcB msB Z C hZ
  intro H locs lsa cells slots hat hol hos hl
  have K1 := K H locs lsa cells slots hat hol (hos.t.t.c trivial) hl
  refine lv_fdiv C.1 C.2.1 hd h ?_
  exact K1
theorem lg_ddiv {pc : Nat} {ls : vm_L} {a b : UInt64} {r : List vm_V} (h : vf_n64 (FP.ddiv a b)) (hd : decode (K.2.1) pc = .ok (.ddiv, 1)) (kk : lG K (pc + 1) ls (vm_d (FP.ddiv a b) :: r) S Qp) : lG K pc ls (vm_d b :: vm_d a :: r) S Qp := by
  intro p l e R s m args below meth c dC dI CA AD base mcB msB Z C hZ
  have K := kk p l e R s m args below meth c dC dI CA AD base mcB msB Z C hZ
  intro H locs lsa cells slots hat hol hos hl
  have K1 := K H locs lsa cells slots hat hol (hos.t.t.c trivial) hl
  refine lv_ddiv C.1 C.2.1 hd h ?_
  exact K1
theorem lg_dcmp {pc : Nat} {ls : vm_L} {a b : UInt64} {op : CmpOp} {r : List vm_V}  (hd : decode (K.2.1) pc = .ok (.dcmp op, 1)) (kk : lG K (pc + 1) ls (vm_i (Op.cmpValue (FP.dcmp a b) op).toInt :: r) S Qp) : lG K pc ls (vm_d b :: vm_d a :: r) S Qp := by
  intro p l e R s m args below meth c dC dI CA AD base mcB msB Z C hZ
  have K := kk p l e R s m args below meth c dC dI CA AD base mcB msB Z C hZ
  intro H locs lsa cells slots hat hol hos hl
  have K1 := K H locs lsa cells slots hat hol (hos.t.t.c (vm_32t _)) hl
  refine lv_dcmp C.1 C.2.1 hd  ?_
  rw [← Int32.ofInt_toInt (Op.cmpValue (FP.dcmp a b) op)]
  exact K1
theorem lg_dup {pc : Nat} {ls : vm_L} {v : vm_V} {r : List vm_V} (h : vm_cat v = 1) (hd : decode (K.2.1) pc = .ok (.dup, 1)) (kk : lG K (pc + 1) ls (v :: v :: r) S Qp) : lG K pc ls (v :: r) S Qp := by
  intro p l e R s m args below meth c dC dI CA AD base mcB msB Z C hZ
  have K := kk p l e R s m args below meth c dC dI CA AD base mcB msB Z C hZ
  intro H locs lsa cells slots hat hol hos hl
  exact lv_dup C.1 C.2.1 hd (by rw [vm_v_cat]; exact h) (K H locs lsa cells slots hat hol (hos.c hos.h) hl)
theorem lg_dconst {pc : Nat} {ls : vm_L} {k : Fin 2} {r : List vm_V} (h : (k : Nat) = 0) (hd : decode (K.2.1) pc = .ok (.dconst k, 1)) (kk : lG K (pc + 1) ls (vm_d 0 :: r) S Qp) : lG K pc ls r S Qp := by
  intro p l e R s m args below meth c dC dI CA AD base mcB msB Z C hZ
  have K := kk p l e R s m args below meth c dC dI CA AD base mcB msB Z C hZ
  intro H locs lsa cells slots hat hol hos hl
  obtain rfl : k = 0 := Fin.ext h
  exact lv_dconst0 C.1 C.2.1 hd (K H locs lsa cells slots hat hol (hos.c trivial) hl)
theorem lg_iinc {pc : Nat} {ls : vm_L} {k : Nat} {n z : Int} {r : List vm_V} {l1 : vm_L} (hg : vm_gl ls k = some (vm_i z)) (hs : vm_s1 ls k (vm_i (z + n)) = some l1) (hlen : ls.length = K.2.2.1) (h32 : vm_32 (z + n)) (hd : decode (K.2.1) pc = .ok (.iinc k n, 3)) (kk : lG K (pc + 3) l1 r S Qp) : lG K pc ls r S Qp := by
  intro p l e R s m args below meth c dC dI CA AD base mcB msB Z C hZ
  have K := kk p l e R s m args below meth c dC dI CA AD base mcB msB Z C hZ
  intro H locs lsa cells slots hat hol hos hl
  obtain ⟨j, hj⟩ := List.getElem?_of_mem (vm_lv_mem.mpr ⟨k, vm_i z, by rw [Nat.zero_add], hg⟩ : (k, vm_v (lvd AD) (vm_i z)) ∈ vm_lv (lvd AD) 0 ls)
  exact lv_iinc C.1 C.2.1 hd hl hj (v := Int32.ofInt (z + n)) (Int32.ofInt_add z n).symm (by have := (vm_s1_some hs).2.1; omega) rfl (fun ls1 hl1 => K H locs ls1 cells slots hat (hol.s1 hs h32) hos (vm_lv_s1 hs hl1))
theorem lg_goto {pc t : Nat} {o : Int} {ls : vm_L} {st : List vm_V} (hd : decode (K.2.1) pc = .ok (.goto o, 3)) (ht : (pc : Int) + o = (t : Int)) (kk : lG K t ls st S Qp) : lG K pc ls st S Qp := by
  intro p l e R s m args below meth c dC dI CA AD base mcB msB Z C hZ
  have K := kk p l e R s m args below meth c dC dI CA AD base mcB msB Z C hZ
  intro H locs lsa cells slots hat hol hos hl
  exact lv_goto C.1 C.2.1 hd ht (K H locs lsa cells slots hat hol hos hl)
theorem lg_icmp {cc : Jvm.ClassFile.Cond} {pc t : Nat} {o : Int} {ls : vm_L} {r : List vm_V} {x y : Int} (hd : decode (K.2.1) pc = .ok (.if_icmp cc o, 3)) (ht : (pc : Int) + o = (t : Int)) (kk : lG K (cond (vm_cc cc x y) t (pc + 3)) ls r S Qp) : lG K pc ls (vm_i y :: vm_i x :: r) S Qp := by
  intro p l e R s m args below meth c dC dI CA AD base mcB msB Z C hZ
  have K := kk p l e R s m args below meth c dC dI CA AD base mcB msB Z C hZ
  intro H locs lsa cells slots hat hol hos hl
  have hx : vm_32 x := hos.t.h
  have hy : vm_32 y := hos.h
  have hos1 := hos.t.t
  cases cc with
  | eq =>
    have key := vm_ieq hx hy
    refine lv_icmp_eq C.1 C.2.1 hd ht (fun q => ?_) (fun q => ?_)
    · have q1 : x = y := key.mp q
      have K1 := K
      rw [show vm_cc .eq x y = true from decide_eq_true q1] at K1
      exact K1 H locs lsa cells slots hat hol hos1 hl
    · have q1 : ¬ (x = y) := fun z => q (key.mpr z)
      have K1 := K
      rw [show vm_cc .eq x y = false from decide_eq_false q1] at K1
      exact K1 H locs lsa cells slots hat hol hos1 hl
  | ne =>
    have key := vm_ieq hx hy
    refine lv_icmp_ne C.1 C.2.1 hd ht (fun q => ?_) (fun q => ?_)
    · have q1 : ¬ x = y := fun z => q (key.mpr z)
      have K1 := K
      rw [show vm_cc .ne x y = true from decide_eq_true q1] at K1
      exact K1 H locs lsa cells slots hat hol hos1 hl
    · have q1 : ¬ (¬ x = y) := fun z => z (key.mp q)
      have K1 := K
      rw [show vm_cc .ne x y = false from decide_eq_false q1] at K1
      exact K1 H locs lsa cells slots hat hol hos1 hl
  | lt =>
    have key := vm_ilt hx hy
    refine lv_icmp_lt C.1 C.2.1 hd ht (fun q => ?_) (fun q => ?_)
    · have q1 : x < y := key.mp q
      have K1 := K
      rw [show vm_cc .lt x y = true from decide_eq_true q1] at K1
      exact K1 H locs lsa cells slots hat hol hos1 hl
    · have q1 : ¬ (x < y) := fun z => q (key.mpr z)
      have K1 := K
      rw [show vm_cc .lt x y = false from decide_eq_false q1] at K1
      exact K1 H locs lsa cells slots hat hol hos1 hl
  | ge =>
    have key := vm_ile hy hx
    refine lv_icmp_ge C.1 C.2.1 hd ht (fun q => ?_) (fun q => ?_)
    · have q1 : y ≤ x := key.mp q
      have K1 := K
      rw [show vm_cc .ge x y = true from decide_eq_true q1] at K1
      exact K1 H locs lsa cells slots hat hol hos1 hl
    · have q1 : ¬ (y ≤ x) := fun z => q (key.mpr z)
      have K1 := K
      rw [show vm_cc .ge x y = false from decide_eq_false q1] at K1
      exact K1 H locs lsa cells slots hat hol hos1 hl
  | gt =>
    have key := vm_ilt hy hx
    refine lv_icmp_gt C.1 C.2.1 hd ht (fun q => ?_) (fun q => ?_)
    · have q1 : y < x := key.mp q
      have K1 := K
      rw [show vm_cc .gt x y = true from decide_eq_true q1] at K1
      exact K1 H locs lsa cells slots hat hol hos1 hl
    · have q1 : ¬ (y < x) := fun z => q (key.mpr z)
      have K1 := K
      rw [show vm_cc .gt x y = false from decide_eq_false q1] at K1
      exact K1 H locs lsa cells slots hat hol hos1 hl
  | le =>
    have key := vm_ile hx hy
    refine lv_icmp_le C.1 C.2.1 hd ht (fun q => ?_) (fun q => ?_)
    · have q1 : x ≤ y := key.mp q
      have K1 := K
      rw [show vm_cc .le x y = true from decide_eq_true q1] at K1
      exact K1 H locs lsa cells slots hat hol hos1 hl
    · have q1 : ¬ (x ≤ y) := fun z => q (key.mpr z)
      have K1 := K
      rw [show vm_cc .le x y = false from decide_eq_false q1] at K1
      exact K1 H locs lsa cells slots hat hol hos1 hl
theorem lg_if {cc : Jvm.ClassFile.Cond} {pc t : Nat} {o : Int} {ls : vm_L} {r : List vm_V} {x : Int} (hd : decode (K.2.1) pc = .ok (.ifCond cc o, 3)) (ht : (pc : Int) + o = (t : Int)) (kk : lG K (cond (vm_cc cc x 0) t (pc + 3)) ls r S Qp) : lG K pc ls (vm_i x :: r) S Qp := by
  intro p l e R s m args below meth c dC dI CA AD base mcB msB Z C hZ
  have K := kk p l e R s m args below meth c dC dI CA AD base mcB msB Z C hZ
  intro H locs lsa cells slots hat hol hos hl
  have hx : vm_32 x := hos.h
  have hy : vm_32 0 := vm_z32
  have hos1 := hos.t
  cases cc with
  | eq =>
    have key := vm_ieq hx hy
    rw [vm_i0] at key
    refine lv_if_eq C.1 C.2.1 hd ht (fun q => ?_) (fun q => ?_)
    · have q1 : x = 0 := key.mp q
      have K1 := K
      rw [show vm_cc .eq x 0 = true from decide_eq_true q1] at K1
      exact K1 H locs lsa cells slots hat hol hos1 hl
    · have q1 : ¬ (x = 0) := fun z => q (key.mpr z)
      have K1 := K
      rw [show vm_cc .eq x 0 = false from decide_eq_false q1] at K1
      exact K1 H locs lsa cells slots hat hol hos1 hl
  | ne =>
    have key := vm_ieq hx hy
    rw [vm_i0] at key
    refine lv_if_ne C.1 C.2.1 hd ht (fun q => ?_) (fun q => ?_)
    · have q1 : ¬ x = 0 := fun z => q (key.mpr z)
      have K1 := K
      rw [show vm_cc .ne x 0 = true from decide_eq_true q1] at K1
      exact K1 H locs lsa cells slots hat hol hos1 hl
    · have q1 : ¬ (¬ x = 0) := fun z => z (key.mp q)
      have K1 := K
      rw [show vm_cc .ne x 0 = false from decide_eq_false q1] at K1
      exact K1 H locs lsa cells slots hat hol hos1 hl
  | lt =>
    have key := vm_ilt hx hy
    rw [vm_i0] at key
    refine lv_if_lt C.1 C.2.1 hd ht (fun q => ?_) (fun q => ?_)
    · have q1 : x < 0 := key.mp q
      have K1 := K
      rw [show vm_cc .lt x 0 = true from decide_eq_true q1] at K1
      exact K1 H locs lsa cells slots hat hol hos1 hl
    · have q1 : ¬ (x < 0) := fun z => q (key.mpr z)
      have K1 := K
      rw [show vm_cc .lt x 0 = false from decide_eq_false q1] at K1
      exact K1 H locs lsa cells slots hat hol hos1 hl
  | ge =>
    have key := vm_ile hy hx
    rw [vm_i0] at key
    refine lv_if_ge C.1 C.2.1 hd ht (fun q => ?_) (fun q => ?_)
    · have q1 : 0 ≤ x := key.mp q
      have K1 := K
      rw [show vm_cc .ge x 0 = true from decide_eq_true q1] at K1
      exact K1 H locs lsa cells slots hat hol hos1 hl
    · have q1 : ¬ (0 ≤ x) := fun z => q (key.mpr z)
      have K1 := K
      rw [show vm_cc .ge x 0 = false from decide_eq_false q1] at K1
      exact K1 H locs lsa cells slots hat hol hos1 hl
  | gt =>
    have key := vm_ilt hy hx
    rw [vm_i0] at key
    refine lv_if_gt C.1 C.2.1 hd ht (fun q => ?_) (fun q => ?_)
    · have q1 : 0 < x := key.mp q
      have K1 := K
      rw [show vm_cc .gt x 0 = true from decide_eq_true q1] at K1
      exact K1 H locs lsa cells slots hat hol hos1 hl
    · have q1 : ¬ (0 < x) := fun z => q (key.mpr z)
      have K1 := K
      rw [show vm_cc .gt x 0 = false from decide_eq_false q1] at K1
      exact K1 H locs lsa cells slots hat hol hos1 hl
  | le =>
    have key := vm_ile hx hy
    rw [vm_i0] at key
    refine lv_if_le C.1 C.2.1 hd ht (fun q => ?_) (fun q => ?_)
    · have q1 : x ≤ 0 := key.mp q
      have K1 := K
      rw [show vm_cc .le x 0 = true from decide_eq_true q1] at K1
      exact K1 H locs lsa cells slots hat hol hos1 hl
    · have q1 : ¬ (x ≤ 0) := fun z => q (key.mpr z)
      have K1 := K
      rw [show vm_cc .le x 0 = false from decide_eq_false q1] at K1
      exact K1 H locs lsa cells slots hat hol hos1 hl
theorem lg_tbl {pc dd len : Nat} {d1 lo hi : Int} {os : Array Int} {qs : List (Int × Nat)} {ls : vm_L} {r : List vm_V} {x : Int} (hd : decode (K.2.1) pc = .ok (.tableswitch d1 lo hi os, len)) (h1 : (pc : Int) + d1 = (dd : Int)) (h2 : vm_swok pc lo 0 os.toList qs = true) (h3 : hi = lo + (qs.length : Int) - 1) (kk : lG K (vm_sw dd x qs) ls r S Qp) : lG K pc ls (vm_i x :: r) S Qp := by
  intro p l e R s m args below meth c dC dI CA AD base mcB msB Z C hZ
  have K := kk p l e R s m args below meth c dC dI CA AD base mcB msB Z C hZ
  intro H locs lsa cells slots hat hol hos hl
  have hx : vm_32 x := hos.h
  have K1 := K H locs lsa cells slots hat hol hos.t hl
  have hxt := vm_ti hx
  by_cases hq : x < lo ∨ hi < x
  · rw [vm_swok_out os.toList qs pc lo 0 dd x h2 (by rcases hq with q | q; · left; simpa using q
                                                     · right; simp; omega)] at K1
    exact lv_tableOut C.1 C.2.1 hd (by rw [hxt]; exact hq) h1 K1
  · obtain ⟨off, g1, g2⟩ := vm_swok_in os.toList qs pc lo 0 dd x h2 (by simp; omega) (by simp; omega)
    refine lv_tableIn C.1 C.2.1 hd (by rw [hxt]; omega) (by rw [hxt]; omega) (off := off) ?_ g2 K1
    rw [hxt, ← Array.getElem?_toList]
    simpa using g1
theorem lg_iaddw {pc : Nat} {ls : vm_L} {a b : Int} {r : List vm_V} (hd : decode K.2.1 pc = .ok (.iadd, 1)) (kk : lG K (pc + 1) ls (vm_i (vm_w32 (a + b)) :: r) S Qp) : lG K pc ls (vm_i b :: vm_i a :: r) S Qp := by
  intro p l e R s m args below meth c dC dI CA AD base mcB msB Z C hZ
  have K := kk p l e R s m args below meth c dC dI CA AD base mcB msB Z C hZ
  intro H locs lsa cells slots hat hol hos hl
  have K1 := K H locs lsa cells slots hat hol (hos.t.t.c (vm_32t _)) hl
  refine lv_iadd C.1 C.2.1 hd ?_
  rw [← Int32.ofInt_add, ← Int32.ofInt_toInt (Int32.ofInt (a + b))]
  exact K1
theorem lg_imulw {pc : Nat} {ls : vm_L} {a b : Int} {r : List vm_V} (hd : decode K.2.1 pc = .ok (.imul, 1)) (kk : lG K (pc + 1) ls (vm_i (vm_w32 (a * b)) :: r) S Qp) : lG K pc ls (vm_i b :: vm_i a :: r) S Qp := by
  intro p l e R s m args below meth c dC dI CA AD base mcB msB Z C hZ
  have K := kk p l e R s m args below meth c dC dI CA AD base mcB msB Z C hZ
  intro H locs lsa cells slots hat hol hos hl
  have K1 := K H locs lsa cells slots hat hol (hos.t.t.c (vm_32t _)) hl
  refine lv_imul C.1 C.2.1 hd ?_
  rw [← Int32.ofInt_mul, ← Int32.ofInt_toInt (Int32.ofInt (a * b))]
  exact K1
theorem lg_isubw {pc : Nat} {ls : vm_L} {a b : Int} {r : List vm_V} (hd : decode K.2.1 pc = .ok (.isub, 1)) (kk : lG K (pc + 1) ls (vm_i (vm_w32 (a - b)) :: r) S Qp) : lG K pc ls (vm_i b :: vm_i a :: r) S Qp := by
  intro p l e R s m args below meth c dC dI CA AD base mcB msB Z C hZ
  have K := kk p l e R s m args below meth c dC dI CA AD base mcB msB Z C hZ
  intro H locs lsa cells slots hat hol hos hl
  have K1 := K H locs lsa cells slots hat hol (hos.t.t.c (vm_32t _)) hl
  refine lv_isub C.1 C.2.1 hd ?_
  rw [← Int32.ofInt_sub, ← Int32.ofInt_toInt (Int32.ofInt (a - b))]
  exact K1
theorem lg_i2c {pc : Nat} {ls : vm_L} {a : Int} {r : List vm_V} (h : 0 ≤ a ∧ a < 65536) (hd : decode K.2.1 pc = .ok (.i2c, 1)) (kk : lG K (pc + 1) ls (vm_i a :: r) S Qp) : lG K pc ls (vm_i a :: r) S Qp := by
  intro p l e R s m args below meth c dC dI CA AD base mcB msB Z C hZ
  have K := kk p l e R s m args below meth c dC dI CA AD base mcB msB Z C hZ
  intro H locs lsa cells slots hat hol hos hl
  have K1 := K H locs lsa cells slots hat hol hos hl
  refine lv_i2c C.1 C.2.1 hd (v := Int32.ofInt a) ?_ K1
  obtain ⟨n, rfl⟩ : ∃ n : Nat, a = (n : Int) := ⟨a.toNat, by omega⟩
  exact lg_chr (by omega)
theorem lg_pop {pc : Nat} {ls : vm_L} {v : vm_V} {r : List vm_V} (h : vm_cat v = 1) (hd : decode K.2.1 pc = .ok (.pop, 1)) (kk : lG K (pc + 1) ls r S Qp) : lG K pc ls (v :: r) S Qp := by
  intro p l e R s m args below meth c dC dI CA AD base mcB msB Z C hZ
  have K := kk p l e R s m args below meth c dC dI CA AD base mcB msB Z C hZ
  intro H locs lsa cells slots hat hol hos hl
  exact lv_pop C.1 C.2.1 hd (by rw [vm_v_cat]; exact h) (K H locs lsa cells slots hat hol hos.t hl)
theorem lg_dadd {pc : Nat} {ls : vm_L} {a b : UInt64} {r : List vm_V} (h : vf_n64 (FP.dadd a b)) (hd : decode K.2.1 pc = .ok (.dadd, 1)) (kk : lG K (pc + 1) ls (vm_d (FP.dadd a b) :: r) S Qp) : lG K pc ls (vm_d b :: vm_d a :: r) S Qp := by
  intro p l e R s m args below meth c dC dI CA AD base mcB msB Z C hZ
  have K := kk p l e R s m args below meth c dC dI CA AD base mcB msB Z C hZ
  intro H locs lsa cells slots hat hol hos hl
  exact lv_dadd C.1 C.2.1 hd h (K H locs lsa cells slots hat hol (hos.t.t.c trivial) hl)
theorem lg_fcmp {pc : Nat} {ls : vm_L} {a b : UInt32} {op : CmpOp} {r : List vm_V} (hd : decode K.2.1 pc = .ok (.fcmp op, 1)) (kk : lG K (pc + 1) ls (vm_i (Op.cmpValue (FP.fcmp a b) op).toInt :: r) S Qp) : lG K pc ls (vm_f b :: vm_f a :: r) S Qp := by
  intro p l e R s m args below meth c dC dI CA AD base mcB msB Z C hZ
  have K := kk p l e R s m args below meth c dC dI CA AD base mcB msB Z C hZ
  intro H locs lsa cells slots hat hol hos hl
  have K1 := K H locs lsa cells slots hat hol (hos.t.t.c (vm_32t _)) hl
  refine lv_fcmp C.1 C.2.1 hd ?_
  rw [← Int32.ofInt_toInt (Op.cmpValue (FP.fcmp a b) op)]
  exact K1
theorem lg_ldc {pc : Nat} {ls : vm_L} {n : Int} {idx : Nat} {r : List vm_V} (h32 : vm_32 n) (hw : Cond.constant "BoardLettersLaw" idx (Int32.ofInt n) ∈ vm_W) (hd : decode K.2.1 pc = .ok (.ldc idx, 2)) (kk : lG K (pc + 2) ls (vm_i n :: r) S Qp) : lG K pc ls r S Qp := by
  intro p l e R s m args below meth c dC dI CA AD base mcB msB Z C hZ
  have K := kk p l e R s m args below meth c dC dI CA AD base mcB msB Z C hZ
  intro H locs lsa cells slots hat hol hos hl
  exact lv_ldc C.1 C.2.1 C.2.2.2.1 (C.2.2.2.2.1 _ hw) hd (K H locs lsa cells slots hat hol (hos.c h32) hl)
theorem lg_ldcs {pc : Nat} {ls : vm_L} {idx k9 : Nat} {r : List vm_V} (hk : k9 < 48) (hw : (13, idx, k9) ∈ vm_slL) (hd : decode K.2.1 pc = .ok (.ldc idx, 2)) (kk : lG K (pc + 2) ls (vm_r k9 :: r) S Qp) : lG K pc ls r S Qp := by
  intro p l e R s m args below meth c dC dI CA AD base mcB msB Z C hZ
  have K := kk p l e R s m args below meth c dC dI CA AD base mcB msB Z C hZ
  intro H locs lsa cells slots hat hol hos hl
  have hE : vm_Ext AD (fun q => base ≤ q) vm_mZ s s.heap := C.2.2.2.2.2.2.2.1
  have hz : vk_R "BoardLettersLaw" idx (vm_tx k9) (AD (1000 + k9)) s := hE.2.2.2.2.2.1 _ hw
  have K1 := K H locs lsa cells slots hat hol (hos.c (v := vm_r k9) trivial) hl
  have e9 : lvd AD k9 = AD (1000 + k9) := if_pos (by omega)
  refine va_ldcS C.1 C.2.1 C.2.2.2.1 hz hd ?_
  rw [← e9]
  exact K1
theorem lg_icmp_eq {pc t : Nat} {o : Int} {ls : vm_L} {r : List vm_V} {x y : Int} (hd : decode K.2.1 pc = .ok (.if_icmp .eq o, 3)) (ht : (pc : Int) + o = (t : Int)) (k : (x = y → lG K t ls r S Qp) ∧ (¬ (x = y) → lG K (pc + 3) ls r S Qp)) : lG K pc ls (vm_i y :: vm_i x :: r) S Qp := by
  refine lg_icmp hd ht ?_
  by_cases h : x = y
  · rw [show vm_cc .eq x y = true from decide_eq_true h]; exact k.1 h
  · rw [show vm_cc .eq x y = false from decide_eq_false h]; exact k.2 h
theorem lg_if_eq {pc t : Nat} {o : Int} {ls : vm_L} {r : List vm_V} {x : Int} (hd : decode K.2.1 pc = .ok (.ifCond .eq o, 3)) (ht : (pc : Int) + o = (t : Int)) (k : (x = 0 → lG K t ls r S Qp) ∧ (¬ (x = 0) → lG K (pc + 3) ls r S Qp)) : lG K pc ls (vm_i x :: r) S Qp := by
  refine lg_if hd ht ?_
  by_cases h : x = 0
  · rw [show vm_cc .eq x 0 = true from decide_eq_true h]; exact k.1 h
  · rw [show vm_cc .eq x 0 = false from decide_eq_false h]; exact k.2 h
theorem lg_icmp_ne {pc t : Nat} {o : Int} {ls : vm_L} {r : List vm_V} {x y : Int} (hd : decode K.2.1 pc = .ok (.if_icmp .ne o, 3)) (ht : (pc : Int) + o = (t : Int)) (k : (¬ x = y → lG K t ls r S Qp) ∧ (¬ (¬ x = y) → lG K (pc + 3) ls r S Qp)) : lG K pc ls (vm_i y :: vm_i x :: r) S Qp := by
  refine lg_icmp hd ht ?_
  by_cases h : ¬ x = y
  · rw [show vm_cc .ne x y = true from decide_eq_true h]; exact k.1 h
  · rw [show vm_cc .ne x y = false from decide_eq_false h]; exact k.2 h
theorem lg_if_ne {pc t : Nat} {o : Int} {ls : vm_L} {r : List vm_V} {x : Int} (hd : decode K.2.1 pc = .ok (.ifCond .ne o, 3)) (ht : (pc : Int) + o = (t : Int)) (k : (¬ x = 0 → lG K t ls r S Qp) ∧ (¬ (¬ x = 0) → lG K (pc + 3) ls r S Qp)) : lG K pc ls (vm_i x :: r) S Qp := by
  refine lg_if hd ht ?_
  by_cases h : ¬ x = 0
  · rw [show vm_cc .ne x 0 = true from decide_eq_true h]; exact k.1 h
  · rw [show vm_cc .ne x 0 = false from decide_eq_false h]; exact k.2 h
theorem lg_icmp_lt {pc t : Nat} {o : Int} {ls : vm_L} {r : List vm_V} {x y : Int} (hd : decode K.2.1 pc = .ok (.if_icmp .lt o, 3)) (ht : (pc : Int) + o = (t : Int)) (k : (x < y → lG K t ls r S Qp) ∧ (¬ (x < y) → lG K (pc + 3) ls r S Qp)) : lG K pc ls (vm_i y :: vm_i x :: r) S Qp := by
  refine lg_icmp hd ht ?_
  by_cases h : x < y
  · rw [show vm_cc .lt x y = true from decide_eq_true h]; exact k.1 h
  · rw [show vm_cc .lt x y = false from decide_eq_false h]; exact k.2 h
theorem lg_if_lt {pc t : Nat} {o : Int} {ls : vm_L} {r : List vm_V} {x : Int} (hd : decode K.2.1 pc = .ok (.ifCond .lt o, 3)) (ht : (pc : Int) + o = (t : Int)) (k : (x < 0 → lG K t ls r S Qp) ∧ (¬ (x < 0) → lG K (pc + 3) ls r S Qp)) : lG K pc ls (vm_i x :: r) S Qp := by
  refine lg_if hd ht ?_
  by_cases h : x < 0
  · rw [show vm_cc .lt x 0 = true from decide_eq_true h]; exact k.1 h
  · rw [show vm_cc .lt x 0 = false from decide_eq_false h]; exact k.2 h
theorem lg_icmp_ge {pc t : Nat} {o : Int} {ls : vm_L} {r : List vm_V} {x y : Int} (hd : decode K.2.1 pc = .ok (.if_icmp .ge o, 3)) (ht : (pc : Int) + o = (t : Int)) (k : (y ≤ x → lG K t ls r S Qp) ∧ (¬ (y ≤ x) → lG K (pc + 3) ls r S Qp)) : lG K pc ls (vm_i y :: vm_i x :: r) S Qp := by
  refine lg_icmp hd ht ?_
  by_cases h : y ≤ x
  · rw [show vm_cc .ge x y = true from decide_eq_true h]; exact k.1 h
  · rw [show vm_cc .ge x y = false from decide_eq_false h]; exact k.2 h
theorem lg_if_ge {pc t : Nat} {o : Int} {ls : vm_L} {r : List vm_V} {x : Int} (hd : decode K.2.1 pc = .ok (.ifCond .ge o, 3)) (ht : (pc : Int) + o = (t : Int)) (k : (0 ≤ x → lG K t ls r S Qp) ∧ (¬ (0 ≤ x) → lG K (pc + 3) ls r S Qp)) : lG K pc ls (vm_i x :: r) S Qp := by
  refine lg_if hd ht ?_
  by_cases h : 0 ≤ x
  · rw [show vm_cc .ge x 0 = true from decide_eq_true h]; exact k.1 h
  · rw [show vm_cc .ge x 0 = false from decide_eq_false h]; exact k.2 h
theorem lg_icmp_gt {pc t : Nat} {o : Int} {ls : vm_L} {r : List vm_V} {x y : Int} (hd : decode K.2.1 pc = .ok (.if_icmp .gt o, 3)) (ht : (pc : Int) + o = (t : Int)) (k : (y < x → lG K t ls r S Qp) ∧ (¬ (y < x) → lG K (pc + 3) ls r S Qp)) : lG K pc ls (vm_i y :: vm_i x :: r) S Qp := by
  refine lg_icmp hd ht ?_
  by_cases h : y < x
  · rw [show vm_cc .gt x y = true from decide_eq_true h]; exact k.1 h
  · rw [show vm_cc .gt x y = false from decide_eq_false h]; exact k.2 h
theorem lg_if_gt {pc t : Nat} {o : Int} {ls : vm_L} {r : List vm_V} {x : Int} (hd : decode K.2.1 pc = .ok (.ifCond .gt o, 3)) (ht : (pc : Int) + o = (t : Int)) (k : (0 < x → lG K t ls r S Qp) ∧ (¬ (0 < x) → lG K (pc + 3) ls r S Qp)) : lG K pc ls (vm_i x :: r) S Qp := by
  refine lg_if hd ht ?_
  by_cases h : 0 < x
  · rw [show vm_cc .gt x 0 = true from decide_eq_true h]; exact k.1 h
  · rw [show vm_cc .gt x 0 = false from decide_eq_false h]; exact k.2 h
theorem lg_icmp_le {pc t : Nat} {o : Int} {ls : vm_L} {r : List vm_V} {x y : Int} (hd : decode K.2.1 pc = .ok (.if_icmp .le o, 3)) (ht : (pc : Int) + o = (t : Int)) (k : (x ≤ y → lG K t ls r S Qp) ∧ (¬ (x ≤ y) → lG K (pc + 3) ls r S Qp)) : lG K pc ls (vm_i y :: vm_i x :: r) S Qp := by
  refine lg_icmp hd ht ?_
  by_cases h : x ≤ y
  · rw [show vm_cc .le x y = true from decide_eq_true h]; exact k.1 h
  · rw [show vm_cc .le x y = false from decide_eq_false h]; exact k.2 h
theorem lg_if_le {pc t : Nat} {o : Int} {ls : vm_L} {r : List vm_V} {x : Int} (hd : decode K.2.1 pc = .ok (.ifCond .le o, 3)) (ht : (pc : Int) + o = (t : Int)) (k : (x ≤ 0 → lG K t ls r S Qp) ∧ (¬ (x ≤ 0) → lG K (pc + 3) ls r S Qp)) : lG K pc ls (vm_i x :: r) S Qp := by
  refine lg_if hd ht ?_
  by_cases h : x ≤ 0
  · rw [show vm_cc .le x 0 = true from decide_eq_true h]; exact k.1 h
  · rw [show vm_cc .le x 0 = false from decide_eq_false h]; exact k.2 h
end LG1
