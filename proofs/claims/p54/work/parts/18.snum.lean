/-! ===== steps: numbers ===== -/
theorem vm_tdiv {a b : Int} (ha : vm_32 a) (hb : vm_32 b) : Int32.ofInt (a.tdiv b) = Int32.ofInt a / Int32.ofInt b :=
  Int32.ofInt_tdiv (show (-2147483648 : Int) ≤ a from ha.1) (show a ≤ (2147483647 : Int) from ha.2) (show (-2147483648 : Int) ≤ b from hb.1) (show b ≤ (2147483647 : Int) from hb.2)
theorem vm_ediv {a b : Int} (ha : vm_32 a) (hb : vm_32 b) (h : 0 ≤ a ∧ 0 < b) : Int32.ofInt (a / b) = Int32.ofInt a / Int32.ofInt b := by
  rw [← vm_tdiv ha hb, Int.tdiv_eq_ediv_of_nonneg h.1]
theorem vm_erem {a b : Int} (ha : vm_32 a) (hb : vm_32 b) (h : 0 ≤ a ∧ 0 < b) : Int32.ofInt (a % b) = Int32.ofInt a - Int32.ofInt a / Int32.ofInt b * Int32.ofInt b := by
  rw [← vm_ediv ha hb h, ← Int32.ofInt_mul, ← Int32.ofInt_sub, Int.emod_def, Int.mul_comm]
theorem vm_ediv32 {a b : Int} (ha : vm_32 a) (h : 0 ≤ a ∧ 0 < b) : vm_32 (a / b) := by
  have h1 := Int.ediv_nonneg h.1 (Int.le_of_lt h.2)
  have h2 := Int.ediv_le_self b h.1
  exact ⟨by omega, by omega⟩
theorem vm_erem32 {a b : Int} (ha : vm_32 a) (hb : vm_32 b) (h : 0 ≤ a ∧ 0 < b) : vm_32 (a % b) := by
  have h1 := Int.emod_nonneg a (by omega : b ≠ 0)
  have h2 := Int.emod_lt_of_pos a h.2
  exact ⟨by omega, by omega⟩
theorem vm_ne0 {b : Int} (hb : vm_32 b) (h : ¬ b = 0) : ¬ Int32.ofInt b = 0 := by
  rw [← vm_i0]; exact fun q => h ((vm_ieq hb vm_z32).mp q)
theorem vm_toL {a : Int} (ha : vm_32 a) : (Int32.ofInt a).toInt64 = Int64.ofInt a := Int32.toInt64_ofInt (show (-2147483648 : Int) ≤ a from ha.1) (show a ≤ (2147483647 : Int) from ha.2)
theorem vm_lcm {a b : Int} (ha : vm_64 a) (hb : vm_64 b) : lg_cmp (Int64.ofInt a) (Int64.ofInt b) = Int32.ofInt (if a < b then -1 else if a = b then 0 else 1) := by
  have h1 : Int64.ofInt b < Int64.ofInt a ↔ b < a := by rw [Int64.lt_iff_toInt_lt, vm_tl ha, vm_tl hb]
  have h2 : Int64.ofInt a = Int64.ofInt b ↔ a = b := by rw [← Int64.toInt_inj, vm_tl ha, vm_tl hb]
  unfold lg_cmp
  show (if Int64.ofInt b < Int64.ofInt a then (1 : Int32) else if Int64.ofInt a = Int64.ofInt b then 0 else -1) = _
  by_cases q1 : b < a
  · rw [if_pos (h1.mpr q1), if_neg (by omega), if_neg (by omega)]; decide
  · rw [if_neg (fun q => q1 (h1.mp q))]
    by_cases q2 : a = b
    · rw [if_pos (h2.mpr q2), if_neg (by omega), if_pos q2]; decide
    · rw [if_neg (fun q => q2 (h2.mp q)), if_pos (by omega)]; decide
theorem vm_lcm32 {a b : Int} : vm_32 (if a < b then -1 else if a = b then 0 else 1) := by
  split
  · decide
  · split <;> decide
section VMS2
variable {p : Program} {l : Launch} {e : Env} {R : Room} {s : State} {m : MethodId} {args : Array Value} {below : List Frame} {meth : Method} {c : Code} {cells slots : Nat} {Q : State → Prop}
variable {dC : Nat → ClassId} {dI : Nat → Nat → Nat} {ad : Nat → Nat} {CA : Nat → ClassId} {A : Nat → Prop} {ph : Bool} {f d : Nat} {m0 : vm_M} {n0 : Nat}
theorem vm_s_iadd (C : vm_Cx p R s m args meth c dC dI ad CA A f d m0 ph n0) {pc : Nat} {ls : vm_L} {mem : vm_M} {a b : Int} {r : List vm_V} (h : vm_32 (a + b)) (hd : decode (vm_cb f) pc = .ok (.iadd, 1)) (K : vm_Wx p l e R s m args below meth c cells slots Q dC dI ad CA A ph f m0 n0 (pc + 1) ls (vm_i (a + b) :: r) mem) : vm_Wx p l e R s m args below meth c cells slots Q dC dI ad CA A ph f m0 n0 pc ls (vm_i b :: vm_i a :: r) mem := by
  intro H locs lsa hat hol hos hom hox hl
  have K1 := K H locs lsa hat hol (hos.t.t.c h) hom hox hl
  refine lv_iadd C.1 C.2.1 hd  ?_
  rw [← Int32.ofInt_add]
  exact K1
theorem vm_s_isub (C : vm_Cx p R s m args meth c dC dI ad CA A f d m0 ph n0) {pc : Nat} {ls : vm_L} {mem : vm_M} {a b : Int} {r : List vm_V} (h : vm_32 (a - b)) (hd : decode (vm_cb f) pc = .ok (.isub, 1)) (K : vm_Wx p l e R s m args below meth c cells slots Q dC dI ad CA A ph f m0 n0 (pc + 1) ls (vm_i (a - b) :: r) mem) : vm_Wx p l e R s m args below meth c cells slots Q dC dI ad CA A ph f m0 n0 pc ls (vm_i b :: vm_i a :: r) mem := by
  intro H locs lsa hat hol hos hom hox hl
  have K1 := K H locs lsa hat hol (hos.t.t.c h) hom hox hl
  refine lv_isub C.1 C.2.1 hd  ?_
  rw [← Int32.ofInt_sub]
  exact K1
theorem vm_s_isubw (C : vm_Cx p R s m args meth c dC dI ad CA A f d m0 ph n0) {pc : Nat} {ls : vm_L} {mem : vm_M} {a b : Int} {r : List vm_V}  (hd : decode (vm_cb f) pc = .ok (.isub, 1)) (K : vm_Wx p l e R s m args below meth c cells slots Q dC dI ad CA A ph f m0 n0 (pc + 1) ls (vm_i (vm_w32 (a - b)) :: r) mem) : vm_Wx p l e R s m args below meth c cells slots Q dC dI ad CA A ph f m0 n0 pc ls (vm_i b :: vm_i a :: r) mem := by
  intro H locs lsa hat hol hos hom hox hl
  have K1 := K H locs lsa hat hol (hos.t.t.c (vm_32t _)) hom hox hl
  refine lv_isub C.1 C.2.1 hd  ?_
  rw [← Int32.ofInt_sub, ← Int32.ofInt_toInt (Int32.ofInt (a - b))]
  exact K1
theorem vm_s_imul (C : vm_Cx p R s m args meth c dC dI ad CA A f d m0 ph n0) {pc : Nat} {ls : vm_L} {mem : vm_M} {a b : Int} {r : List vm_V} (h : vm_32 (a * b)) (hd : decode (vm_cb f) pc = .ok (.imul, 1)) (K : vm_Wx p l e R s m args below meth c cells slots Q dC dI ad CA A ph f m0 n0 (pc + 1) ls (vm_i (a * b) :: r) mem) : vm_Wx p l e R s m args below meth c cells slots Q dC dI ad CA A ph f m0 n0 pc ls (vm_i b :: vm_i a :: r) mem := by
  intro H locs lsa hat hol hos hom hox hl
  have K1 := K H locs lsa hat hol (hos.t.t.c h) hom hox hl
  refine lv_imul C.1 C.2.1 hd  ?_
  rw [← Int32.ofInt_mul]
  exact K1
theorem vm_s_idiv (C : vm_Cx p R s m args meth c dC dI ad CA A f d m0 ph n0) {pc : Nat} {ls : vm_L} {mem : vm_M} {a b : Int} {r : List vm_V} (h : 0 ≤ a ∧ 0 < b) (hd : decode (vm_cb f) pc = .ok (.idiv, 1)) (K : vm_Wx p l e R s m args below meth c cells slots Q dC dI ad CA A ph f m0 n0 (pc + 1) ls (vm_i (a / b) :: r) mem) : vm_Wx p l e R s m args below meth c cells slots Q dC dI ad CA A ph f m0 n0 pc ls (vm_i b :: vm_i a :: r) mem := by
  intro H locs lsa hat hol hos hom hox hl
  have K1 := K H locs lsa hat hol (hos.t.t.c (vm_ediv32 (show vm_32 a from hos.t.h) h)) hom hox hl
  refine lv_idiv C.1 C.2.1 hd (vm_ne0 (show vm_32 b from hos.h) (by omega)) ?_
  rw [← vm_ediv (show vm_32 a from hos.t.h) (show vm_32 b from hos.h) h]
  exact K1
theorem vm_s_idivt (C : vm_Cx p R s m args meth c dC dI ad CA A f d m0 ph n0) {pc : Nat} {ls : vm_L} {mem : vm_M} {a b : Int} {r : List vm_V} (h : ¬ b = 0 ∧ vm_32 (a.tdiv b)) (hd : decode (vm_cb f) pc = .ok (.idiv, 1)) (K : vm_Wx p l e R s m args below meth c cells slots Q dC dI ad CA A ph f m0 n0 (pc + 1) ls (vm_i (a.tdiv b) :: r) mem) : vm_Wx p l e R s m args below meth c cells slots Q dC dI ad CA A ph f m0 n0 pc ls (vm_i b :: vm_i a :: r) mem := by
  intro H locs lsa hat hol hos hom hox hl
  have K1 := K H locs lsa hat hol (hos.t.t.c h.2) hom hox hl
  refine lv_idiv C.1 C.2.1 hd (vm_ne0 (show vm_32 b from hos.h) h.1) ?_
  rw [← vm_tdiv (show vm_32 a from hos.t.h) (show vm_32 b from hos.h)]
  exact K1
theorem vm_s_irem (C : vm_Cx p R s m args meth c dC dI ad CA A f d m0 ph n0) {pc : Nat} {ls : vm_L} {mem : vm_M} {a b : Int} {r : List vm_V} (h : 0 ≤ a ∧ 0 < b) (hd : decode (vm_cb f) pc = .ok (.irem, 1)) (K : vm_Wx p l e R s m args below meth c cells slots Q dC dI ad CA A ph f m0 n0 (pc + 1) ls (vm_i (a % b) :: r) mem) : vm_Wx p l e R s m args below meth c cells slots Q dC dI ad CA A ph f m0 n0 pc ls (vm_i b :: vm_i a :: r) mem := by
  intro H locs lsa hat hol hos hom hox hl
  have K1 := K H locs lsa hat hol (hos.t.t.c (vm_erem32 (show vm_32 a from hos.t.h) (show vm_32 b from hos.h) h)) hom hox hl
  refine lv_irem C.1 C.2.1 hd (vm_ne0 (show vm_32 b from hos.h) (by omega)) ?_
  rw [← vm_erem (show vm_32 a from hos.t.h) (show vm_32 b from hos.h) h]
  exact K1
theorem vm_s_ineg (C : vm_Cx p R s m args meth c dC dI ad CA A f d m0 ph n0) {pc : Nat} {ls : vm_L} {mem : vm_M} {a : Int} {r : List vm_V} (h : vm_32 (-a)) (hd : decode (vm_cb f) pc = .ok (.ineg, 1)) (K : vm_Wx p l e R s m args below meth c cells slots Q dC dI ad CA A ph f m0 n0 (pc + 1) ls (vm_i (-a) :: r) mem) : vm_Wx p l e R s m args below meth c cells slots Q dC dI ad CA A ph f m0 n0 pc ls (vm_i a :: r) mem := by
  intro H locs lsa hat hol hos hom hox hl
  have K1 := K H locs lsa hat hol (hos.t.c h) hom hox hl
  refine lv_ineg C.1 C.2.1 hd  ?_
  rw [← Int32.ofInt_neg]
  exact K1
theorem vm_s_ishl (C : vm_Cx p R s m args meth c dC dI ad CA A f d m0 ph n0) {pc : Nat} {ls : vm_L} {mem : vm_M} {a b : Int} {r : List vm_V}  (hd : decode (vm_cb f) pc = .ok (.ishl, 1)) (K : vm_Wx p l e R s m args below meth c cells slots Q dC dI ad CA A ph f m0 n0 (pc + 1) ls (vm_i (vm_shl a b) :: r) mem) : vm_Wx p l e R s m args below meth c cells slots Q dC dI ad CA A ph f m0 n0 pc ls (vm_i b :: vm_i a :: r) mem := by
  intro H locs lsa hat hol hos hom hox hl
  have K1 := K H locs lsa hat hol (hos.t.t.c (vm_32t _)) hom hox hl
  refine lv_ishl C.1 C.2.1 hd  ?_
  rw [← Int32.ofInt_toInt (Int32.ofInt a <<< (Int32.ofInt b &&& 31))]
  exact K1
theorem vm_s_ishr (C : vm_Cx p R s m args meth c dC dI ad CA A f d m0 ph n0) {pc : Nat} {ls : vm_L} {mem : vm_M} {a b : Int} {r : List vm_V}  (hd : decode (vm_cb f) pc = .ok (.ishr, 1)) (K : vm_Wx p l e R s m args below meth c cells slots Q dC dI ad CA A ph f m0 n0 (pc + 1) ls (vm_i (vm_shr a b) :: r) mem) : vm_Wx p l e R s m args below meth c cells slots Q dC dI ad CA A ph f m0 n0 pc ls (vm_i b :: vm_i a :: r) mem := by
  intro H locs lsa hat hol hos hom hox hl
  have K1 := K H locs lsa hat hol (hos.t.t.c (vm_32t _)) hom hox hl
  refine lv_ishr C.1 C.2.1 hd  ?_
  rw [← Int32.ofInt_toInt (Int32.ofInt a >>> (Int32.ofInt b &&& 31))]
  exact K1
theorem vm_s_iand (C : vm_Cx p R s m args meth c dC dI ad CA A f d m0 ph n0) {pc : Nat} {ls : vm_L} {mem : vm_M} {a b : Int} {r : List vm_V}  (hd : decode (vm_cb f) pc = .ok (.iand, 1)) (K : vm_Wx p l e R s m args below meth c cells slots Q dC dI ad CA A ph f m0 n0 (pc + 1) ls (vm_i (vm_and a b) :: r) mem) : vm_Wx p l e R s m args below meth c cells slots Q dC dI ad CA A ph f m0 n0 pc ls (vm_i b :: vm_i a :: r) mem := by
  intro H locs lsa hat hol hos hom hox hl
  have K1 := K H locs lsa hat hol (hos.t.t.c (vm_32t _)) hom hox hl
  refine lv_iand C.1 C.2.1 hd  ?_
  rw [← Int32.ofInt_toInt (Int32.ofInt a &&& Int32.ofInt b)]
  exact K1
theorem vm_s_ior (C : vm_Cx p R s m args meth c dC dI ad CA A f d m0 ph n0) {pc : Nat} {ls : vm_L} {mem : vm_M} {a b : Int} {r : List vm_V}  (hd : decode (vm_cb f) pc = .ok (.ior, 1)) (K : vm_Wx p l e R s m args below meth c cells slots Q dC dI ad CA A ph f m0 n0 (pc + 1) ls (vm_i (vm_or a b) :: r) mem) : vm_Wx p l e R s m args below meth c cells slots Q dC dI ad CA A ph f m0 n0 pc ls (vm_i b :: vm_i a :: r) mem := by
  intro H locs lsa hat hol hos hom hox hl
  have K1 := K H locs lsa hat hol (hos.t.t.c (vm_32t _)) hom hox hl
  refine lv_ior C.1 C.2.1 hd  ?_
  rw [← Int32.ofInt_toInt (Int32.ofInt a ||| Int32.ofInt b)]
  exact K1
theorem vm_s_iushr (C : vm_Cx p R s m args meth c dC dI ad CA A f d m0 ph n0) {pc : Nat} {ls : vm_L} {mem : vm_M} {a b : Int} {r : List vm_V}  (hd : decode (vm_cb f) pc = .ok (.iushr, 1)) (K : vm_Wx p l e R s m args below meth c cells slots Q dC dI ad CA A ph f m0 n0 (pc + 1) ls (vm_i (vm_ushr a b) :: r) mem) : vm_Wx p l e R s m args below meth c cells slots Q dC dI ad CA A ph f m0 n0 pc ls (vm_i b :: vm_i a :: r) mem := by
  intro H locs lsa hat hol hos hom hox hl
  have K1 := K H locs lsa hat hol (hos.t.t.c (vm_32t _)) hom hox hl
  refine lv_iushr C.1 C.2.1 hd (v := Int32.ofInt (vm_ushr a b)) (by unfold vm_ushr; rw [Int32.ofInt_toInt]) ?_
  exact K1
theorem vm_s_ladd (C : vm_Cx p R s m args meth c dC dI ad CA A f d m0 ph n0) {pc : Nat} {ls : vm_L} {mem : vm_M} {a b : Int} {r : List vm_V} (h : vm_64 (a + b)) (hd : decode (vm_cb f) pc = .ok (.ladd, 1)) (K : vm_Wx p l e R s m args below meth c cells slots Q dC dI ad CA A ph f m0 n0 (pc + 1) ls (vm_l (a + b) :: r) mem) : vm_Wx p l e R s m args below meth c cells slots Q dC dI ad CA A ph f m0 n0 pc ls (vm_l b :: vm_l a :: r) mem := by
  intro H locs lsa hat hol hos hom hox hl
  have K1 := K H locs lsa hat hol (hos.t.t.c h) hom hox hl
  refine lv_ladd C.1 C.2.1 hd  ?_
  rw [← Int64.ofInt_add]
  exact K1
theorem vm_s_lsub (C : vm_Cx p R s m args meth c dC dI ad CA A f d m0 ph n0) {pc : Nat} {ls : vm_L} {mem : vm_M} {a b : Int} {r : List vm_V} (h : vm_64 (a - b)) (hd : decode (vm_cb f) pc = .ok (.lsub, 1)) (K : vm_Wx p l e R s m args below meth c cells slots Q dC dI ad CA A ph f m0 n0 (pc + 1) ls (vm_l (a - b) :: r) mem) : vm_Wx p l e R s m args below meth c cells slots Q dC dI ad CA A ph f m0 n0 pc ls (vm_l b :: vm_l a :: r) mem := by
  intro H locs lsa hat hol hos hom hox hl
  have K1 := K H locs lsa hat hol (hos.t.t.c h) hom hox hl
  refine lv_lsub C.1 C.2.1 hd  ?_
  rw [← Int64.ofInt_sub]
  exact K1
theorem vm_s_lmul (C : vm_Cx p R s m args meth c dC dI ad CA A f d m0 ph n0) {pc : Nat} {ls : vm_L} {mem : vm_M} {a b : Int} {r : List vm_V} (h : vm_64 (a * b)) (hd : decode (vm_cb f) pc = .ok (.lmul, 1)) (K : vm_Wx p l e R s m args below meth c cells slots Q dC dI ad CA A ph f m0 n0 (pc + 1) ls (vm_l (a * b) :: r) mem) : vm_Wx p l e R s m args below meth c cells slots Q dC dI ad CA A ph f m0 n0 pc ls (vm_l b :: vm_l a :: r) mem := by
  intro H locs lsa hat hol hos hom hox hl
  have K1 := K H locs lsa hat hol (hos.t.t.c h) hom hox hl
  refine lv_lmul C.1 C.2.1 hd  ?_
  rw [← Int64.ofInt_mul]
  exact K1
theorem vm_s_land (C : vm_Cx p R s m args meth c dC dI ad CA A f d m0 ph n0) {pc : Nat} {ls : vm_L} {mem : vm_M} {a b : Int} {r : List vm_V}  (hd : decode (vm_cb f) pc = .ok (.land, 1)) (K : vm_Wx p l e R s m args below meth c cells slots Q dC dI ad CA A ph f m0 n0 (pc + 1) ls (vm_l (vm_land a b) :: r) mem) : vm_Wx p l e R s m args below meth c cells slots Q dC dI ad CA A ph f m0 n0 pc ls (vm_l b :: vm_l a :: r) mem := by
  intro H locs lsa hat hol hos hom hox hl
  have K1 := K H locs lsa hat hol (hos.t.t.c (vm_64t _)) hom hox hl
  refine lv_land C.1 C.2.1 hd  ?_
  rw [← Int64.ofInt_toInt (Int64.ofInt a &&& Int64.ofInt b)]
  exact K1
theorem vm_s_lshr (C : vm_Cx p R s m args meth c dC dI ad CA A f d m0 ph n0) {pc : Nat} {ls : vm_L} {mem : vm_M} {a b : Int} {r : List vm_V}  (hd : decode (vm_cb f) pc = .ok (.lshr, 1)) (K : vm_Wx p l e R s m args below meth c cells slots Q dC dI ad CA A ph f m0 n0 (pc + 1) ls (vm_l (vm_lshr a b) :: r) mem) : vm_Wx p l e R s m args below meth c cells slots Q dC dI ad CA A ph f m0 n0 pc ls (vm_i b :: vm_l a :: r) mem := by
  intro H locs lsa hat hol hos hom hox hl
  have K1 := K H locs lsa hat hol (hos.t.t.c (vm_64t _)) hom hox hl
  refine lv_lshr C.1 C.2.1 hd (v := Int64.ofInt (vm_lshr a b)) (by unfold vm_lshr; rw [Int64.ofInt_toInt]) ?_
  exact K1
theorem vm_s_lcmp (C : vm_Cx p R s m args meth c dC dI ad CA A f d m0 ph n0) {pc : Nat} {ls : vm_L} {mem : vm_M} {a b : Int} {r : List vm_V}  (hd : decode (vm_cb f) pc = .ok (.lcmp, 1)) (K : vm_Wx p l e R s m args below meth c cells slots Q dC dI ad CA A ph f m0 n0 (pc + 1) ls (vm_i (if a < b then -1 else if a = b then 0 else 1) :: r) mem) : vm_Wx p l e R s m args below meth c cells slots Q dC dI ad CA A ph f m0 n0 pc ls (vm_l b :: vm_l a :: r) mem := by
  intro H locs lsa hat hol hos hom hox hl
  have K1 := K H locs lsa hat hol (hos.t.t.c vm_lcm32) hom hox hl
  refine W.lcmp C.1 C.2.1 hd  ?_
  rw [vm_lcm (show vm_64 a from hos.t.h) (show vm_64 b from hos.h)]
  exact K1
theorem vm_s_i2l (C : vm_Cx p R s m args meth c dC dI ad CA A f d m0 ph n0) {pc : Nat} {ls : vm_L} {mem : vm_M} {a : Int} {r : List vm_V}  (hd : decode (vm_cb f) pc = .ok (.i2l, 1)) (K : vm_Wx p l e R s m args below meth c cells slots Q dC dI ad CA A ph f m0 n0 (pc + 1) ls (vm_l a :: r) mem) : vm_Wx p l e R s m args below meth c cells slots Q dC dI ad CA A ph f m0 n0 pc ls (vm_i a :: r) mem := by
  intro H locs lsa hat hol hos hom hox hl
  have K1 := K H locs lsa hat hol (hos.t.c (show vm_64 a from ⟨by have := (show vm_32 a from hos.h); omega, by have := (show vm_32 a from hos.h); omega⟩)) hom hox hl
  refine lv_i2l C.1 C.2.1 hd (vm_toL (show vm_32 a from hos.h)) ?_
  exact K1
theorem vm_s_l2i (C : vm_Cx p R s m args meth c dC dI ad CA A f d m0 ph n0) {pc : Nat} {ls : vm_L} {mem : vm_M} {a : Int} {r : List vm_V}  (hd : decode (vm_cb f) pc = .ok (.l2i, 1)) (K : vm_Wx p l e R s m args below meth c cells slots Q dC dI ad CA A ph f m0 n0 (pc + 1) ls (vm_i (vm_w32 a) :: r) mem) : vm_Wx p l e R s m args below meth c cells slots Q dC dI ad CA A ph f m0 n0 pc ls (vm_l a :: r) mem := by
  intro H locs lsa hat hol hos hom hox hl
  have K1 := K H locs lsa hat hol (hos.t.c (vm_32t _)) hom hox hl
  refine lv_l2i C.1 C.2.1 hd (v := Int32.ofInt (vm_w32 a)) (by rw [Int64.toInt32_ofInt]; exact (Int32.ofInt_toInt _).symm) ?_
  exact K1
theorem vm_s_i2b (C : vm_Cx p R s m args meth c dC dI ad CA A f d m0 ph n0) {pc : Nat} {ls : vm_L} {mem : vm_M} {a : Int} {r : List vm_V}  (hd : decode (vm_cb f) pc = .ok (.i2b, 1)) (K : vm_Wx p l e R s m args below meth c cells slots Q dC dI ad CA A ph f m0 n0 (pc + 1) ls (vm_i (vm_w8 a) :: r) mem) : vm_Wx p l e R s m args below meth c cells slots Q dC dI ad CA A ph f m0 n0 pc ls (vm_i a :: r) mem := by
  intro H locs lsa hat hol hos hom hox hl
  have K1 := K H locs lsa hat hol (hos.t.c (vm_32t _)) hom hox hl
  refine lv_i2b C.1 C.2.1 hd (v := Int32.ofInt (vm_w8 a)) (Int32.ofInt_toInt _).symm ?_
  exact K1
theorem vm_s_i2f (C : vm_Cx p R s m args meth c dC dI ad CA A f d m0 ph n0) {pc : Nat} {ls : vm_L} {mem : vm_M} {a : Int} {r : List vm_V}  (hd : decode (vm_cb f) pc = .ok (.i2f, 1)) (K : vm_Wx p l e R s m args below meth c cells slots Q dC dI ad CA A ph f m0 n0 (pc + 1) ls (vm_f (FP.i2f (Int32.ofInt a)) :: r) mem) : vm_Wx p l e R s m args below meth c cells slots Q dC dI ad CA A ph f m0 n0 pc ls (vm_i a :: r) mem := by
  intro H locs lsa hat hol hos hom hox hl
  have K1 := K H locs lsa hat hol (hos.t.c trivial) hom hox hl
  refine lv_i2f C.1 C.2.1 hd  ?_
  exact K1
theorem vm_s_i2d (C : vm_Cx p R s m args meth c dC dI ad CA A f d m0 ph n0) {pc : Nat} {ls : vm_L} {mem : vm_M} {a : Int} {r : List vm_V}  (hd : decode (vm_cb f) pc = .ok (.i2d, 1)) (K : vm_Wx p l e R s m args below meth c cells slots Q dC dI ad CA A ph f m0 n0 (pc + 1) ls (vm_d (FP.i2d (Int32.ofInt a)) :: r) mem) : vm_Wx p l e R s m args below meth c cells slots Q dC dI ad CA A ph f m0 n0 pc ls (vm_i a :: r) mem := by
  intro H locs lsa hat hol hos hom hox hl
  have K1 := K H locs lsa hat hol (hos.t.c trivial) hom hox hl
  refine lv_i2d C.1 C.2.1 hd  ?_
  exact K1
theorem vm_s_f2d (C : vm_Cx p R s m args meth c dC dI ad CA A f d m0 ph n0) {pc : Nat} {ls : vm_L} {mem : vm_M} {a : UInt32} {r : List vm_V} (h : vf_n64 (FP.f2d a)) (hd : decode (vm_cb f) pc = .ok (.f2d, 1)) (K : vm_Wx p l e R s m args below meth c cells slots Q dC dI ad CA A ph f m0 n0 (pc + 1) ls (vm_d (FP.f2d a) :: r) mem) : vm_Wx p l e R s m args below meth c cells slots Q dC dI ad CA A ph f m0 n0 pc ls (vm_f a :: r) mem := by
  intro H locs lsa hat hol hos hom hox hl
  have K1 := K H locs lsa hat hol (hos.t.c trivial) hom hox hl
  refine lv_f2d C.1 C.2.1 hd h ?_
  exact K1
theorem vm_s_fdiv (C : vm_Cx p R s m args meth c dC dI ad CA A f d m0 ph n0) {pc : Nat} {ls : vm_L} {mem : vm_M} {a b : UInt32} {r : List vm_V} (h : vf_n32 (FP.fdiv a b)) (hd : decode (vm_cb f) pc = .ok (.fdiv, 1)) (K : vm_Wx p l e R s m args below meth c cells slots Q dC dI ad CA A ph f m0 n0 (pc + 1) ls (vm_f (FP.fdiv a b) :: r) mem) : vm_Wx p l e R s m args below meth c cells slots Q dC dI ad CA A ph f m0 n0 pc ls (vm_f b :: vm_f a :: r) mem := by
  intro H locs lsa hat hol hos hom hox hl
  have K1 := K H locs lsa hat hol (hos.t.t.c trivial) hom hox hl
  refine lv_fdiv C.1 C.2.1 hd h ?_
  exact K1
theorem vm_s_ddiv (C : vm_Cx p R s m args meth c dC dI ad CA A f d m0 ph n0) {pc : Nat} {ls : vm_L} {mem : vm_M} {a b : UInt64} {r : List vm_V} (h : vf_n64 (FP.ddiv a b)) (hd : decode (vm_cb f) pc = .ok (.ddiv, 1)) (K : vm_Wx p l e R s m args below meth c cells slots Q dC dI ad CA A ph f m0 n0 (pc + 1) ls (vm_d (FP.ddiv a b) :: r) mem) : vm_Wx p l e R s m args below meth c cells slots Q dC dI ad CA A ph f m0 n0 pc ls (vm_d b :: vm_d a :: r) mem := by
  intro H locs lsa hat hol hos hom hox hl
  have K1 := K H locs lsa hat hol (hos.t.t.c trivial) hom hox hl
  refine lv_ddiv C.1 C.2.1 hd h ?_
  exact K1
theorem vm_s_dcmp (C : vm_Cx p R s m args meth c dC dI ad CA A f d m0 ph n0) {pc : Nat} {ls : vm_L} {mem : vm_M} {a b : UInt64} {op : CmpOp} {r : List vm_V}  (hd : decode (vm_cb f) pc = .ok (.dcmp op, 1)) (K : vm_Wx p l e R s m args below meth c cells slots Q dC dI ad CA A ph f m0 n0 (pc + 1) ls (vm_i (Op.cmpValue (FP.dcmp a b) op).toInt :: r) mem) : vm_Wx p l e R s m args below meth c cells slots Q dC dI ad CA A ph f m0 n0 pc ls (vm_d b :: vm_d a :: r) mem := by
  intro H locs lsa hat hol hos hom hox hl
  have K1 := K H locs lsa hat hol (hos.t.t.c (vm_32t _)) hom hox hl
  refine lv_dcmp C.1 C.2.1 hd  ?_
  rw [← Int32.ofInt_toInt (Op.cmpValue (FP.dcmp a b) op)]
  exact K1
theorem vm_s_dup (C : vm_Cx p R s m args meth c dC dI ad CA A f d m0 ph n0) {pc : Nat} {ls : vm_L} {mem : vm_M} {v : vm_V} {r : List vm_V} (h : vm_cat v = 1) (hd : decode (vm_cb f) pc = .ok (.dup, 1)) (K : vm_Wx p l e R s m args below meth c cells slots Q dC dI ad CA A ph f m0 n0 (pc + 1) ls (v :: v :: r) mem) : vm_Wx p l e R s m args below meth c cells slots Q dC dI ad CA A ph f m0 n0 pc ls (v :: r) mem := by
  intro H locs lsa hat hol hos hom hox hl
  exact lv_dup C.1 C.2.1 hd (by rw [vm_v_cat]; exact h) (K H locs lsa hat hol (hos.c hos.h) hom hox hl)
theorem vm_s_dup2 (C : vm_Cx p R s m args meth c dC dI ad CA A f d m0 ph n0) {pc : Nat} {ls : vm_L} {mem : vm_M} {v w : vm_V} {r : List vm_V} (h : vm_cat v = 1 ∧ vm_cat w = 1) (hd : decode (vm_cb f) pc = .ok (.dup2, 1)) (K : vm_Wx p l e R s m args below meth c cells slots Q dC dI ad CA A ph f m0 n0 (pc + 1) ls (v :: w :: v :: w :: r) mem) : vm_Wx p l e R s m args below meth c cells slots Q dC dI ad CA A ph f m0 n0 pc ls (v :: w :: r) mem := by
  intro H locs lsa hat hol hos hom hox hl
  exact lv_dup2_11 C.1 C.2.1 hd (by rw [vm_v_cat]; exact h.1) (by rw [vm_v_cat]; exact h.2) (K H locs lsa hat hol ((hos.c hos.t.h).c hos.h) hom hox hl)
theorem vm_s_dconst (C : vm_Cx p R s m args meth c dC dI ad CA A f d m0 ph n0) {pc : Nat} {ls : vm_L} {mem : vm_M} {k : Fin 2} {r : List vm_V} (h : (k : Nat) = 0) (hd : decode (vm_cb f) pc = .ok (.dconst k, 1)) (K : vm_Wx p l e R s m args below meth c cells slots Q dC dI ad CA A ph f m0 n0 (pc + 1) ls (vm_d 0 :: r) mem) : vm_Wx p l e R s m args below meth c cells slots Q dC dI ad CA A ph f m0 n0 pc ls r mem := by
  intro H locs lsa hat hol hos hom hox hl
  obtain rfl : k = 0 := Fin.ext h
  exact lv_dconst0 C.1 C.2.1 hd (K H locs lsa hat hol (hos.c trivial) hom hox hl)
theorem vm_s_iinc (C : vm_Cx p R s m args meth c dC dI ad CA A f d m0 ph n0) {pc : Nat} {ls : vm_L} {mem : vm_M} {k : Nat} {n z : Int} {r : List vm_V} {l1 : vm_L} (hg : vm_gl ls k = some (vm_i z)) (hs : vm_s1 ls k (vm_i (z + n)) = some l1) (hlen : ls.length = vm_mx f) (h32 : vm_32 (z + n)) (hd : decode (vm_cb f) pc = .ok (.iinc k n, 3)) (K : vm_Wx p l e R s m args below meth c cells slots Q dC dI ad CA A ph f m0 n0 (pc + 3) l1 r mem) : vm_Wx p l e R s m args below meth c cells slots Q dC dI ad CA A ph f m0 n0 pc ls r mem := by
  intro H locs lsa hat hol hos hom hox hl
  obtain ⟨j, hj⟩ := List.getElem?_of_mem (vm_lv_mem.mpr ⟨k, vm_i z, by rw [Nat.zero_add], hg⟩ : (k, vm_v ad (vm_i z)) ∈ vm_lv ad 0 ls)
  exact lv_iinc C.1 C.2.1 hd hl hj (v := Int32.ofInt (z + n)) (Int32.ofInt_add z n).symm (by have := (vm_s1_some hs).2.1; omega) rfl (fun ls1 hl1 => K H locs ls1 hat (hol.s1 hs h32) hos hom hox (vm_lv_s1 hs hl1))
theorem vm_ldcwf (hexec : p.tables.exec = Jvm.exec) {cc : ByteArray} (hb : c.code = cc) {own : String} {index : Nat} {v : UInt32} {H : Heap} {locs : List Loc} {pc : Nat} {lsa : Array Slot} {rest : List Value} (hown : s.vm.findClass own = some m.cls) (hconst : (Jvm.Cond.constantFloat own index v).before args s = true) (hdg : decode cc pc = .ok (.ldc_w index, 3)) (k : W p l e R s m args below meth c H locs cells slots Q (F0 m (pc + 3) lsa (.float v :: rest))) : W p l e R s m args below meth c H locs cells slots Q (F0 m pc lsa rest) := by
  intro T hT X
  obtain ⟨t, a1, b1⟩ := k T hT X
  refine ⟨t, ?_, b1⟩
  obtain ⟨k1, cf, hk, hcf, hcp⟩ := Cond.constantFloat_spec hown hconst
  obtain ⟨k', hk', he⟩ := X.warmed.alike.2.2 _ _ hk
  subst hb
  have hdg1 : decode c.code (F0 m pc lsa rest).pc = .ok (.ldc_w index, 3) := hdg
  jvm_step X.here [hexec, hdg1, ldc_w.wp_float (s := T) (f := F0 m pc lsa rest) X.here.top hk' (by rw [he]; exact hcf) hcp]
  exact a1
theorem vm_ldcwS (hexec : p.tables.exec = Jvm.exec) {cc : ByteArray} (hb : c.code = cc) {own tx : String} {index q : Nat} {H : Heap} {locs : List Loc} {pc : Nat} {lsa : Array Slot} {rest : List Value} (hown : s.vm.findClass own = some m.cls) (hZ : vk_R own index tx q s) (hdg : decode cc pc = .ok (.ldc_w index, 3)) (k : W p l e R s m args below meth c H locs cells slots Q (F0 m (pc + 3) lsa (.ref q :: rest))) : W p l e R s m args below meth c H locs cells slots Q (F0 m pc lsa rest) := by
  intro T hT X
  obtain ⟨t, a1, b1⟩ := k T hT X
  exact ⟨t, X.ldcStringW hexec hown (text := tx) (a := q) hZ.1 hZ.2 (g := F0 m pc lsa rest) rfl (by rw [hb]; exact hdg) t a1, b1⟩
theorem vm_s_fconst (C : vm_Cx p R s m args meth c dC dI ad CA A f d m0 ph n0) {pc : Nat} {ls : vm_L} {mem : vm_M} {idx : Nat} {r : List vm_V} (hw : Cond.constantFloat (vm_cn (vm_mo f)) idx 3212836864 ∈ vm_W) (hd : decode (vm_cb f) pc = .ok (.ldc idx, 2)) (K : vm_Wx p l e R s m args below meth c cells slots Q dC dI ad CA A ph f m0 n0 (pc + 2) ls (vm_f (UInt32.ofNat 3212836864) :: r) mem) : vm_Wx p l e R s m args below meth c cells slots Q dC dI ad CA A ph f m0 n0 pc ls r mem := by
  intro H locs lsa hat hol hos hom hox hl
  exact lv_ldcf C.1 C.2.1 C.2.2.2.1 (C.2.2.2.2.1 _ hw) hd (K H locs lsa hat hol (hos.c trivial) hom hox hl)
theorem vm_s_fconstw (C : vm_Cx p R s m args meth c dC dI ad CA A f d m0 ph n0) {pc : Nat} {ls : vm_L} {mem : vm_M} {idx : Nat} {r : List vm_V} (hw : Cond.constantFloat (vm_cn (vm_mo f)) idx 3212836864 ∈ vm_W) (hd : decode (vm_cb f) pc = .ok (.ldc_w idx, 3)) (K : vm_Wx p l e R s m args below meth c cells slots Q dC dI ad CA A ph f m0 n0 (pc + 3) ls (vm_f (UInt32.ofNat 3212836864) :: r) mem) : vm_Wx p l e R s m args below meth c cells slots Q dC dI ad CA A ph f m0 n0 pc ls r mem := by
  intro H locs lsa hat hol hos hom hox hl
  exact vm_ldcwf C.1 C.2.1 C.2.2.2.1 (C.2.2.2.2.1 _ hw) hd (K H locs lsa hat hol (hos.c trivial) hom hox hl)
theorem vm_s_ldcs (C : vm_Cx p R s m args meth c dC dI ad CA A f d m0 ph n0) {pc : Nat} {ls : vm_L} {mem : vm_M} {idx k : Nat} {r : List vm_V} (hz : vk_R (vm_cn (vm_mo f)) idx (vm_tx k) (ad (1000 + k)) s) (hd : decode (vm_cb f) pc = .ok (.ldc idx, 2)) (K : vm_Wx p l e R s m args below meth c cells slots Q dC dI ad CA A ph f m0 n0 (pc + 2) ls (vm_r (1000 + k) :: r) mem) : vm_Wx p l e R s m args below meth c cells slots Q dC dI ad CA A ph f m0 n0 pc ls r mem := by
  intro H locs lsa hat hol hos hom hox hl
  exact va_ldcS C.1 C.2.1 C.2.2.2.1 hz hd (K H locs lsa hat hol (hos.c trivial) hom hox hl)
theorem vm_s_ldcws (C : vm_Cx p R s m args meth c dC dI ad CA A f d m0 ph n0) {pc : Nat} {ls : vm_L} {mem : vm_M} {idx k : Nat} {r : List vm_V} (hz : vk_R (vm_cn (vm_mo f)) idx (vm_tx k) (ad (1000 + k)) s) (hd : decode (vm_cb f) pc = .ok (.ldc_w idx, 3)) (K : vm_Wx p l e R s m args below meth c cells slots Q dC dI ad CA A ph f m0 n0 (pc + 3) ls (vm_r (1000 + k) :: r) mem) : vm_Wx p l e R s m args below meth c cells slots Q dC dI ad CA A ph f m0 n0 pc ls r mem := by
  intro H locs lsa hat hol hos hom hox hl
  exact vm_ldcwS C.1 C.2.1 C.2.2.2.1 hz hd (K H locs lsa hat hol (hos.c trivial) hom hox hl)
end VMS2
