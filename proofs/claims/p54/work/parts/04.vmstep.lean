def vm_cc (c : Jvm.ClassFile.Cond) (x y : Int) : Bool :=
  match c with
  | .eq => decide (x = y)
  | .ne => decide (¬ x = y)
  | .lt => decide (x < y)
  | .ge => decide (y ≤ x)
  | .gt => decide (y < x)
  | .le => decide (x ≤ y)
def vm_sw (d : Nat) (x : Int) : List (Int × Nat) → Nat
  | [] => d
  | q :: r => bif decide (x = q.1) then q.2 else vm_sw d x r
/-- a step that goes on to the next instruction; 'ob' gathers what must hold -/
def vm_x (ph : Bool) (i : vm_I) (ls : vm_L) (st : List vm_V) (m : vm_M) (ob : Bool) : Option vm_S :=
  match i.1 with
  | .iconst n => some (ls, vm_i n :: st, m, ob)
  | .ldc2_w _ => (match i.2.2.2 with
    | q :: _ => some (ls, vm_l q.1 :: st, m, ob)
    | _ => none)
  | .fconst _ => some (ls, vm_f (UInt32.ofNat i.2.1) :: st, m, ob)
  | .dconst _ => some (ls, vm_d 0 :: st, m, ob)
  | .ldc _ => some (ls, vm_r (1000 + i.2.1) :: st, m, ob)
  | .getstatic _ => some (ls, vm_r i.2.1 :: st, m, ob)
  | .iload k => (match vm_gl ls k with
    | some (.inl z) => some (ls, vm_i z :: st, m, ob)
    | _ => none)
  | .lload k => (match vm_gl ls k with
    | some (.inr (.inl z)) => some (ls, vm_l z :: st, m, ob)
    | _ => none)
  | .aload k => (match vm_gl ls k with
    | some (.inr (.inr (.inl (some z)))) => some (ls, vm_r z :: st, m, ob)
    | _ => none)
  | .dload k => (match vm_gl ls k with
    | some (.inr (.inr (.inr (.inr z)))) => some (ls, vm_d z :: st, m, ob)
    | _ => none)
  | .istore k => (match st with
    | .inl z :: r => (match vm_s1 ls k (vm_i z) with
      | some l => some (l, r, m, ob)
      | none => none)
    | _ => none)
  | .astore k => (match st with
    | .inr (.inr (.inl (some z))) :: r => (match vm_s1 ls k (vm_r z) with
      | some l => some (l, r, m, ob)
      | none => none)
    | _ => none)
  | .lstore k => (match st with
    | .inr (.inl z) :: r => (match vm_s2 ls k (vm_l z) with
      | some l => some (l, r, m, ob)
      | none => none)
    | _ => none)
  | .dstore k => (match st with
    | .inr (.inr (.inr (.inr z))) :: r => (match vm_s2 ls k (vm_d z) with
      | some l => some (l, r, m, ob)
      | none => none)
    | _ => none)
  | .iinc k n => (match vm_gl ls k with
    | some (.inl z) => (match vm_s1 ls k (vm_i (z + n)) with
      | some l => some (l, st, m, ob && decide (vm_32 (z + n)))
      | none => none)
    | _ => none)
  | .iadd => (match st with
    | .inl b :: .inl a :: r => some (ls, vm_i (a + b) :: r, m, ob && decide (vm_32 (a + b)))
    | _ => none)
  | .isub => (match st with
    | .inl b :: .inl a :: r => bif i.2.1 == 1 then some (ls, vm_i (vm_w32 (a - b)) :: r, m, ob) else some (ls, vm_i (a - b) :: r, m, ob && decide (vm_32 (a - b)))
    | _ => none)
  | .imul => (match st with
    | .inl b :: .inl a :: r => some (ls, vm_i (a * b) :: r, m, ob && decide (vm_32 (a * b)))
    | _ => none)
  | .idiv => (match st with
    | .inl b :: .inl a :: r => bif i.2.1 == 1 then some (ls, vm_i (a.tdiv b) :: r, m, ob && decide (¬ b = 0 ∧ vm_32 (a.tdiv b))) else some (ls, vm_i (a / b) :: r, m, ob && decide (0 ≤ a ∧ 0 < b))
    | _ => none)
  | .irem => (match st with
    | .inl b :: .inl a :: r => some (ls, vm_i (a % b) :: r, m, ob && decide (0 ≤ a ∧ 0 < b))
    | _ => none)
  | .ineg => (match st with
    | .inl a :: r => some (ls, vm_i (-a) :: r, m, ob && decide (vm_32 (-a)))
    | _ => none)
  | .ishl => (match st with
    | .inl b :: .inl a :: r => some (ls, vm_i (vm_shl a b) :: r, m, ob)
    | _ => none)
  | .ishr => (match st with
    | .inl b :: .inl a :: r => some (ls, vm_i (vm_shr a b) :: r, m, ob)
    | _ => none)
  | .iushr => (match st with
    | .inl b :: .inl a :: r => some (ls, vm_i (vm_ushr a b) :: r, m, ob)
    | _ => none)
  | .iand => (match st with
    | .inl b :: .inl a :: r => some (ls, vm_i (vm_and a b) :: r, m, ob)
    | _ => none)
  | .ior => (match st with
    | .inl b :: .inl a :: r => some (ls, vm_i (vm_or a b) :: r, m, ob)
    | _ => none)
  | .ladd => (match st with
    | .inr (.inl b) :: .inr (.inl a) :: r => some (ls, vm_l (a + b) :: r, m, ob && decide (vm_64 (a + b)))
    | _ => none)
  | .lsub => (match st with
    | .inr (.inl b) :: .inr (.inl a) :: r => some (ls, vm_l (a - b) :: r, m, ob && decide (vm_64 (a - b)))
    | _ => none)
  | .lmul => (match st with
    | .inr (.inl b) :: .inr (.inl a) :: r => some (ls, vm_l (a * b) :: r, m, ob && decide (vm_64 (a * b)))
    | _ => none)
  | .land => (match st with
    | .inr (.inl b) :: .inr (.inl a) :: r => some (ls, vm_l (vm_land a b) :: r, m, ob)
    | _ => none)
  | .lshr => (match st with
    | .inl b :: .inr (.inl a) :: r => some (ls, vm_l (vm_lshr a b) :: r, m, ob)
    | _ => none)
  | .lcmp => (match st with
    | .inr (.inl b) :: .inr (.inl a) :: r => some (ls, vm_i (if a < b then -1 else if a = b then 0 else 1) :: r, m, ob)
    | _ => none)
  | .i2l => (match st with
    | .inl a :: r => some (ls, vm_l a :: r, m, ob)
    | _ => none)
  | .l2i => (match st with
    | .inr (.inl a) :: r => some (ls, vm_i (vm_w32 a) :: r, m, ob)
    | _ => none)
  | .i2b => (match st with
    | .inl a :: r => some (ls, vm_i (vm_w8 a) :: r, m, ob)
    | _ => none)
  | .i2f => (match st with
    | .inl a :: r => some (ls, vm_f (FP.i2f (Int32.ofInt a)) :: r, m, ob)
    | _ => none)
  | .i2d => (match st with
    | .inl a :: r => some (ls, vm_d (FP.i2d (Int32.ofInt a)) :: r, m, ob)
    | _ => none)
  | .f2d => (match st with
    | .inr (.inr (.inr (.inl a))) :: r => some (ls, vm_d (FP.f2d a) :: r, m, ob && decide (FP.f2d a &&& 0x7fffffffffffffff ≤ 0x7ff0000000000000))
    | _ => none)
  | .fdiv => (match st with
    | .inr (.inr (.inr (.inl b))) :: .inr (.inr (.inr (.inl a))) :: r => some (ls, vm_f (FP.fdiv a b) :: r, m, ob && decide (FP.fdiv a b &&& 0x7fffffff ≤ 0x7f800000))
    | _ => none)
  | .ddiv => (match st with
    | .inr (.inr (.inr (.inr b))) :: .inr (.inr (.inr (.inr a))) :: r => some (ls, vm_d (FP.ddiv a b) :: r, m, ob && decide (FP.ddiv a b &&& 0x7fffffffffffffff ≤ 0x7ff0000000000000))
    | _ => none)
  | .dcmp op => (match st with
    | .inr (.inr (.inr (.inr b))) :: .inr (.inr (.inr (.inr a))) :: r => some (ls, vm_i (Op.cmpValue (FP.dcmp a b) op).toInt :: r, m, ob)
    | _ => none)
  | .dup => (match st with
    | a :: r => bif vm_cat a == 1 then some (ls, a :: a :: r, m, ob) else none
    | _ => none)
  | .dup2 => (match st with
    | a :: b :: r => bif vm_cat a == 1 && vm_cat b == 1 then some (ls, a :: b :: a :: b :: r, m, ob) else none
    | _ => none)
  | .getfield t => (match st with
    | .inr (.inr (.inl (some k))) :: r => (match t with
      | 0 => some (ls, vm_i (m k (i.2.2.1 : Nat)) :: r, m, ob && vm_is k i.2.1)
      | 1 => some (ls, vm_l (m k (i.2.2.1 : Nat)) :: r, m, ob && vm_is k i.2.1)
      | _ => (match i.2.2.2 with
        | q :: _ => some (ls, vm_r (bif q.2 == 0 then q.1.toNat else k + q.1.toNat) :: r, m, ob && vm_is k i.2.1 && (bif ph then decide (m k (i.2.2.1 : Nat) = 1) else true))
        | _ => none))
    | _ => none)
  | .putfield t => (match st with
    | .inl v :: .inr (.inr (.inl (some k))) :: r => (match t with
      | 0 => some (ls, r, vm_st m k (i.2.2.1 : Nat) v, ob && vm_is k i.2.1)
      | 3 => some (ls, r, vm_st m k (i.2.2.1 : Nat) v, ob && vm_is k i.2.1 && decide (v = 0 ∨ v = 1))
      | _ => none)
    | .inr (.inl v) :: .inr (.inr (.inl (some k))) :: r => (match t with
      | 1 => some (ls, r, vm_st m k (i.2.2.1 : Nat) v, ob && vm_is k i.2.1)
      | _ => none)
    | .inr (.inr (.inl (some v))) :: .inr (.inr (.inl (some k))) :: r => (match t, i.2.2.2 with
      | 2, q :: _ => bif ph then some (ls, r, vm_st m k (i.2.2.1 : Nat) 1, ob && vm_is k i.2.1 && decide (v = bif q.2 == 0 then q.1.toNat else k + q.1.toNat)) else none
      | _, _ => none)
    | _ => none)
  | .iaload => (match st with
    | .inl j :: .inr (.inr (.inl (some k))) :: r => bif i.2.1 == 0 then some (ls, vm_i (m 902 j) :: r, m, ob && decide (k = 902) && decide (0 ≤ j ∧ j < m 903 0))
      else bif i.2.2.1 == 1 then some (ls, vm_i (m k j) :: r, m, ob && decide (k = 900 ∨ k = 901) && decide (0 ≤ j ∧ j < 6))
      else some (ls, vm_i (m k j) :: r, m, ob && vm_ar k 100 i.2.1 && decide (0 ≤ j ∧ j < (i.2.1 : Nat)))
    | _ => none)
  | .baload => (match st with
    | .inl j :: .inr (.inr (.inl (some k))) :: r => some (ls, vm_i (m k j) :: r, m, ob && vm_ar k i.2.2.1 i.2.1 && decide (0 ≤ j ∧ j < (i.2.1 : Nat)))
    | _ => none)
  | .laload => (match st with
    | .inl j :: .inr (.inr (.inl (some k))) :: r => some (ls, vm_l (m k j) :: r, m, ob && vm_ar k 103 i.2.1 && decide (0 ≤ j ∧ j < (i.2.1 : Nat)))
    | _ => none)
  | .aaload => (match st with
    | .inl j :: .inr (.inr (.inl (some k))) :: r => (match i.2.2.2 with
      | q :: _ => some (ls, vm_r (q.1.toNat + 5 * j.toNat) :: r, m, ob && decide (k = i.2.2.1) && decide (0 ≤ j ∧ j < (i.2.1 : Nat)) && (bif ph then decide (m k j = 1) else true))
      | _ => none)
    | _ => none)
  | .iastore => (match st with
    | .inl v :: .inl j :: .inr (.inr (.inl (some k))) :: r => some (ls, r, vm_st m k j v, ob && vm_ar k 100 i.2.1 && decide (0 ≤ j ∧ j < (i.2.1 : Nat)))
    | _ => none)
  | .bastore => (match st with
    | .inl v :: .inl j :: .inr (.inr (.inl (some k))) :: r => bif i.2.2.1 == 102 then some (ls, r, vm_st m k j v, ob && vm_ar k 102 i.2.1 && decide (0 ≤ j ∧ j < (i.2.1 : Nat)) && decide (v = 0 ∨ v = 1))
      else some (ls, r, vm_st m k j v, ob && vm_ar k 101 i.2.1 && decide (0 ≤ j ∧ j < (i.2.1 : Nat)) && decide (-128 ≤ v ∧ v ≤ 127))
    | _ => none)
  | .lastore => (match st with
    | .inr (.inl v) :: .inl j :: .inr (.inr (.inl (some k))) :: r => some (ls, r, vm_st m k j v, ob && vm_ar k 103 i.2.1 && decide (0 ≤ j ∧ j < (i.2.1 : Nat)))
    | _ => none)
  | .aastore => (match st with
    | .inr (.inr (.inl (some v))) :: .inl j :: .inr (.inr (.inl (some k))) :: r => (match i.2.2.2 with
      | q :: _ => bif ph then some (ls, r, vm_st m k j 1, ob && decide (k = i.2.2.1) && decide (0 ≤ j ∧ j < (i.2.1 : Nat)) && decide (v = q.1.toNat + 5 * j.toNat) && vm_is v 4) else none
      | _ => none)
    | _ => none)
  | .arraylength => (match st with
    | .inr (.inr (.inl (some k))) :: r => some (ls, vm_i (m 903 0) :: r, m, ob && decide (k = 902))
    | _ => none)
  | .invokestatic _ => (match i.2.1, st with
    | 1000, .inl b :: .inl a :: r => some (ls, vm_i (if a < b then b else a) :: r, m, ob && decide (vm_cats r ≤ 8))
    | 1001, .inl b :: .inl a :: r => some (ls, vm_i (if b < a then b else a) :: r, m, ob && decide (vm_cats r ≤ 8))
    | 1002, .inl a :: r => some (ls, vm_i (if 0 ≤ a then a else 0 - a) :: r, m, ob && decide (vm_cats r ≤ 8) && decide (vm_32 (0 - a)))
    | 1003, .inl n :: .inl dp :: .inr (.inr (.inl (some d))) :: .inl sp :: .inr (.inr (.inl (some s))) :: r => some (ls, r, vm_cp m s sp d dp n, ob && decide (vm_cats r ≤ 8) && vm_ar s 100 i.2.2.1 && vm_ar d 100 i.2.2.1 && decide (0 ≤ sp ∧ 0 ≤ dp ∧ 0 ≤ n ∧ sp + n ≤ (i.2.2.1 : Nat) ∧ dp + n ≤ (i.2.2.1 : Nat)))
    | _, _ => none)
  | .invokevirtual _ => (match i.2.1, st with
    | 1004, .inr (.inr (.inl (some k))) :: r => some (ls, vm_i (vm_sn k) :: r, m, ob && decide (vm_cats r ≤ 8) && decide (1000 ≤ k ∧ k < 1000 + vm_sN))
    | 1005, .inl j :: .inr (.inr (.inl (some k))) :: r => some (ls, vm_i (vm_sc k j) :: r, m, ob && decide (vm_cats r ≤ 8) && decide (1000 ≤ k ∧ k < 1000 + vm_sN) && decide (0 ≤ j ∧ j < vm_sn k))
    | _, _ => none)
  | .invokespecial _ => (match i.2.1, st with
    | 1006, .inr (.inr (.inl (some k))) :: r => some (ls, r, m, ob && decide (vm_cats r ≤ 8) && decide (k < vm_N))
    | _, _ => none)
  | _ => none
