/-! ===== THE MACHINE OF NUMBERS, method by method ===== -/
def vm_mi (f : Nat) : Nat × Nat × Nat × Nat × Nat × Nat × Nat × Bool := vm_tab.getD f (0, 0, 0, 0, 0, 0, 0, true)
def vm_mx (f : Nat) : Nat := (vm_mi f).1
def vm_rk (f : Nat) : Nat := (vm_mi f).2.1
def vm_ht (f : Nat) : Nat := (vm_mi f).2.2.1
def vm_mo (f : Nat) : Nat := (vm_mi f).2.2.2.1
def vm_na (f : Nat) : Nat := (vm_mi f).2.2.2.2.1
def vm_mc (f : Nat) : Nat := (vm_mi f).2.2.2.2.2.1
def vm_ms (f : Nat) : Nat := (vm_mi f).2.2.2.2.2.2.1
def vm_sta (f : Nat) : Bool := (vm_mi f).2.2.2.2.2.2.2
def vm_look (pc : Nat) : List (Nat × Nat × vm_I) → Option (vm_I × Nat)
  | [] => none
  | q :: r => bif q.1 == pc then some (q.2.2, q.2.1) else vm_look pc r
def vm_at (f pc : Nat) : Option (vm_I × Nat) := vm_look pc (vm_code.getD f [])
/-- 0 a step, 1 a jump, 2 a return, 3 a call, 4 a making -/
def vm_kd (i : vm_I) : Nat :=
  match i.1 with
  | .goto _ => 1
  | .ifCond _ _ => 1
  | .if_icmp _ _ => 1
  | .ifnull _ => 1
  | .ifnonnull _ => 1
  | .tableswitch _ _ _ _ => 1
  | .ireturn => 2
  | .lreturn => 2
  | .freturn => 2
  | .dreturn => 2
  | .return_ => 2
  | .invokevirtual _ => bif Nat.blt i.2.1 1000 then 3 else 0
  | .invokestatic _ => bif Nat.blt i.2.1 1000 then 3 else 0
  | .invokespecial _ => bif Nat.blt i.2.1 1000 then 3 else 0
  | .new _ => 4
  | .newarray _ => 4
  | .anewarray _ => 4
  | _ => 0
def vm_jmp (i : vm_I) (nx : Nat) (st : List vm_V) : Option (Nat × List vm_V) :=
  match i.1 with
  | .goto _ => some (i.2.1, st)
  | .ifCond c _ => (match st with
    | .inl x :: r => some (cond (vm_cc c x 0) i.2.1 nx, r)
    | _ => none)
  | .if_icmp c _ => (match st with
    | .inl y :: .inl x :: r => some (cond (vm_cc c x y) i.2.1 nx, r)
    | _ => none)
  | .ifnull _ => (match st with
    | .inr (.inr (.inl (some _))) :: r => some (nx, r)
    | _ => none)
  | .ifnonnull _ => (match st with
    | .inr (.inr (.inl (some _))) :: r => some (i.2.1, r)
    | _ => none)
  | .tableswitch _ _ _ _ => (match st with
    | .inl x :: r => some (vm_sw i.2.1 x i.2.2.2, r)
    | _ => none)
  | _ => none
/-- what a return answers, and whether it may -/
def vm_re (i : vm_I) (st : List vm_V) : Option (Option vm_V × Bool) :=
  match i.1, st with
  | .ireturn, [.inl v] => (match i.2.1 with
    | 1 => some (some (vm_i v), true)
    | 2 => some (some (vm_i v), decide (v = 0 ∨ v = 1))
    | _ => none)
  | .lreturn, [.inr (.inl v)] => some (some (vm_l v), true)
  | .freturn, [.inr (.inr (.inr (.inl v)))] => some (some (vm_f v), true)
  | .dreturn, [.inr (.inr (.inr (.inr v)))] => some (some (vm_d v), true)
  | .return_, [] => some (none, true)
  | _, _ => none
def vm_ea : List vm_V → vm_L
  | [] => []
  | v :: r => some v :: (bif vm_cat v == 2 then none :: vm_ea r else vm_ea r)
/-- the locals at a method's entry -/
def vm_en (f : Nat) (av : List vm_V) : vm_L := vm_ea av ++ List.replicate (vm_mx f - (vm_ea av).length) none
/-- may f be called with these -/
def vm_okh (g : Nat) : List vm_V → Bool
  | [] => true
  | .inr (.inr (.inl (some k))) :: _ => vm_sta g || vm_is k (vm_mo g)
  | _ => vm_sta g
def vm_okn (g n w kc ks e : Nat) : Bool := Nat.beq n (vm_na g) && Nat.ble w 8 && Nat.ble (vm_mc g) kc && Nat.ble (vm_ms g) ks && Nat.ble e (vm_mx g)
def vm_okc (g : Nat) (av rest : List vm_V) (kc ks : Nat) : Bool := vm_okh g av && vm_okn g av.length (vm_cats rest) kc ks (vm_ea av).length
/-- making (constructors alone): object k is the one whose number memory holds -/
def vm_mk (i : vm_I) (st : List vm_V) (m : vm_M) : Option (List vm_V × vm_M × Nat × Bool) :=
  match i.1 with
  | .new _ => some (vm_r (m 990 0).toNat :: st, vm_st (vm_zr m (m 990 0).toNat) 990 0 (m 990 0 + 1), vm_nf i.2.1, vm_is (m 990 0).toNat i.2.1)
  | .newarray _ => (match st with
    | .inl n :: r => some (vm_r (m 990 0).toNat :: r, vm_st (vm_zr m (m 990 0).toNat) 990 0 (m 990 0 + 1), i.2.2.1, vm_ar (m 990 0).toNat i.2.1 i.2.2.1 && decide (n = (i.2.2.1 : Nat)))
    | _ => none)
  | .anewarray _ => (match st with
    | .inl n :: r => some (vm_r (m 990 0).toNat :: r, vm_st (vm_zr m (m 990 0).toNat) 990 0 (m 990 0 + 1), i.2.2.1, vm_ar (m 990 0).toNat 104 i.2.2.1 && decide (n = (i.2.2.1 : Nat)))
    | _ => none)
  | _ => none
/-- while objects are being made: the references at hand are of objects that are made already -/
def vm_pr1 (m : vm_M) (v : vm_V) : Bool :=
  match v with
  | .inr (.inr (.inl (some k))) => decide ((k : Int) < m 990 0) || Nat.ble 900 k
  | _ => true
def vm_pre (ph : Bool) (st : List vm_V) (m : vm_M) : Bool := bif ph then st.all (vm_pr1 m) else true
/-- from here on method f comes to an end at which Q holds; n: how many steps at most, d: how many calls deep, kc, ks: how many cells and slots may still be made -/
def vm_wp (ph : Bool) : Nat → Nat → Nat → Nat → Nat → Nat → vm_L → List vm_V → vm_M → (Option vm_V → vm_M → Prop) → Prop
  | 0, _, _, _, _, _, _, _, _, _ => False
  | n + 1, d, f, kc, ks, pc, ls, st, m, Q =>
    match vm_at f pc with
    | none => False
    | some (i, len) =>
      match vm_kd i with
      | 0 => (match vm_x ph i ls st m true with
        | some s => (s.2.2.2 = true ∧ vm_pre ph st m = true) ∧ vm_wp ph n d f kc ks (pc + len) s.1 s.2.1 s.2.2.1 Q
        | none => False)
      | 1 => (match vm_jmp i (pc + len) st with
        | some q => vm_wp ph n d f kc ks q.1 ls q.2 m Q
        | none => False)
      | 2 => (match vm_re i st with
        | some q => (q.2 = true ∧ (bif ph then Nat.beq kc 0 else true) = true) ∧ Q q.1 m
        | none => False)
      | 3 => (match d with
        | 0 => False
        | d' + 1 => (vm_okc i.2.1 (st.take i.2.2.1).reverse (st.drop i.2.2.1) kc ks = true ∧ vm_pre ph st m = true) ∧ vm_wp ph n d' i.2.1 (vm_mc i.2.1) (vm_ms i.2.1) 0 (vm_en i.2.1 (st.take i.2.2.1).reverse) [] m (fun r m' => vm_wp ph n d f (kc - vm_mc i.2.1) (ks - vm_ms i.2.1) (pc + len) ls (r.toList ++ st.drop i.2.2.1) m' Q))
      | _ => bif ph then (match vm_mk i st m with
        | some q => q.2.2.2 = true ∧ 1 ≤ kc ∧ q.2.2.1 ≤ ks ∧ vm_wp ph n d f (kc - 1) (ks - q.2.2.1) (pc + len) ls q.1 q.2.1 Q
        | none => False) else False
