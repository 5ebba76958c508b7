/-! ===== THE MACHINE OF NUMBERS: a small machine over whole numbers, whose steps are those of the bytecode (shown in a later part); all that is said of methods is said of it ===== -/
/-- a value: int, long, reference (none: null; some k: object k), float, double -/
abbrev vm_V : Type := Int ⊕ Int ⊕ Option Nat ⊕ UInt32 ⊕ UInt64
/-- the memory: object k, place i (a field's number, an array's index) -/
abbrev vm_M : Type := Nat → Int → Int
/-- an instruction: its kind, two numbers, a table -/
abbrev vm_I : Type := Instr × Nat × Nat × List (Int × Nat)
abbrev vm_L : Type := List (Option vm_V)
abbrev vm_S : Type := vm_L × List vm_V × vm_M × Bool
abbrev vm_i (z : Int) : vm_V := .inl z
abbrev vm_l (z : Int) : vm_V := .inr (.inl z)
abbrev vm_r (k : Nat) : vm_V := .inr (.inr (.inl (some k)))
abbrev vm_f (b : UInt32) : vm_V := .inr (.inr (.inr (.inl b)))
abbrev vm_d (b : UInt64) : vm_V := .inr (.inr (.inr (.inr b)))
abbrev vm_32 (z : Int) : Prop := -2147483648 ≤ z ∧ z ≤ 2147483647
abbrev vm_64 (z : Int) : Prop := -9223372036854775808 ≤ z ∧ z ≤ 9223372036854775807
def vm_st (m : vm_M) (k : Nat) (i v : Int) : vm_M := fun a b => if a = k ∧ b = i then v else m a b
def vm_cp (m : vm_M) (s : Nat) (sp : Int) (d : Nat) (dp n : Int) : vm_M := fun a b => if a = d ∧ dp ≤ b ∧ b < dp + n then m s (sp + (b - dp)) else m a b
def vm_zr (m : vm_M) (k : Nat) : vm_M := fun a b => if a = k then 0 else m a b
/-- wrapped numbers -/
def vm_w32 (z : Int) : Int := (Int32.ofInt z).toInt
def vm_w8 (z : Int) : Int := (Int32.ofInt z).toInt8.toInt32.toInt
def vm_shl (a b : Int) : Int := (Int32.ofInt a <<< (Int32.ofInt b &&& 31)).toInt
def vm_shr (a b : Int) : Int := (Int32.ofInt a >>> (Int32.ofInt b &&& 31)).toInt
def vm_ushr (a b : Int) : Int := ((Int32.ofInt a).toUInt32 >>> ((Int32.ofInt b).toUInt32 &&& Int32.toUInt32 31)).toInt32.toInt
def vm_and (a b : Int) : Int := (Int32.ofInt a &&& Int32.ofInt b).toInt
def vm_or (a b : Int) : Int := (Int32.ofInt a ||| Int32.ofInt b).toInt
def vm_lshr (a b : Int) : Int := (Int64.ofInt a >>> ((Int32.ofInt b).toInt64 &&& 63)).toInt
def vm_land (a b : Int) : Int := (Int64.ofInt a &&& Int64.ofInt b).toInt
def vm_gl : vm_L → Nat → Option vm_V
  | [], _ => none
  | x :: _, 0 => x
  | _ :: r, n + 1 => vm_gl r n
def vm_sl : vm_L → Nat → Option vm_V → vm_L
  | [], _, _ => []
  | _ :: r, 0, v => v :: r
  | x :: r, n + 1, v => x :: vm_sl r n v
/-- is it of two slots -/
def vm_c2 : Option vm_V → Bool
  | some (.inr (.inl _)) => true
  | some (.inr (.inr (.inr (.inr _)))) => true
  | _ => false
def vm_pv (ls : vm_L) : Nat → Bool
  | 0 => false
  | n + 1 => vm_c2 (vm_gl ls n)
/-- a store of one slot, of two slots -/
def vm_s1 (ls : vm_L) (i : Nat) (v : vm_V) : Option vm_L := bif vm_pv ls i || !decide (i < ls.length) then none else some (vm_sl ls i (some v))
def vm_s2 (ls : vm_L) (i : Nat) (v : vm_V) : Option vm_L := bif vm_pv ls i || !decide (i + 1 < ls.length) then none else some (vm_sl (vm_sl ls i (some v)) (i + 1) none)
def vm_cat : vm_V → Nat
  | .inr (.inl _) => 2
  | .inr (.inr (.inr (.inr _))) => 2
  | _ => 1
def vm_cats : List vm_V → Nat
  | [] => 0
  | v :: r => vm_cat v + vm_cats r
