/-! ===== each instruction of the machine of numbers is that which the bytes decode to ===== -/
def vm_hasF (own idx c f : Nat) : Bool := vm_flL.any (fun e => Nat.beq e.1 own && Nat.beq e.2.1 idx && Nat.beq e.2.2.1 c && Nat.beq e.2.2.2.1 f)
def vm_hasM (own idx g : Nat) : Bool := vm_mlL.any (fun e => Nat.beq e.1 own && Nat.beq e.2.1 idx && Nat.beq e.2.2.1 g)
def vm_hasN (own idx g : Nat) : Bool := vm_nlL.any (fun e => Nat.beq e.1 own && Nat.beq e.2.1 idx && Nat.beq e.2.2.1 g)
def vm_hasC (own idx g : Nat) : Bool := vm_clkL.any (fun e => Nat.beq e.1 own && Nat.beq e.2.1 idx && Nat.beq e.2.2.1 g)
def vm_hasS (own idx g : Nat) : Bool := vm_slL.any (fun e => Nat.beq e.1 own && Nat.beq e.2.1 idx && Nat.beq e.2.2 g)
def vm_hasL (own idx : Nat) (v : Int) : Bool := vm_llL.any (fun e => Nat.beq e.1 own && Nat.beq e.2.1 idx && decide (e.2.2.1 = v))
def vm_hasE (own idx : Nat) : Bool := vm_ffL.any (fun e => Nat.beq e.1 own && Nat.beq e.2.1 idx)
def vm_hasT (own idx g : Nat) : Bool := vm_stL.any (fun e => Nat.beq e.1 own && Nat.beq e.2.1 idx && Nat.beq e.2.2.1 g)
def vm_hasB (own idx g : Nat) : Bool := vm_blL.any (fun e => Nat.beq e.1 own && Nat.beq e.2.1 idx && Nat.beq e.2.2.1 g)
def vm_at4 (t : ArrayType) : Nat :=
  match t with
  | .int => 100
  | .byte => 101
  | .boolean => 102
  | .long => 103
  | _ => 0
def vm_swok (pc : Nat) (lo : Int) : Nat → List Int → List (Int × Nat) → Bool
  | _, [], [] => true
  | j, o :: os, q :: qs => decide (q.1 = lo + (j : Int)) && decide ((pc : Int) + o = (q.2 : Int)) && vm_swok pc lo (j + 1) os qs
  | _, _, _ => false
def vm_tr (own f pc : Nat) (ins : Instr) (len : Nat) (i : vm_I) : Bool :=
  match i.1 with
  | .iconst n => decide (vm_32 n) && (match ins with
    | .iconst n' => decide (n' = n) && Nat.beq len 1
    | .bipush n' => decide ((Int8.ofInt n').toInt32 = Int32.ofInt n) && Nat.beq len 2
    | .sipush n' => decide ((Int16.ofInt n').toInt32 = Int32.ofInt n) && Nat.beq len 3
    | _ => false)
  | .ldc2_w _ => (match i.2.2.2 with
    | q :: _ => decide (vm_64 q.1) && (match ins with
      | .ldc2_w idx => vm_hasL own idx q.1 && Nat.beq len 3
      | .lconst n => decide (Int64.ofNat (n : Nat) = Int64.ofInt q.1) && Nat.beq len 1
      | _ => false)
    | _ => false)
  | .fconst _ => Nat.beq i.2.1 3212836864 && (match ins with
    | .ldc idx => vm_hasE own idx && Nat.beq len 2
    | .ldc_w idx => vm_hasE own idx && Nat.beq len 3
    | _ => false)
  | .dconst _ => (match ins with
    | .dconst n => Nat.beq (n : Nat) 0 && Nat.beq len 1
    | _ => false)
  | .ldc _ => (match ins with
    | .ldc idx => vm_hasS own idx i.2.1 && Nat.beq len 2
    | .ldc_w idx => vm_hasS own idx i.2.1 && Nat.beq len 3
    | _ => false)
  | .getstatic _ => (match ins with
    | .getstatic idx => vm_hasT own idx i.2.1 && Nat.beq len 3
    | _ => false)
  | .iload k => (match ins with
    | .iload j => Nat.beq j k && Nat.beq len 2
    | .iload_n j => Nat.beq (j : Nat) k && Nat.beq len 1
    | _ => false)
  | .lload k => (match ins with
    | .lload j => Nat.beq j k && Nat.beq len 2
    | .lload_n j => Nat.beq (j : Nat) k && Nat.beq len 1
    | _ => false)
  | .dload k => (match ins with
    | .dload j => Nat.beq j k && Nat.beq len 2
    | .dload_n j => Nat.beq (j : Nat) k && Nat.beq len 1
    | _ => false)
  | .aload k => (match ins with
    | .aload j => Nat.beq j k && Nat.beq len 2
    | .aload_n j => Nat.beq (j : Nat) k && Nat.beq len 1
    | _ => false)
  | .istore k => (match ins with
    | .istore j => Nat.beq j k && Nat.beq len 2
    | .istore_n j => Nat.beq (j : Nat) k && Nat.beq len 1
    | _ => false)
  | .lstore k => (match ins with
    | .lstore j => Nat.beq j k && Nat.beq len 2
    | .lstore_n j => Nat.beq (j : Nat) k && Nat.beq len 1
    | _ => false)
  | .dstore k => (match ins with
    | .dstore j => Nat.beq j k && Nat.beq len 2
    | .dstore_n j => Nat.beq (j : Nat) k && Nat.beq len 1
    | _ => false)
  | .astore k => (match ins with
    | .astore j => Nat.beq j k && Nat.beq len 2
    | .astore_n j => Nat.beq (j : Nat) k && Nat.beq len 1
    | _ => false)
  | .iinc k n => decide (vm_32 n) && (match ins with
    | .iinc k' n' => Nat.beq k k' && decide (n' = n) && Nat.beq len 3
    | _ => false)
  | .getfield t => (match ins with
    | .getfield idx => vm_hasF own idx i.2.1 i.2.2.1 && Nat.beq len 3 && Nat.blt i.2.2.1 (vm_nf i.2.1) && Nat.blt i.2.1 11 && (match t with
      | 0 => Nat.beq (vm_fk i.2.1 i.2.2.1) 0 || Nat.beq (vm_fk i.2.1 i.2.2.1) 3
      | 1 => Nat.beq (vm_fk i.2.1 i.2.2.1) 1
      | _ => Nat.beq (vm_fk i.2.1 i.2.2.1) 2 && decide (i.2.2.2 = [vm_rf i.2.1 i.2.2.1]))
    | _ => false)
  | .putfield t => (match ins with
    | .putfield idx => vm_hasF own idx i.2.1 i.2.2.1 && Nat.beq len 3 && Nat.blt i.2.2.1 (vm_nf i.2.1) && Nat.blt i.2.1 11 && (bif (vm_fd i.2.1 i.2.2.1).2.2 then decide ((vm_mt f).1 = "<init>") && Nat.beq own i.2.1 else true) && (match t with
      | 0 => Nat.beq (vm_fk i.2.1 i.2.2.1) 0
      | 3 => Nat.beq (vm_fk i.2.1 i.2.2.1) 3
      | 1 => Nat.beq (vm_fk i.2.1 i.2.2.1) 1
      | _ => Nat.beq (vm_fk i.2.1 i.2.2.1) 2 && decide (i.2.2.2 = [vm_rf i.2.1 i.2.2.1]))
    | _ => false)
  | .if_icmp c _ => (match ins with
    | .if_icmp c' o => decide (c' = c) && decide ((pc : Int) + o = (i.2.1 : Int)) && Nat.beq len 3
    | _ => false)
  | .ifCond c _ => (match ins with
    | .ifCond c' o => decide (c' = c) && decide ((pc : Int) + o = (i.2.1 : Int)) && Nat.beq len 3
    | _ => false)
  | .ifnull _ => (match ins with
    | .ifnull o => Nat.beq len 3
    | _ => false)
  | .ifnonnull _ => (match ins with
    | .ifnonnull o => decide ((pc : Int) + o = (i.2.1 : Int)) && Nat.beq len 3
    | _ => false)
  | .goto _ => (match ins with
    | .goto o => decide ((pc : Int) + o = (i.2.1 : Int)) && Nat.beq len 3
    | _ => false)
  | .tableswitch _ _ _ _ => (match ins with
    | .tableswitch d lo hi os => decide ((pc : Int) + d = (i.2.1 : Int)) && vm_swok pc lo 0 os.toList i.2.2.2 && decide (hi = lo + (i.2.2.2.length : Int) - 1)
    | _ => false)
  | .invokevirtual _ => (match ins with
    | .invokevirtual idx => Nat.beq len 3 && (bif Nat.blt i.2.1 1000 then vm_hasM own idx i.2.1 && vm_pr i.2.1 && !vm_sta i.2.1 && Nat.beq i.2.2.1 (vm_na i.2.1) && !decide ((vm_mt i.2.1).1 = "<init>") else vm_hasB own idx i.2.1)
    | _ => false)
  | .invokestatic _ => (match ins with
    | .invokestatic idx => Nat.beq len 3 && (bif Nat.blt i.2.1 1000 then vm_hasM own idx i.2.1 && vm_pr i.2.1 && vm_sta i.2.1 && Nat.beq i.2.2.1 (vm_na i.2.1) else vm_hasB own idx i.2.1)
    | _ => false)
  | .invokespecial _ => (match ins with
    | .invokespecial idx => Nat.beq len 3 && (bif Nat.blt i.2.1 1000 then (vm_hasM own idx i.2.1 || vm_hasN own idx i.2.1) && vm_pr i.2.1 && !vm_sta i.2.1 && Nat.beq i.2.2.1 (vm_na i.2.1) && decide ((vm_mt i.2.1).1 = "<init>") && decide (vm_ret i.2.1 = none) else vm_hasB own idx i.2.1)
    | _ => false)
  | .new _ => (match ins with
    | .new idx => Nat.beq len 3 && vm_hasC own idx i.2.1 && Nat.blt i.2.1 11
    | _ => false)
  | .newarray t => (match ins with
    | .newarray t' => Nat.beq len 2 && decide (t' = t) && Nat.beq i.2.1 (vm_at4 t) && Nat.blt i.2.2.1 10000 && Nat.blt 0 (vm_at4 t)
    | _ => false)
  | .anewarray _ => (match ins with
    | .anewarray idx => Nat.beq len 3 && vm_hasC own idx 4 && Nat.blt i.2.2.1 10000
    | _ => false)
  | .ireturn => decide (ins = .ireturn) && Nat.beq len 1 && Nat.beq i.2.1 (vm_rk f) && (Nat.beq i.2.1 1 || Nat.beq i.2.1 2)
  | .lreturn => decide (ins = .lreturn) && Nat.beq len 1 && Nat.beq 3 (vm_rk f)
  | .freturn => decide (ins = .freturn) && Nat.beq len 1 && Nat.beq 4 (vm_rk f)
  | .dreturn => decide (ins = .dreturn) && Nat.beq len 1 && Nat.beq 5 (vm_rk f)
  | .return_ => decide (ins = .return_) && Nat.beq len 1 && Nat.beq 0 (vm_rk f)
  | .aaload => decide (ins = .aaload) && Nat.beq len 1 && ((Nat.beq i.2.2.1 22 && Nat.beq i.2.1 8 && decide (i.2.2.2 = [(23, 0)])) || (Nat.beq i.2.2.1 63 && Nat.beq i.2.1 2 && decide (i.2.2.2 = [(86, 0)])))
  | .aastore => decide (ins = .aastore) && Nat.beq len 1 && ((Nat.beq i.2.2.1 22 && Nat.beq i.2.1 8 && decide (i.2.2.2 = [(23, 0)])) || (Nat.beq i.2.2.1 63 && Nat.beq i.2.1 2 && decide (i.2.2.2 = [(86, 0)])))
  | .baload => decide (ins = .baload) && Nat.beq len 1 && (Nat.beq i.2.2.1 101 || Nat.beq i.2.2.1 102)
  | .bastore => decide (ins = .bastore) && Nat.beq len 1 && (Nat.beq i.2.2.1 101 || Nat.beq i.2.2.1 102)
  | .iaload => decide (ins = .iaload) && Nat.beq len 1 && (bif Nat.beq i.2.1 0 then Nat.beq f 301 else true)
  | .arraylength => decide (ins = .arraylength) && Nat.beq len 1 && Nat.beq f 301
  | k => decide (ins = k) && Nat.beq len 1
def vm_dc1 (f : Nat) (q : Nat × Nat × vm_I) : Bool :=
  match decode (vm_cb f) q.1 with
  | .ok (ins, len) => Nat.beq len q.2.1 && vm_tr (vm_mo f) f q.1 ins len q.2.2
  | .error _ => false
def vm_dck (f : Nat) : Bool := (vm_code.getD f []).all (vm_dc1 f)
theorem vm_all_cut {α : Type} {P : α → Bool} (l : List α) (K : Nat) (h : ∀ k, k < K → ((l.drop (60 * k)).take 60).all P = true) (hl : l.length ≤ 60 * K) : l.all P = true := by
  refine List.all_eq_true.mpr (fun x hx => ?_)
  obtain ⟨i, hi, rfl⟩ := List.getElem_of_mem hx
  have h1 := List.all_eq_true.mp (h (i / 60) (by omega)) l[i] (by
    refine List.mem_of_getElem? (i := i % 60) ?_
    rw [List.getElem?_take, if_pos (by omega), List.getElem?_drop, show 60 * (i / 60) + i % 60 = i by omega]
    exact List.getElem?_eq_getElem hi)
  exact h1
theorem vm_dck_0 : (List.range 25).all (fun j => vm_dck (j + 0)) = true := by decide +kernel
theorem vm_dck_25 : (List.range 25).all (fun j => vm_dck (j + 25)) = true := by decide +kernel
theorem vm_dck_50 : (List.range 25).all (fun j => vm_dck (j + 50)) = true := by decide +kernel
theorem vm_dck_75 : (List.range 25).all (fun j => vm_dck (j + 75)) = true := by decide +kernel
theorem vm_dck_100 : (List.range 25).all (fun j => vm_dck (j + 100)) = true := by decide +kernel
theorem vm_dck_125 : (List.range 25).all (fun j => vm_dck (j + 125)) = true := by decide +kernel
theorem vm_dck_150 : (List.range 13).all (fun j => vm_dck (j + 150)) = true := by decide +kernel
theorem vm_dck_all {f : Nat} (hf : vm_pr f = true) : vm_dck f = true := by
  have hf := vm_pr_lt hf
  by_cases h25 : f < 25
  · have := List.all_eq_true.mp vm_dck_0 (f - 0) (List.mem_range.mpr (by omega))
    rwa [show f - 0 + 0 = f by omega] at this
  by_cases h50 : f < 50
  · have := List.all_eq_true.mp vm_dck_25 (f - 25) (List.mem_range.mpr (by omega))
    rwa [show f - 25 + 25 = f by omega] at this
  by_cases h75 : f < 75
  · have := List.all_eq_true.mp vm_dck_50 (f - 50) (List.mem_range.mpr (by omega))
    rwa [show f - 50 + 50 = f by omega] at this
  by_cases h100 : f < 100
  · have := List.all_eq_true.mp vm_dck_75 (f - 75) (List.mem_range.mpr (by omega))
    rwa [show f - 75 + 75 = f by omega] at this
  by_cases h125 : f < 125
  · have := List.all_eq_true.mp vm_dck_100 (f - 100) (List.mem_range.mpr (by omega))
    rwa [show f - 100 + 100 = f by omega] at this
  by_cases h150 : f < 150
  · have := List.all_eq_true.mp vm_dck_125 (f - 125) (List.mem_range.mpr (by omega))
    rwa [show f - 125 + 125 = f by omega] at this
  · have := List.all_eq_true.mp vm_dck_150 (f - 150) (List.mem_range.mpr (by omega))
    rwa [show f - 150 + 150 = f by omega] at this
