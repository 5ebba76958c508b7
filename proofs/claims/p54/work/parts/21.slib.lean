/-! ===== steps: the library's methods, statics, the script, making ===== -/
theorem vm_okX_objCode : Cond.code objectInit ⟨#[0xb1]⟩ 1 none ∈ vm_W := vm_code_in (vm_in1 (List.mem_of_getElem? (i := 30) (by rfl)))
theorem vm_kMax : Cond.code Lib.Math.max.name Lib.Math.max.code 2 (some .int) ∈ vm_W := vm_code_in (vm_in3 (List.mem_of_getElem? (i := 125) (by rfl)))
theorem vm_kMin : Cond.code Lib.Math.min.name Lib.Math.min.code 2 (some .int) ∈ vm_W := vm_code_in (vm_in3 (List.mem_of_getElem? (i := 128) (by rfl)))
theorem vm_kAbs : Cond.code Lib.Math.abs.name Lib.Math.abs.code 1 (some .int) ∈ vm_W := vm_code_in (vm_in5 (List.mem_of_getElem? (i := 108) (by rfl)))
theorem vm_cpy_eq {mem : vm_M} {a b : Nat} {sp dp n : Int} (h : 0 ≤ sp ∧ 0 ≤ dp ∧ 0 ≤ n) : va_cpy (fun j : Nat => Int32.ofInt (mem a (j : Int))) (fun j : Nat => Int32.ofInt (mem b (j : Int))) sp.toNat dp.toNat n.toNat = (fun j : Nat => Int32.ofInt (vm_cp mem a sp b dp n b (j : Int))) := by
  funext j
  unfold va_cpy vm_cp
  by_cases hq : dp.toNat ≤ j ∧ j < dp.toNat + n.toNat
  · rw [if_pos hq, if_pos ⟨rfl, by omega, by omega⟩]
    show Int32.ofInt (mem a ((sp.toNat + (j - dp.toNat) : Nat) : Int)) = Int32.ofInt (mem a (sp + ((j : Int) - dp)))
    rw [show ((sp.toNat + (j - dp.toNat) : Nat) : Int) = sp + ((j : Int) - dp) by omega]
  · rw [if_neg hq, if_neg (fun q => hq ⟨by omega, by omega⟩)]
theorem vm_cp_ne {mem : vm_M} {a b j : Nat} {sp dp n : Int} (h : j ≠ b) : vm_cp mem a sp b dp n j = mem j := by
  funext x
  unfold vm_cp
  rw [if_neg (fun q => h q.1)]
theorem vm_byt_all : (vm_strL.all (fun t => t.all (fun b => decide (0 ≤ b ∧ b < 128)))) = true := by decide +kernel
theorem vm_chr_id : ∀ b : Nat, b < 128 → vm_chr (Int32.ofInt (b : Int)) = Int32.ofInt (b : Int) := by decide +kernel
theorem vm_str_small {k : Nat} (j : Nat) : 0 ≤ (vm_strL.getD k []).getD j 0 ∧ (vm_strL.getD k []).getD j 0 < 128 := by
  rw [List.getD_eq_getElem?_getD (l := vm_strL.getD k [])]
  cases hj : (vm_strL.getD k [])[j]? with
  | none => decide
  | some b =>
    have hb := List.mem_of_getElem? hj
    rw [List.getD_eq_getElem?_getD] at hb
    cases hk : vm_strL[k]? with
    | none => rw [hk] at hb; exact absurd hb List.not_mem_nil
    | some t =>
      rw [hk] at hb
      exact of_decide_eq_true (List.all_eq_true.mp (List.all_eq_true.mp vm_byt_all t (List.mem_of_getElem? hk)) b hb)
theorem vm_str_len {k : Nat} : (vm_strL.getD k []).length < 100 := by
  have h : (vm_strL.all (fun t => Nat.blt t.length 100)) = true := by decide +kernel
  rw [List.getD_eq_getElem?_getD]
  cases hk : vm_strL[k]? with
  | none => decide
  | some t => exact vm_blt (List.all_eq_true.mp h t (List.mem_of_getElem? hk))
theorem vm_Tx.jf {ad : Nat → Nat} {A : Nat → Prop} {s U : State} {H : Heap} {locs : List Loc} {m0 : vm_M} {k : Nat} (hE : vm_Ext ad A m0 s s.heap) (hk : k < vm_sN) (hS : va_S A s.heap H locs) (hU : U.heap = H) (hvm : s.vm.Alike U.vm) : ∃ b, vm_JF (ad (1000 + k)) b (vm_strL.getD k []).length (fun j => Int32.ofInt ((vm_strL.getD k []).getD j 0)) U := by
  obtain ⟨-, -, -, -, -, -, hT, hC, hZ⟩ := hE
  obtain ⟨h1, b, h2, h3, h4⟩ := hT k hk
  subst hU
  have hf : ∀ q, vm_ff q → A q := fun q h => h.elim
  exact ⟨b, ((h1.kept hS.2.1).narrow hf).moved hvm, ((h2.kept hS.2.1).narrow hf).moved hvm, ((h3.kept hS.2.1).narrow hf).moved hvm, ((h4.kept hS.2.1).narrow hf).moved hvm, ((hC.kept hS.2.1).narrow hf).moved hvm, ((hZ.kept hS.2.1).narrow hf).moved hvm⟩
section VMS4
variable {p : Program} {l : Launch} {e : Env} {R : Room} {s : State} {m : MethodId} {args : Array Value} {below : List Frame} {meth : Method} {c : Code} {cells slots : Nat} {Q : State → Prop}
variable {dC : Nat → ClassId} {dI : Nat → Nat → Nat} {ad : Nat → Nat} {CA : Nat → ClassId} {A : Nat → Prop} {ph : Bool} {f d : Nat} {m0 : vm_M} {n0 : Nat}
theorem vm_s_max (C : vm_Cx p R s m args meth c dC dI ad CA A f d m0 ph n0) {pc : Nat} {ls : vm_L} {mem : vm_M} {a b : Int} {idx : Nat} {r : List vm_V} (hc : vm_cats r ≤ 8) (hh : 1 ≤ vm_ht f) (hcs : cells ≤ R.cells ∧ slots ≤ R.slots) (hw : Cond.methodLink (vm_cn (vm_mo f)) idx Lib.Math.max.name ∈ vm_W) (hd : decode (vm_cb f) pc = .ok (.invokestatic idx, 3)) (K : vm_Wx p l e R s m args below meth c cells slots Q dC dI ad CA A ph f m0 n0 (pc + 3) ls (vm_i (if a < b then b else a) :: r) mem) : vm_Wx p l e R s m args below meth c cells slots Q dC dI ad CA A ph f m0 n0 pc ls (vm_i b :: vm_i a :: r) mem := by
  intro H locs lsa hat hol hos hom hox hl
  have hR1 : d ≤ R.frames := C.2.2.2.2.2.2.2.2.2.2.1
  have hR2 : 30 * d + 60 ≤ R.locals := C.2.2.2.2.2.2.2.2.2.2.2.1
  have hR3 : vm_ht f ≤ d := C.2.2.2.2.2.2.2.2.2.2.2.2.1
  have ha : vm_32 a := hos.t.h
  have hb : vm_32 b := hos.h
  have K1 := K H locs lsa hat hol (hos.t.t.c (show vm_32 (if a < b then b else a) by split <;> assumption)) hom hox hl
  refine va_mmax C.1 C.2.1 (C.2.2.1.trans hl.1.symm) C.2.2.2.1 (C.2.2.2.2.1 _ hw) (C.2.2.2.2.1 _ (vm_hw_in vm_okXa)) (C.2.2.2.2.1 _ (vm_hw_in vm_okX9)) (C.2.2.2.2.1 _ vm_kMax) (by omega) (by rw [vm_v_cats]; omega) hcs.1 hcs.2 hd ?_
  have he : (if Int32.ofInt a < Int32.ofInt b then Int32.ofInt b else Int32.ofInt a) = Int32.ofInt (if a < b then b else a) := by
    by_cases q : a < b
    · rw [if_pos q, if_pos ((vm_ilt ha hb).mpr q)]
    · rw [if_neg q, if_neg (fun z => q ((vm_ilt ha hb).mp z))]
  rw [he]
  exact K1
theorem vm_s_min (C : vm_Cx p R s m args meth c dC dI ad CA A f d m0 ph n0) {pc : Nat} {ls : vm_L} {mem : vm_M} {a b : Int} {idx : Nat} {r : List vm_V} (hc : vm_cats r ≤ 8) (hh : 1 ≤ vm_ht f) (hcs : cells ≤ R.cells ∧ slots ≤ R.slots) (hw : Cond.methodLink (vm_cn (vm_mo f)) idx Lib.Math.min.name ∈ vm_W) (hd : decode (vm_cb f) pc = .ok (.invokestatic idx, 3)) (K : vm_Wx p l e R s m args below meth c cells slots Q dC dI ad CA A ph f m0 n0 (pc + 3) ls (vm_i (if b < a then b else a) :: r) mem) : vm_Wx p l e R s m args below meth c cells slots Q dC dI ad CA A ph f m0 n0 pc ls (vm_i b :: vm_i a :: r) mem := by
  intro H locs lsa hat hol hos hom hox hl
  have hR1 : d ≤ R.frames := C.2.2.2.2.2.2.2.2.2.2.1
  have hR2 : 30 * d + 60 ≤ R.locals := C.2.2.2.2.2.2.2.2.2.2.2.1
  have hR3 : vm_ht f ≤ d := C.2.2.2.2.2.2.2.2.2.2.2.2.1
  have ha : vm_32 a := hos.t.h
  have hb : vm_32 b := hos.h
  have K1 := K H locs lsa hat hol (hos.t.t.c (show vm_32 (if b < a then b else a) by split <;> assumption)) hom hox hl
  refine va_mmin C.1 C.2.1 (C.2.2.1.trans hl.1.symm) C.2.2.2.1 (C.2.2.2.2.1 _ hw) (C.2.2.2.2.1 _ (vm_hw_in vm_okXb)) (C.2.2.2.2.1 _ (vm_hw_in vm_okX9)) (C.2.2.2.2.1 _ vm_kMin) (by omega) (by rw [vm_v_cats]; omega) hcs.1 hcs.2 hd ?_
  have he : (if Int32.ofInt b < Int32.ofInt a then Int32.ofInt b else Int32.ofInt a) = Int32.ofInt (if b < a then b else a) := by
    by_cases q : b < a
    · rw [if_pos q, if_pos ((vm_ilt hb ha).mpr q)]
    · rw [if_neg q, if_neg (fun z => q ((vm_ilt hb ha).mp z))]
  rw [he]
  exact K1
theorem vm_s_abs (C : vm_Cx p R s m args meth c dC dI ad CA A f d m0 ph n0) {pc : Nat} {ls : vm_L} {mem : vm_M} {a : Int} {idx : Nat} {r : List vm_V} (hc : vm_cats r ≤ 8) (h0 : vm_32 (0 - a)) (hh : 1 ≤ vm_ht f) (hcs : cells ≤ R.cells ∧ slots ≤ R.slots) (hw : Cond.methodLink (vm_cn (vm_mo f)) idx Lib.Math.abs.name ∈ vm_W) (hd : decode (vm_cb f) pc = .ok (.invokestatic idx, 3)) (K : vm_Wx p l e R s m args below meth c cells slots Q dC dI ad CA A ph f m0 n0 (pc + 3) ls (vm_i (if 0 ≤ a then a else 0 - a) :: r) mem) : vm_Wx p l e R s m args below meth c cells slots Q dC dI ad CA A ph f m0 n0 pc ls (vm_i a :: r) mem := by
  intro H locs lsa hat hol hos hom hox hl
  have hR1 : d ≤ R.frames := C.2.2.2.2.2.2.2.2.2.2.1
  have hR2 : 30 * d + 60 ≤ R.locals := C.2.2.2.2.2.2.2.2.2.2.2.1
  have hR3 : vm_ht f ≤ d := C.2.2.2.2.2.2.2.2.2.2.2.2.1
  have ha : vm_32 a := hos.h
  have K1 := K H locs lsa hat hol (hos.t.c (show vm_32 (if 0 ≤ a then a else 0 - a) by split <;> assumption)) hom hox hl
  refine va_mabs C.1 C.2.1 (C.2.2.1.trans hl.1.symm) C.2.2.2.1 (C.2.2.2.2.1 _ hw) (C.2.2.2.2.1 _ (vm_hw_in vm_okXc)) (C.2.2.2.2.1 _ (vm_hw_in vm_okX9)) (C.2.2.2.2.1 _ vm_kAbs) (by omega) (by rw [vm_v_cats]; omega) hcs.1 hcs.2 hd ?_
  have h1 : (0 : Int32) ≤ Int32.ofInt a ↔ 0 ≤ a := by rw [← vm_i0]; exact vm_ile vm_z32 ha
  have he : (if 0 ≤ Int32.ofInt a then Int32.ofInt a else 0 - Int32.ofInt a) = Int32.ofInt (if 0 ≤ a then a else 0 - a) := by
    by_cases q : 0 ≤ a
    · rw [if_pos q, if_pos (h1.mpr q)]
    · rw [if_neg q, if_neg (fun z => q (h1.mp z)), Int32.ofInt_sub, vm_i0]
  rw [he]
  exact K1
theorem vm_s_copy (C : vm_Cx p R s m args meth c dC dI ad CA A f d m0 ph n0) {pc : Nat} {ls : vm_L} {mem : vm_M} {a b n : Nat} {sp dp z : Int} {idx : Nat} {r : List vm_V} (hc : vm_cats r ≤ 8) (hh : 1 ≤ vm_ht f) (ha : vm_ar a 100 n = true) (hb : vm_ar b 100 n = true) (hr : 0 ≤ sp ∧ 0 ≤ dp ∧ 0 ≤ z ∧ sp + z ≤ (n : Int) ∧ dp + z ≤ (n : Int)) (hpre : vm_pre ph (vm_i z :: vm_i dp :: vm_r b :: vm_i sp :: vm_r a :: r) mem = true) (hw : Cond.methodLink (vm_cn (vm_mo f)) idx arraycopyName ∈ vm_W) (hd : decode (vm_cb f) pc = .ok (.invokestatic idx, 3)) (K : vm_Wx p l e R s m args below meth c cells slots Q dC dI ad CA A ph f m0 n0 (pc + 3) ls r (vm_cp mem a sp b dp z)) : vm_Wx p l e R s m args below meth c cells slots Q dC dI ad CA A ph f m0 n0 pc ls (vm_i z :: vm_i dp :: vm_r b :: vm_i sp :: vm_r a :: r) mem := by
  intro H locs lsa hat hol hos hom hox hl
  have hR1 : d ≤ R.frames := C.2.2.2.2.2.2.2.2.2.2.1
  have hR2 : 30 * d + 60 ≤ R.locals := C.2.2.2.2.2.2.2.2.2.2.2.1
  have hR3 : vm_ht f ≤ d := C.2.2.2.2.2.2.2.2.2.2.2.2.1
  obtain ⟨hca, hla⟩ := vm_ar_cl ha
  obtain ⟨hcb, hlb⟩ := vm_ar_cl hb
  have hkb : b < vm_n ph mem := vm_in_n (by omega) hpre (List.mem_cons_of_mem _ (List.mem_cons_of_mem _ List.mem_cons_self))
  have hka : a < vm_n ph mem := vm_in_n (by omega) hpre (List.mem_cons_of_mem _ (List.mem_cons_of_mem _ (List.mem_cons_of_mem _ (List.mem_cons_of_mem _ List.mem_cons_self))))
  have h1 := vm_ws_at (ad := ad) (CA := CA) (ph := ph) (m := mem) hka
  have h2 := vm_ws_at (ad := ad) (CA := CA) (ph := ph) (m := mem) hkb
  rw [vm_ce_i hca (by decide), hla] at h1
  rw [vm_ce_i hcb (by decide), hlb] at h2
  have hn : n ≤ 2147483647 := by rw [← hla]; exact vm_ln_le
  have h9 : b < 900 := by have := vm_cl_lt (k := b) (by omega); omega
  have hsp : vm_32 sp := ⟨by omega, by omega⟩
  have hdp : vm_32 dp := ⟨by omega, by omega⟩
  have hz : vm_32 z := ⟨by omega, by omega⟩
  have e1 : (Int32.ofInt sp).toNatClampNeg = sp.toNat := Int32.toNatClampNeg_ofInt_of_le (by omega) (by omega)
  have e2 : (Int32.ofInt dp).toNatClampNeg = dp.toNat := Int32.toNatClampNeg_ofInt_of_le (by omega) (by omega)
  have e3 : (Int32.ofInt z).toNatClampNeg = z.toNat := Int32.toNatClampNeg_ofInt_of_le (by omega) (by omega)
  have hom1 : vm_om (vm_cp mem a sp b dp z) := by
    intro x y
    have hx := hom x y
    unfold vm_cp
    by_cases hq : x = b ∧ dp ≤ y ∧ y < dp + z
    · rw [if_pos hq]
      have g1 : vm_lg x y = false := by unfold vm_lg; rw [hq.1, hcb]; rfl
      have g2 : vm_lg a (sp + (y - dp)) = false := by unfold vm_lg; rw [hca]; rfl
      rw [g1]
      exact hom.i g2
    · rw [if_neg hq]; exact hx
  have hox1 : vm_ox m0 (vm_cp mem a sp b dp z) := fun j q1 q2 => by rw [vm_cp_ne (by omega)]; exact hox j q1 q2
  refine va_copyi C.1 C.2.1 (C.2.2.1.trans hl.1.symm) C.2.2.2.1 (C.2.2.2.2.1 _ hw) (C.2.2.2.2.1 _ (vm_hw_in vm_okX6)) (C.2.2.2.2.1 _ (vm_hw_in vm_okX7)) (C.2.2.2.2.1 _ (vm_hw_in vm_okX8)) C.2.2.2.2.2.1 hat.1 hat.2.1 hat.2.2.1 a b 0 0 h1 h2 rfl rfl rfl (fun q => absurd ((vm_ilt0 hsp).mp q) (by omega)) (fun q => absurd ((vm_ilt0 hdp).mp q) (by omega)) (fun q => absurd ((vm_ilt0 hz).mp q) (by omega)) (by rw [e1, e3]; omega) (by rw [e2, e3]; omega) (fun _ _ => rfl) (by omega) (by rw [vm_v_cats, show nativeFrameWords "java/lang/System" "arraycopy" 5 = 7 by decide]; omega) hd (fun H1 locs1 g1 g2 g3 => ?_)
  rw [e1, e2, e3, vm_cpy_eq ⟨hr.1, hr.2.1, hr.2.2.1⟩] at g1 g2
  exact K H1 locs1 lsa (hat.put (mem' := vm_cp mem a sp b dp z) (by rw [vm_ce_i hcb (by decide), hlb]) (fun j hj => vm_cp_ne hj) h9 g1 g2 g3) hol hos.t.t.t.t.t hom1 hox1 hl
theorem vm_s_len (C : vm_Cx p R s m args meth c dC dI ad CA A f d m0 ph n0) {pc : Nat} {ls : vm_L} {mem : vm_M} {k idx : Nat} {r : List vm_V} (hc : vm_cats r ≤ 8) (hh : 2 ≤ vm_ht f) (hcs : cells ≤ R.cells ∧ slots ≤ R.slots) (hk : 1000 ≤ k ∧ k < 1000 + vm_sN) (hw : Cond.methodLink (vm_cn (vm_mo f)) idx vm_yLen ∈ vm_W) (hd : decode (vm_cb f) pc = .ok (.invokevirtual idx, 3)) (K : vm_Wx p l e R s m args below meth c cells slots Q dC dI ad CA A ph f m0 n0 (pc + 3) ls (vm_i (vm_sn k) :: r) mem) : vm_Wx p l e R s m args below meth c cells slots Q dC dI ad CA A ph f m0 n0 pc ls (vm_r k :: r) mem := by
  intro H locs lsa hat hol hos hom hox hl
  have hR1 : d ≤ R.frames := C.2.2.2.2.2.2.2.2.2.2.1
  have hR2 : 30 * d + 60 ≤ R.locals := C.2.2.2.2.2.2.2.2.2.2.2.1
  have hR3 : vm_ht f ≤ d := C.2.2.2.2.2.2.2.2.2.2.2.2.1
  obtain ⟨j, rfl, hj⟩ : ∃ j, k = 1000 + j ∧ j < vm_sN := ⟨k - 1000, by omega, by have := hk.2; unfold vm_sN at this; omega⟩
  have hE : vm_Ext ad A m0 s s.heap := C.2.2.2.2.2.2.2.1
  have hlt := vm_str_len (k := j)
  have K1 := K H locs lsa hat hol (hos.t.c (show vm_32 (vm_sn (1000 + j)) by unfold vm_sn; rw [show 1000 + j - 1000 = j by omega]; exact ⟨by omega, by omega⟩)) hom hox hl
  obtain ⟨b, hJ⟩ := vm_Tx.jf (U := { s with heap := H }) hE hj hat.2.2.1 rfl (Vm.Alike.refl _)
  have hT := (hE.2.2.2.2.2.2.1 j hj).1.kept hat.2.2.1.2.1
  refine vp_callSi (W.runV (As := []) (rest := r.map (vm_v ad)) ⟨C.1, C.2.1, C.2.2.1, C.2.2.2.1, C.2.2.2.2.1⟩ (vm_mLen l (ad (1000 + j)) b _ _) (cwV 0 C.2.2.2.2.1 (vm_gV (C := "java/lang/String") vm_kLen hw (vm_hw_in (i := 412) (by decide +kernel)) (vm_hw_in (i := 413) (by decide +kernel)) (vm_hw_in (i := 51) (by decide +kernel))) rfl rfl rfl (by decide +kernel) ⟨by show 1 + 1 ≤ R.frames; omega, by show 8 + (1 + 11) + 30 ≤ R.locals; omega⟩) ⟨fun a U g mk hq => ⟨hq.1, hq.2.to (u := U) (U := U.calling g mk a) rfl (Vm.Alike.refl U.vm)⟩, ?_, fun U hU hW => ⟨rfl, hJ.to (u := { s with heap := H }) hU hW.alike⟩⟩ rfl rfl hl.1 rfl (lv_room (by rw [vm_v_cats]; exact hc)) hd ⟨by show cells + 0 ≤ R.cells; exact hcs.1, by show slots + 0 ≤ R.slots; exact hcs.2⟩) (fun r1 hr1 => ?_)
  · obtain ⟨cell, g1, g2, g3, -⟩ := hT
    exact ⟨cell, g1, g2, g3⟩
  · subst hr1
    have he : (Int32.ofNat (vm_strL.getD j []).length >>> ((0 : Int32) &&& 31)) = Int32.ofInt (vm_sn (1000 + j)) := by
      unfold vm_sn
      rw [show 1000 + j - 1000 = j by omega, Int32.ofInt_eq_ofNat]
      have hs0 : ∀ n, n < 100 → Int32.ofNat n >>> ((0 : Int32) &&& 31) = Int32.ofNat n := by decide +kernel
      exact hs0 _ hlt
    rw [he]
    exact K1
theorem vm_s_chr (C : vm_Cx p R s m args meth c dC dI ad CA A f d m0 ph n0) {pc : Nat} {ls : vm_L} {mem : vm_M} {k idx : Nat} {z : Int} {r : List vm_V} (hc : vm_cats r ≤ 8) (hh : 4 ≤ vm_ht f) (hcs : cells ≤ R.cells ∧ slots ≤ R.slots) (hk : 1000 ≤ k ∧ k < 1000 + vm_sN) (hz : 0 ≤ z ∧ z < vm_sn k) (hw : Cond.methodLink (vm_cn (vm_mo f)) idx vm_yChr ∈ vm_W) (hd : decode (vm_cb f) pc = .ok (.invokevirtual idx, 3)) (K : vm_Wx p l e R s m args below meth c cells slots Q dC dI ad CA A ph f m0 n0 (pc + 3) ls (vm_i (vm_sc k z) :: r) mem) : vm_Wx p l e R s m args below meth c cells slots Q dC dI ad CA A ph f m0 n0 pc ls (vm_i z :: vm_r k :: r) mem := by
  intro H locs lsa hat hol hos hom hox hl
  have hR1 : d ≤ R.frames := C.2.2.2.2.2.2.2.2.2.2.1
  have hR2 : 30 * d + 60 ≤ R.locals := C.2.2.2.2.2.2.2.2.2.2.2.1
  have hR3 : vm_ht f ≤ d := C.2.2.2.2.2.2.2.2.2.2.2.2.1
  obtain ⟨j, rfl, hj⟩ : ∃ j, k = 1000 + j ∧ j < vm_sN := ⟨k - 1000, by omega, by have := hk.2; unfold vm_sN at this; omega⟩
  have hE : vm_Ext ad A m0 s s.heap := C.2.2.2.2.2.2.2.1
  have hlt := vm_str_len (k := j)
  have hsm := vm_str_small (k := j) z.toNat
  have hz2 : z < ((vm_strL.getD j []).length : Int) := by have := hz.2; unfold vm_sn at this; rwa [show 1000 + j - 1000 = j by omega] at this
  have hsc : vm_sc (1000 + j) z = (vm_strL.getD j []).getD z.toNat 0 := by unfold vm_sc; rw [show 1000 + j - 1000 = j by omega]
  have K1 := K H locs lsa hat hol (hos.t.t.c (show vm_32 (vm_sc (1000 + j) z) by rw [hsc]; exact ⟨by omega, by omega⟩)) hom hox hl
  obtain ⟨b, hJ⟩ := vm_Tx.jf (U := { s with heap := H }) hE hj hat.2.2.1 rfl (Vm.Alike.refl _)
  have hT := (hE.2.2.2.2.2.2.1 j hj).1.kept hat.2.2.1.2.1
  have hz32 : vm_32 z := ⟨by omega, by omega⟩
  obtain ⟨hx1, hx2⟩ := vm_ix (n := (vm_strL.getD j []).length) ⟨hz.1, hz2⟩ (by omega)
  have h0 : ¬ Int32.ofInt z < 0 := fun q => absurd ((vm_ilt0 hz32).mp q) (by omega)
  have h1 : Int32.ofInt z < Int32.ofNat (vm_strL.getD j []).length := by rw [← Int32.ofInt_eq_ofNat]; exact (vm_ilt hz32 ⟨by omega, by omega⟩).mpr hz2
  refine vp_callSi (W.runV (As := [.int (Int32.ofInt z)]) (rest := r.map (vm_v ad)) ⟨C.1, C.2.1, C.2.2.1, C.2.2.2.1, C.2.2.2.2.1⟩ (vm_mChr l (ad (1000 + j)) b _ _ (Int32.ofInt z) (by omega) h0 h1 hx1) (cwV 1 C.2.2.2.2.1 (vm_gV (C := "java/lang/String") vm_kChr hw (vm_hw_in (i := 422) (by decide +kernel)) (vm_hw_in (i := 423) (by decide +kernel)) (vm_hw_in (i := 51) (by decide +kernel))) rfl rfl rfl (by decide +kernel) ⟨by show 3 + 1 ≤ R.frames; omega, by show 8 + (2 + 11) + 90 ≤ R.locals; omega⟩) ⟨fun a U g mk hq => ⟨hq.1, hq.2.to (u := U) (U := U.calling g mk a) rfl (Vm.Alike.refl U.vm)⟩, ?_, fun U hU hW => ⟨rfl, hJ.to (u := { s with heap := H }) hU hW.alike⟩⟩ rfl rfl hl.1 rfl (lv_room (by rw [vm_v_cats]; exact hc)) hd ⟨by show cells + 0 ≤ R.cells; exact hcs.1, by show slots + 0 ≤ R.slots; exact hcs.2⟩) (fun r1 hr1 => ?_)
  · obtain ⟨cell, g1, g2, g3, -⟩ := hT
    exact ⟨cell, g1, g2, g3⟩
  · subst hr1
    have he : vm_chr (Int32.ofInt ((vm_strL.getD j []).getD (Int32.ofInt z).toNatClampNeg 0)) = Int32.ofInt (vm_sc (1000 + j) z) := by
      rw [hx2, hsc]
      have := vm_chr_id ((vm_strL.getD j []).getD z.toNat 0).toNat (by omega)
      rwa [Int.toNat_of_nonneg hsm.1] at this
    rw [he]
    exact K1
theorem vm_s_obj (C : vm_Cx p R s m args meth c dC dI ad CA A f d m0 ph n0) {pc : Nat} {ls : vm_L} {mem : vm_M} {k idx : Nat} {r : List vm_V} (hc : vm_cats r ≤ 8) (hh : 1 ≤ vm_ht f) (hw : Cond.methodLink (vm_cn (vm_mo f)) idx objectInit ∈ vm_W) (hd : decode (vm_cb f) pc = .ok (.invokespecial idx, 3)) (K : vm_Wx p l e R s m args below meth c cells slots Q dC dI ad CA A ph f m0 n0 (pc + 3) ls r mem) : vm_Wx p l e R s m args below meth c cells slots Q dC dI ad CA A ph f m0 n0 pc ls (vm_r k :: r) mem := by
  intro H locs lsa hat hol hos hom hox hl
  have hR1 : d ≤ R.frames := C.2.2.2.2.2.2.2.2.2.2.1
  have hR2 : 30 * d + 60 ≤ R.locals := C.2.2.2.2.2.2.2.2.2.2.2.1
  have hR3 : vm_ht f ≤ d := C.2.2.2.2.2.2.2.2.2.2.2.2.1
  have K1 := K H locs lsa hat hol hos.t hom hox hl
  refine W.objInit C.1 C.2.1 C.2.2.2.1 (C.2.2.2.2.1 _ hw) (C.2.2.2.2.1 _ (vm_hw_in vm_okXd)) (C.2.2.2.2.1 _ vm_okX_objCode) rfl (by rw [C.2.2.1]; exact hl.1) rfl hd (by omega) ?_ ?_
  · have := lv_room (m := m) (pc := pc) (ls := lsa) (rest := (vm_r k :: r).map (vm_v ad)) (st := r.map (vm_v ad)) (by rw [vm_v_cats]; exact hc)
    omega
  · exact W.eq rfl K1
theorem vm_s_gets (C : vm_Cx p R s m args meth c dC dI ad CA A f d m0 ph n0) {pc : Nat} {ls : vm_L} {mem : vm_M} {k idx : Nat} {r : List vm_V} (hk : k = 900 ∨ k = 901) (hw : Cond.fieldLink (vm_cn (vm_mo f)) idx "BoardLetters" (vm_snm k) "[I" ∈ vm_W) (hd : decode (vm_cb f) pc = .ok (.getstatic idx, 3)) (K : vm_Wx p l e R s m args below meth c cells slots Q dC dI ad CA A ph f m0 n0 (pc + 3) ls (vm_r k :: r) mem) : vm_Wx p l e R s m args below meth c cells slots Q dC dI ad CA A ph f m0 n0 pc ls r mem := by
  intro H locs lsa hat hol hos hom hox hl
  have hE : vm_Ext ad A m0 s s.heap := C.2.2.2.2.2.2.2.1
  have K1 := K H locs lsa hat hol (hos.c trivial) hom hox hl
  rcases hk with rfl | rfl
  · exact va_gets C.1 C.2.1 hE.2.2.1 hat.2.2.1 C.2.2.2.1 (C.2.2.2.2.1 _ hw) (fun _ q => q) hd K1
  · exact va_gets C.1 C.2.1 hE.2.2.2.1 hat.2.2.1 C.2.2.2.1 (C.2.2.2.2.1 _ hw) (fun _ q => q) hd K1
theorem vm_s_getsN (C : vm_Cx p R s m args meth c dC dI ad CA A f d m0 ph n0) {pc : Nat} {ls : vm_L} {mem : vm_M} {k idx : Nat} {r : List vm_V} (hk : k = 900 ∨ k = 901) (hw : (Cond.fieldLinkNest (vm_cn (vm_mo f)) idx "BoardLetters" (vm_snm k) "[I" "BoardLetters").before args s = true) (hd : decode (vm_cb f) pc = .ok (.getstatic idx, 3)) (K : vm_Wx p l e R s m args below meth c cells slots Q dC dI ad CA A ph f m0 n0 (pc + 3) ls (vm_r k :: r) mem) : vm_Wx p l e R s m args below meth c cells slots Q dC dI ad CA A ph f m0 n0 pc ls r mem := by
  intro H locs lsa hat hol hos hom hox hl
  have hE : vm_Ext ad A m0 s s.heap := C.2.2.2.2.2.2.2.1
  have K1 := K H locs lsa hat hol (hos.c trivial) hom hox hl
  rcases hk with rfl | rfl
  · exact va_getsN C.1 C.2.1 hE.2.2.1 hat.2.2.1 C.2.2.2.1 hw (fun _ q => q) hd K1
  · exact va_getsN C.1 C.2.1 hE.2.2.2.1 hat.2.2.1 C.2.2.2.1 hw (fun _ q => q) hd K1
theorem vm_s_ild (C : vm_Cx p R s m args meth c dC dI ad CA A f d m0 ph n0) {pc : Nat} {ls : vm_L} {mem : vm_M} {k : Nat} {j : Int} {r : List vm_V} (hk : k = 900 ∨ k = 901) (hj : 0 ≤ j ∧ j < 6) (hd : decode (vm_cb f) pc = .ok (.iaload, 1)) (K : vm_Wx p l e R s m args below meth c cells slots Q dC dI ad CA A ph f m0 n0 (pc + 1) ls (vm_i (mem k j) :: r) mem) : vm_Wx p l e R s m args below meth c cells slots Q dC dI ad CA A ph f m0 n0 pc ls (vm_i j :: vm_r k :: r) mem := by
  intro H locs lsa hat hol hos hom hox hl
  have hE : vm_Ext ad A m0 s s.heap := C.2.2.2.2.2.2.2.1
  have hlg : vm_lg k j = false := by rcases hk with rfl | rfl <;> (unfold vm_lg; rw [show vm_cl _ = 999 from rfl]; rfl)
  have K1 := K H locs lsa hat hol (hos.t.t.c (show vm_32 _ from hom.i hlg)) hom hox hl
  obtain ⟨hx1, hx2⟩ := vm_ix (n := 6) hj (by decide)
  have hjn : ((j.toNat : Nat) : Int) = j := Int.toNat_of_nonneg hj.1
  rcases hk with rfl | rfl
  · refine va_ti C.1 C.2.1 hE.1 hat.2.2.1 hx1 (v := .int (Int32.ofInt (mem 900 j))) ?_ hd K1
    show Value.int (Int32.ofInt (m0 900 (((Int32.ofInt j).toNatClampNeg : Nat) : Int))) = _
    rw [hx2, hjn, hox 900 (by decide) (by decide)]
  · refine va_ti C.1 C.2.1 hE.2.1 hat.2.2.1 hx1 (v := .int (Int32.ofInt (mem 901 j))) ?_ hd K1
    show Value.int (Int32.ofInt (m0 901 (((Int32.ofInt j).toNatClampNeg : Nat) : Int))) = _
    rw [hx2, hjn, hox 901 (by decide) (by decide)]
theorem vm_s_sld (C : vm_Cx p R s m args meth c dC dI ad CA A f d m0 ph n0) {pc : Nat} {ls : vm_L} {mem : vm_M} {j : Int} {r : List vm_V} (hf : f = 301) (hg : m0 903 0 ≠ -1) (hj : 0 ≤ j ∧ j < mem 903 0) (hd : decode (vm_cb f) pc = .ok (.iaload, 1)) (K : vm_Wx p l e R s m args below meth c cells slots Q dC dI ad CA A ph f m0 n0 (pc + 1) ls (vm_i (mem 902 j) :: r) mem) : vm_Wx p l e R s m args below meth c cells slots Q dC dI ad CA A ph f m0 n0 pc ls (vm_i j :: vm_r 902 :: r) mem := by
  intro H locs lsa hat hol hos hom hox hl
  obtain ⟨L, hX, hbl, hbA, hL, hL2⟩ := C.2.2.2.2.2.2.2.2.2.2.2.2.2.1 hf hg
  have h903 : mem 903 0 = (L : Int) := by rw [hox 903 (by decide) (by decide)]; exact hL
  have K1 := K H locs lsa hat hol (hos.t.t.c (show vm_32 _ from hom.i (by unfold vm_lg; rw [show vm_cl 902 = 999 from rfl]; rfl))) hom hox hl
  obtain ⟨hx1, hx2⟩ := vm_ix (n := L) ⟨hj.1, by rw [← h903]; exact hj.2⟩ hL2
  have hjn : ((j.toNat : Nat) : Int) = j := Int.toNat_of_nonneg hj.1
  refine va_sld C.1 C.2.1 hX hbl hbA hat.2.2.1 hx1 hd ?_
  show W p l e R s m args below meth c H locs cells slots Q (F0 m (pc + 1) lsa (.int (Int32.ofInt (m0 902 (((Int32.ofInt j).toNatClampNeg : Nat) : Int))) :: r.map (vm_v ad)))
  rw [hx2, hjn, ← hox 902 (by decide) (by decide)]
  exact K1
theorem vm_s_slen (C : vm_Cx p R s m args meth c dC dI ad CA A f d m0 ph n0) {pc : Nat} {ls : vm_L} {mem : vm_M} {r : List vm_V} (hf : f = 301) (hg : m0 903 0 ≠ -1) (hd : decode (vm_cb f) pc = .ok (.arraylength, 1)) (K : vm_Wx p l e R s m args below meth c cells slots Q dC dI ad CA A ph f m0 n0 (pc + 1) ls (vm_i (mem 903 0) :: r) mem) : vm_Wx p l e R s m args below meth c cells slots Q dC dI ad CA A ph f m0 n0 pc ls (vm_r 902 :: r) mem := by
  intro H locs lsa hat hol hos hom hox hl
  obtain ⟨L, hX, hbl, hbA, hL, hL2⟩ := C.2.2.2.2.2.2.2.2.2.2.2.2.2.1 hf hg
  have h903 : mem 903 0 = (L : Int) := by rw [hox 903 (by decide) (by decide)]; exact hL
  have K1 := K H locs lsa hat hol (hos.t.c (show vm_32 _ from hom.i (by unfold vm_lg; rw [show vm_cl 903 = 999 from rfl]; rfl))) hom hox hl
  refine va_slen C.1 C.2.1 hX hbl hbA hat.2.2.1 hd ?_
  rw [← Int32.ofInt_eq_ofNat, ← h903]
  exact K1
end VMS4
