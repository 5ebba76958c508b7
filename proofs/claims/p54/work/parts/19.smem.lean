/-! ===== steps: fields and arrays ===== -/
theorem vm_blt {a b : Nat} (h : Nat.blt a b = true) : a < b := by
  have : Nat.ble (a + 1) b = true := h
  exact Nat.le_of_ble_eq_true this
theorem vm_blt' {a b : Nat} (h : a < b) : Nat.blt a b = true := Nat.ble_eq_true_of_le h
theorem vm_beq {a b : Nat} (h : Nat.beq a b = true) : a = b := Nat.eq_of_beq_eq_true h
theorem vm_is_cl {k c : Nat} (h : vm_is k c = true) : vm_cl k = c := by simpa [vm_is] using h
theorem vm_cl_lt {k : Nat} (h : vm_cl k < 900) : k < 96 := by
  rcases Nat.lt_or_ge k 96 with q | q
  · exact q
  · have : vm_cl k = 999 := by
      unfold vm_cl
      rw [List.getD_eq_getElem?_getD, List.getElem?_eq_none (by exact q)]; rfl
    omega
theorem vm_ar_cl {k t n : Nat} (h : vm_ar k t n = true) : vm_cl k = t ∧ vm_ln k = n := by simpa [vm_ar] using h
theorem vm_no103 {k n : Nat} (h : vm_ar k 103 n = true) : False := by
  have h1 := (vm_ar_cl h).1
  unfold vm_cl at h1
  have h2 : (vm_clL.all (fun x => !Nat.beq x 103)) = true := by decide +kernel
  rw [List.getD_eq_getElem?_getD] at h1
  cases hk : vm_clL[k]? with
  | none => rw [hk] at h1; cases h1
  | some x =>
    rw [hk] at h1
    have h1 : x = 103 := h1
    have h3 := List.all_eq_true.mp h2 x (List.mem_of_getElem? hk)
    rw [h1] at h3
    cases h3
theorem vm_cok_at {c : Nat} (h : c < 11) : vm_cok c = true := List.all_eq_true.mp vm_cok_all c (List.mem_range.mpr h)
theorem vm_cls_at {c : Nat} (h : c < 11) : vm_cls[c]? = some (vm_cn c, vm_T c, vm_nf c) := by
  unfold vm_cls
  rw [List.getElem?_append_left (by simpa using h), List.getElem?_map, List.getElem?_range h]; rfl
theorem vm_cok_1 {c : Nat} (h : c < 11) : (∀ w ∈ u_ws (vm_cn c) (vm_T c) (vm_nf c), w ∈ vm_W) ∧ (∀ k, k < vm_nf c → parseFieldDescriptor (vm_T c k).2.2.1 = some (vm_ty c k)) ∧ (∀ a, a < vm_nf c → ∀ b, b < vm_nf c → a ≠ b → (vm_T c a).2.1 ≠ (vm_T c b).2.1) ∧ Cond.instantiable (vm_cn c) (vm_nf c) ∈ vm_W ∧ Cond.initialized (vm_cn c) ∈ vm_W := by
  have hc := vm_cok_at h
  unfold vm_cok at hc
  simp only [Bool.and_eq_true] at hc
  obtain ⟨⟨⟨⟨h1, h2⟩, h3⟩, h4⟩, h5⟩ := hc
  refine ⟨fun w hw => ?_, fun k hk => ?_, fun a ha b hb hab => ?_, vm_hw_in h4, vm_hw_in h5⟩
  · obtain ⟨k, hk, rfl⟩ := List.mem_map.mp hw
    exact vm_hw_in (List.all_eq_true.mp h1 k hk)
  · have := List.all_eq_true.mp h2 k (List.mem_range.mpr hk)
    exact of_decide_eq_true this
  · have := List.all_eq_true.mp (List.all_eq_true.mp h3 a (List.mem_range.mpr ha)) b (List.mem_range.mpr hb)
    simp only [Bool.or_eq_true, decide_eq_true_eq] at this
    rcases this with q | q
    · exact absurd q hab
    · exact q
/-- kinds of fields and their types -/
def vm_kt (c k : Nat) : Bool :=
  match vm_fk c k with
  | 0 => decide (vm_ty c k = .int)
  | 1 => decide (vm_ty c k = .long)
  | 3 => decide (vm_ty c k = .boolean)
  | 2 => (match vm_ty c k with
    | .object _ => true
    | .array _ => true
    | _ => false)
  | _ => false
theorem vm_kt_all : (List.range 11).all (fun c => (List.range (vm_nf c)).all (vm_kt c)) = true := by decide +kernel
theorem vm_kt_at {c k : Nat} (h : c < 11) (hk : k < vm_nf c) : vm_kt c k = true := List.all_eq_true.mp (List.all_eq_true.mp vm_kt_all c (List.mem_range.mpr h)) k (List.mem_range.mpr hk)
theorem vm_in_n {ph : Bool} {st : List vm_V} {mem : vm_M} {k : Nat} (h : vm_cl k < 900) (hp : vm_pre ph st mem = true) (hm : vm_r k ∈ st) : k < vm_n ph mem := by
  have hk := vm_cl_lt h
  cases ph with
  | false => exact hk
  | true =>
    have h1 := List.all_eq_true.mp hp _ hm
    simp only [vm_pr1, Bool.or_eq_true, decide_eq_true_eq] at h1
    show k < (mem 990 0).toNat
    rcases h1 with q | q
    · omega
    · have := Nat.le_of_ble_eq_true q; omega
theorem vm_n_st {ph : Bool} {mem : vm_M} {k : Nat} {i v : Int} (h : k < 900) : vm_n ph (vm_st mem k i v) = vm_n ph mem := by
  cases ph with
  | false => rfl
  | true =>
    show (vm_st mem k i v 990 0).toNat = (mem 990 0).toNat
    rw [vm_st_ne (by omega)]
theorem vm_ox_st {m0 mem : vm_M} {k : Nat} {i v : Int} (h : k < 900) (ho : vm_ox m0 mem) : vm_ox m0 (vm_st mem k i v) := fun j h1 h2 => by rw [vm_st_ne (by omega)]; exact ho j h1 h2
theorem vm_ce_o {ad : Nat → Nat} {CA : Nat → ClassId} {ph : Bool} {k c : Nat} {g : Int → Int} (h : vm_cl k = c) (hc : c < 11) : vm_ce ad CA ph k g = .inr (c, (List.range (vm_nf c)).map (vm_fv ad ph c k g)) := by
  unfold vm_ce
  rw [h, vm_blt' (by omega)]; rfl
theorem vm_ce_i {ad : Nat → Nat} {CA : Nat → ClassId} {ph : Bool} {k t : Nat} {g : Int → Int} (h : vm_cl k = t) (ht : t = 100 ∨ t = 101 ∨ t = 102) : vm_ce ad CA ph k g = .inl (CA t, vm_ln k, .inl (fun j => Int32.ofInt (g j))) := by
  unfold vm_ce
  rw [h]
  rcases ht with rfl | rfl | rfl <;> rfl
theorem vm_ce_l {ad : Nat → Nat} {CA : Nat → ClassId} {ph : Bool} {k : Nat} {g : Int → Int} (h : vm_cl k = 103) : vm_ce ad CA ph k g = .inl (CA 103, vm_ln k, .inr (.inl (fun j => Int64.ofInt (g j)))) := by
  unfold vm_ce
  rw [h]; rfl
theorem vm_ce_q {ad : Nat → Nat} {CA : Nat → ClassId} {ph : Bool} {k : Nat} {g : Int → Int} (h : vm_cl k = 104) : vm_ce ad CA ph k g = .inl (CA 104, vm_ln k, .inr (.inr (.inr (.inr (fun j => if ph = true ∧ ¬ g j = 1 then none else some (ad (vm_ab k + 5 * j))))))) := by
  unfold vm_ce
  rw [h]; rfl
theorem vm_fs_at {n b : Nat} {F : Nat → Value} (h : b < n) : ((List.range n).map F)[b]? = some (F b) := by rw [List.getElem?_map, List.getElem?_range h]; rfl
theorem vm_fv_cg {ad : Nat → Nat} {ph : Bool} {c k j : Nat} {g g' : Int → Int} (h : g (j : Int) = g' (j : Int)) : vm_fv ad ph c k g j = vm_fv ad ph c k g' j := by
  unfold vm_fv; rw [h]
theorem vm_fs_set {ad : Nat → Nat} {ph : Bool} {c k b : Nat} {mem : vm_M} {z : Int} {v : Value} (hv : v = vm_fv ad ph c k (vm_st mem k (b : Int) z k) b) (n : Nat) : ((List.range n).map (vm_fv ad ph c k (mem k))).set b v = (List.range n).map (vm_fv ad ph c k (vm_st mem k (b : Int) z k)) := by
  apply List.ext_getElem?
  intro j
  by_cases hj : j = b
  · subst hj
    by_cases hn : j < n
    · rw [List.getElem?_set_self (by simpa using hn), vm_fs_at hn, hv]
    · rw [List.getElem?_eq_none (by simpa using hn), List.getElem?_eq_none (by simpa using hn)]
  · rw [List.getElem?_set_ne (Ne.symm hj)]
    by_cases hn : j < n
    · rw [vm_fs_at hn, vm_fs_at hn]
      congr 1
      refine vm_fv_cg ?_
      rw [vm_st_eq, if_neg (by omega)]
    · rw [List.getElem?_eq_none (by simpa using hn), List.getElem?_eq_none (by simpa using hn)]
theorem vm_lg_f {k a b : Nat} (h : vm_cl k = a) (ha : a < 11) (hf : vm_fk a b ≠ 1) : vm_lg k (b : Int) = false := by
  have h1 : Nat.beq a 103 = false := Bool.eq_false_iff.mpr (fun q => by have := Nat.eq_of_beq_eq_true q; omega)
  have h2 : Nat.beq (vm_fk a b) 1 = false := Bool.eq_false_iff.mpr (fun q => hf (Nat.eq_of_beq_eq_true q))
  unfold vm_lg
  rw [h, Int.toNat_natCast, h1, h2, Bool.and_false]; rfl
theorem vm_lg_t {k a b : Nat} (h : vm_cl k = a) (ha : a < 11) (hf : vm_fk a b = 1) : vm_lg k (b : Int) = true := by
  unfold vm_lg
  rw [h, Int.toNat_natCast, hf, vm_blt' (by omega)]; exact Bool.or_true _
theorem vm_fv_i {ad : Nat → Nat} {ph : Bool} {c k f : Nat} {g : Int → Int} (h : vm_fk c f = 0 ∨ vm_fk c f = 3) : vm_fv ad ph c k g f = .int (Int32.ofInt (g f)) := by
  unfold vm_fv
  rcases h with h | h <;> rw [h] <;> rfl
theorem vm_fv_l {ad : Nat → Nat} {ph : Bool} {c k f : Nat} {g : Int → Int} (h : vm_fk c f = 1) : vm_fv ad ph c k g f = .long (Int64.ofInt (g f)) := by
  unfold vm_fv
  rw [h]; rfl
theorem vm_fv_r {ad : Nat → Nat} {ph : Bool} {c k f : Nat} {g : Int → Int} (h : vm_fk c f = 2) (hs : ph = true → g f = 1) : vm_fv ad ph c k g f = .ref (ad (vm_to (vm_rf c f) k)) := by
  unfold vm_fv
  rw [h]; exact if_neg (fun q => q.2 (hs q.1))
theorem vm_ln_le {k : Nat} : vm_ln k ≤ 2147483647 := by
  have h : ∀ k, k < 96 → vm_ln k ≤ 9000 := by decide +kernel
  rcases Nat.lt_or_ge k 96 with q | q
  · have := h k q; omega
  · unfold vm_ln
    rw [List.getD_eq_getElem?_getD, List.getElem?_eq_none (by exact q)]; decide
theorem vm_narb {z : Int} (hz : -128 ≤ z ∧ z ≤ 127) : vp_nar .byte (Int32.ofInt z) = Int32.ofInt z := by
  rw [vp_nar_byte, ← Int32.toInt_inj, Int8.toInt_toInt32, Int32.toInt_toInt8, vm_ti ⟨by omega, by omega⟩]
  exact Int.bmod_eq_of_le (by omega) (by omega)
theorem vm_narz {z : Int} (hz : z = 0 ∨ z = 1) : vp_nar .boolean (Int32.ofInt z) = Int32.ofInt z := by
  rcases hz with rfl | rfl <;> rfl
section VMS3
variable {p : Program} {l : Launch} {e : Env} {R : Room} {s : State} {m : MethodId} {args : Array Value} {below : List Frame} {meth : Method} {c : Code} {cells slots : Nat} {Q : State → Prop}
variable {dC : Nat → ClassId} {dI : Nat → Nat → Nat} {ad : Nat → Nat} {CA : Nat → ClassId} {A : Nat → Prop} {ph : Bool} {f d : Nat} {m0 : vm_M} {n0 : Nat}
/-- one object's cell is written -/
theorem vm_At.put {mem mem' : vm_M} {H H1 : Heap} {locs locs1 : List Loc} {k : Nat} {e1 : va_E} (_ : vm_At s dC dI ad CA A ph mem cells n0 H locs) (he : e1 = vm_ce ad CA ph k (mem' k)) (hm : ∀ j, j ≠ k → mem' j = mem j) (hk : k < 900)
    (hP : va_P (dC, dI) vm_cls ((vm_ws ad CA ph mem (vm_n ph mem)).set k (ad k, e1)) H1) (hD : va_D A ((vm_ws ad CA ph mem (vm_n ph mem)).set k (ad k, e1))) (hS : va_S A s.heap H1 locs1) : vm_At s dC dI ad CA A ph mem' cells n0 H1 locs1 := by
  rename_i h0
  have hn : vm_n ph mem' = vm_n ph mem := by
    cases ph with
    | false => rfl
    | true => show (mem' 990 0).toNat = (mem 990 0).toNat; rw [hm 990 (by omega)]
  rw [vm_ws_set he hm] at hP hD
  exact ⟨by rw [hn]; exact hP, by rw [hn]; exact hD, hS, by rw [hn, hm 990 (by omega)]; exact h0.2.2.2⟩
theorem vm_s_getI (C : vm_Cx p R s m args meth c dC dI ad CA A f d m0 ph n0) {pc : Nat} {ls : vm_L} {mem : vm_M} {k a b idx : Nat} {r : List vm_V} (hk : vm_is k a = true) (ha : a < 11) (hb : b < vm_nf a) (hw : Cond.fieldLink (vm_cn (vm_mo f)) idx (vm_cn a) (vm_fd a b).1 (vm_fd a b).2.1 ∈ vm_W) (hpre : vm_pre ph (vm_r k :: r) mem = true) (hf : vm_fk a b = 0 ∨ vm_fk a b = 3) (hd : decode (vm_cb f) pc = .ok (.getfield idx, 3)) (K : vm_Wx p l e R s m args below meth c cells slots Q dC dI ad CA A ph f m0 n0 (pc + 3) ls (vm_i (mem k (b : Int)) :: r) mem) : vm_Wx p l e R s m args below meth c cells slots Q dC dI ad CA A ph f m0 n0 pc ls (vm_r k :: r) mem := by
  intro H locs lsa hat hol hos hom hox hl
  have hcl := vm_is_cl hk
  have hkn : k < vm_n ph mem := vm_in_n (by omega) hpre List.mem_cons_self
  have hat1 := vm_ws_at (ad := ad) (CA := CA) (ph := ph) (m := mem) hkn
  rw [vm_ce_o hcl ha] at hat1
  have hlg : vm_lg k (b : Int) = false := vm_lg_f hcl ha (by rcases hf with q | q <;> rw [q] <;> decide)
  have K1 := K H locs lsa hat hol (hos.t.c (show vm_32 _ from hom.i hlg)) hom hox hl
  have hv : vm_fv ad ph a k (mem k) b = .int (Int32.ofInt (mem k (b : Int))) := vm_fv_i hf
  refine va_get C.1 C.2.1 C.2.2.2.2.1 (vm_cok_1 ha).1 C.2.2.2.1 C.2.2.2.2.2.1 hat.1 k hat1 (vm_cls_at ha) b hb (C.2.2.2.2.1 _ hw) (fun _ q => q) (vm_fs_at hb) hd ?_
  rw [hv]
  exact K1
theorem vm_s_getL (C : vm_Cx p R s m args meth c dC dI ad CA A f d m0 ph n0) {pc : Nat} {ls : vm_L} {mem : vm_M} {k a b idx : Nat} {r : List vm_V} (hk : vm_is k a = true) (ha : a < 11) (hb : b < vm_nf a) (hw : Cond.fieldLink (vm_cn (vm_mo f)) idx (vm_cn a) (vm_fd a b).1 (vm_fd a b).2.1 ∈ vm_W) (hpre : vm_pre ph (vm_r k :: r) mem = true) (hf : vm_fk a b = 1) (hd : decode (vm_cb f) pc = .ok (.getfield idx, 3)) (K : vm_Wx p l e R s m args below meth c cells slots Q dC dI ad CA A ph f m0 n0 (pc + 3) ls (vm_l (mem k (b : Int)) :: r) mem) : vm_Wx p l e R s m args below meth c cells slots Q dC dI ad CA A ph f m0 n0 pc ls (vm_r k :: r) mem := by
  intro H locs lsa hat hol hos hom hox hl
  have hcl := vm_is_cl hk
  have hkn : k < vm_n ph mem := vm_in_n (by omega) hpre List.mem_cons_self
  have hat1 := vm_ws_at (ad := ad) (CA := CA) (ph := ph) (m := mem) hkn
  rw [vm_ce_o hcl ha] at hat1
  have hlg : vm_lg k (b : Int) = true := vm_lg_t hcl ha hf
  have K1 := K H locs lsa hat hol (hos.t.c (show vm_64 _ from hom.l hlg)) hom hox hl
  have hv : vm_fv ad ph a k (mem k) b = .long (Int64.ofInt (mem k (b : Int))) := vm_fv_l hf
  refine va_get C.1 C.2.1 C.2.2.2.2.1 (vm_cok_1 ha).1 C.2.2.2.1 C.2.2.2.2.2.1 hat.1 k hat1 (vm_cls_at ha) b hb (C.2.2.2.2.1 _ hw) (fun _ q => q) (vm_fs_at hb) hd ?_
  rw [hv]
  exact K1
theorem vm_s_getR (C : vm_Cx p R s m args meth c dC dI ad CA A f d m0 ph n0) {pc : Nat} {ls : vm_L} {mem : vm_M} {k a b idx : Nat} {r : List vm_V} (hk : vm_is k a = true) (ha : a < 11) (hb : b < vm_nf a) (hw : Cond.fieldLink (vm_cn (vm_mo f)) idx (vm_cn a) (vm_fd a b).1 (vm_fd a b).2.1 ∈ vm_W) (hpre : vm_pre ph (vm_r k :: r) mem = true) (hf : vm_fk a b = 2) (hs : ph = true → mem k (b : Int) = 1) (hd : decode (vm_cb f) pc = .ok (.getfield idx, 3)) (K : vm_Wx p l e R s m args below meth c cells slots Q dC dI ad CA A ph f m0 n0 (pc + 3) ls (vm_r (vm_to (vm_rf a b) k) :: r) mem) : vm_Wx p l e R s m args below meth c cells slots Q dC dI ad CA A ph f m0 n0 pc ls (vm_r k :: r) mem := by
  intro H locs lsa hat hol hos hom hox hl
  have hcl := vm_is_cl hk
  have hkn : k < vm_n ph mem := vm_in_n (by omega) hpre List.mem_cons_self
  have hat1 := vm_ws_at (ad := ad) (CA := CA) (ph := ph) (m := mem) hkn
  rw [vm_ce_o hcl ha] at hat1
  have K1 := K H locs lsa hat hol (hos.t.c trivial) hom hox hl
  have hv : vm_fv ad ph a k (mem k) b = .ref (ad (vm_to (vm_rf a b) k)) := vm_fv_r hf hs
  refine va_get C.1 C.2.1 C.2.2.2.2.1 (vm_cok_1 ha).1 C.2.2.2.1 C.2.2.2.2.2.1 hat.1 k hat1 (vm_cls_at ha) b hb (C.2.2.2.2.1 _ hw) (fun _ q => q) (vm_fs_at hb) hd ?_
  rw [hv]
  exact K1
theorem vm_s_putI (C : vm_Cx p R s m args meth c dC dI ad CA A f d m0 ph n0) {pc : Nat} {ls : vm_L} {mem : vm_M} {k a b idx : Nat} {r : List vm_V} {z : Int} (hk : vm_is k a = true) (ha : a < 11) (hb : b < vm_nf a) (hw : Cond.fieldLink (vm_cn (vm_mo f)) idx (vm_cn a) (vm_fd a b).1 (vm_fd a b).2.1 ∈ vm_W) (hpre : vm_pre ph (vm_i z :: vm_r k :: r) mem = true) (hf : vm_fk a b = 0) (hfin : (vm_fd a b).2.2 = true → meth.name = "<init>" ∧ vm_cn a = vm_cn (vm_mo f)) (hd : decode (vm_cb f) pc = .ok (.putfield idx, 3)) (K : vm_Wx p l e R s m args below meth c cells slots Q dC dI ad CA A ph f m0 n0 (pc + 3) ls r (vm_st mem k (b : Int) z)) : vm_Wx p l e R s m args below meth c cells slots Q dC dI ad CA A ph f m0 n0 pc ls (vm_i z :: vm_r k :: r) mem := by
  intro H locs lsa hat hol hos hom hox hl
  have hcl := vm_is_cl hk
  have hkn : k < vm_n ph mem := vm_in_n (by omega) hpre (List.mem_cons_of_mem _ List.mem_cons_self)
  have hat1 := vm_ws_at (ad := ad) (CA := CA) (ph := ph) (m := mem) hkn
  rw [vm_ce_o hcl ha] at hat1
  have h9 : k < 900 := by have := vm_cl_lt (k := k) (by omega); omega
  have hlg : vm_lg k (b : Int) = false := vm_lg_f hcl ha (by rw [hf]; decide)
  have hom1 : vm_om (vm_st mem k (b : Int) z) := hom.st (by rw [hlg]; exact hos.h)
  have hkt := vm_kt_at ha hb
  unfold vm_kt at hkt
  rw [hf] at hkt
  have hv : .int (Int32.ofInt z) = vm_fv ad ph a k ((vm_st mem k (b : Int) z) k) b := by
    rw [vm_fv_i (by rw [hf]; decide), vm_st_eq, if_pos rfl]
  have fin := fun (H1 : Heap) (locs1 : List Loc) (h1 : va_P (dC, dI) vm_cls ((vm_ws ad CA ph mem (vm_n ph mem)).set k (ad k, .inr (a, ((List.range (vm_nf a)).map (vm_fv ad ph a k (mem k))).set b (.int (Int32.ofInt z))))) H1) (h2 : va_D A ((vm_ws ad CA ph mem (vm_n ph mem)).set k (ad k, .inr (a, ((List.range (vm_nf a)).map (vm_fv ad ph a k (mem k))).set b (.int (Int32.ofInt z)))))) (h3 : va_S A s.heap H1 locs1) =>
    K H1 locs1 lsa (hat.put (mem' := (vm_st mem k (b : Int) z)) (by rw [vm_ce_o hcl ha, vm_fs_set hv]) (fun j hj => vm_st_ne hj) h9 h1 h2 h3) hol hos.t.t hom1 (vm_ox_st h9 hox) hl
  have hT : parseFieldDescriptor (vm_T a b).2.2.1 = some .int := by rw [(vm_cok_1 ha).2.1 b hb, of_decide_eq_true hkt]
  have hN : narrow .int (.int (Int32.ofInt z)) = .int (Int32.ofInt z) := rfl
  have hF : fits .int (.int (Int32.ofInt z)) = true := rfl
  by_cases hq : (vm_fd a b).2.2 = true
  · obtain ⟨q1, q2⟩ := hfin hq
    exact va_putF C.1 C.2.1 C.2.2.2.2.1 (vm_cok_1 ha).1 (vm_ty a) (vm_cok_1 ha).2.1 (vm_cok_1 ha).2.2.1 C.2.2.2.1 C.2.2.2.2.2.1 hat.1 hat.2.1 hat.2.2.1 k hat1 (vm_cls_at ha) b hb (C.2.2.2.2.1 _ hw) (fun _ q => q) hq q1 q2 hT hN hF (by simpa using hb) hd fin
  · exact va_put C.1 C.2.1 C.2.2.2.2.1 (vm_cok_1 ha).1 (vm_ty a) (vm_cok_1 ha).2.1 (vm_cok_1 ha).2.2.1 C.2.2.2.1 C.2.2.2.2.2.1 hat.1 hat.2.1 hat.2.2.1 k hat1 (vm_cls_at ha) b hb (C.2.2.2.2.1 _ hw) (fun _ q => q) (Bool.eq_false_iff.mpr hq) hT hN hF (by simpa using hb) hd fin
theorem vm_s_putZ (C : vm_Cx p R s m args meth c dC dI ad CA A f d m0 ph n0) {pc : Nat} {ls : vm_L} {mem : vm_M} {k a b idx : Nat} {r : List vm_V} {z : Int} (hk : vm_is k a = true) (ha : a < 11) (hb : b < vm_nf a) (hw : Cond.fieldLink (vm_cn (vm_mo f)) idx (vm_cn a) (vm_fd a b).1 (vm_fd a b).2.1 ∈ vm_W) (hpre : vm_pre ph (vm_i z :: vm_r k :: r) mem = true) (hf : vm_fk a b = 3) (hz : z = 0 ∨ z = 1) (hfin : (vm_fd a b).2.2 = true → meth.name = "<init>" ∧ vm_cn a = vm_cn (vm_mo f)) (hd : decode (vm_cb f) pc = .ok (.putfield idx, 3)) (K : vm_Wx p l e R s m args below meth c cells slots Q dC dI ad CA A ph f m0 n0 (pc + 3) ls r (vm_st mem k (b : Int) z)) : vm_Wx p l e R s m args below meth c cells slots Q dC dI ad CA A ph f m0 n0 pc ls (vm_i z :: vm_r k :: r) mem := by
  intro H locs lsa hat hol hos hom hox hl
  have hcl := vm_is_cl hk
  have hkn : k < vm_n ph mem := vm_in_n (by omega) hpre (List.mem_cons_of_mem _ List.mem_cons_self)
  have hat1 := vm_ws_at (ad := ad) (CA := CA) (ph := ph) (m := mem) hkn
  rw [vm_ce_o hcl ha] at hat1
  have h9 : k < 900 := by have := vm_cl_lt (k := k) (by omega); omega
  have hlg : vm_lg k (b : Int) = false := vm_lg_f hcl ha (by rw [hf]; decide)
  have hom1 : vm_om (vm_st mem k (b : Int) z) := hom.st (by rw [hlg]; exact hos.h)
  have hkt := vm_kt_at ha hb
  unfold vm_kt at hkt
  rw [hf] at hkt
  have hv : .int (Int32.ofInt z) = vm_fv ad ph a k ((vm_st mem k (b : Int) z) k) b := by
    rw [vm_fv_i (by rw [hf]; decide), vm_st_eq, if_pos rfl]
  have fin := fun (H1 : Heap) (locs1 : List Loc) (h1 : va_P (dC, dI) vm_cls ((vm_ws ad CA ph mem (vm_n ph mem)).set k (ad k, .inr (a, ((List.range (vm_nf a)).map (vm_fv ad ph a k (mem k))).set b (.int (Int32.ofInt z))))) H1) (h2 : va_D A ((vm_ws ad CA ph mem (vm_n ph mem)).set k (ad k, .inr (a, ((List.range (vm_nf a)).map (vm_fv ad ph a k (mem k))).set b (.int (Int32.ofInt z)))))) (h3 : va_S A s.heap H1 locs1) =>
    K H1 locs1 lsa (hat.put (mem' := (vm_st mem k (b : Int) z)) (by rw [vm_ce_o hcl ha, vm_fs_set hv]) (fun j hj => vm_st_ne hj) h9 h1 h2 h3) hol hos.t.t hom1 (vm_ox_st h9 hox) hl
  have hT : parseFieldDescriptor (vm_T a b).2.2.1 = some .boolean := by rw [(vm_cok_1 ha).2.1 b hb, of_decide_eq_true hkt]
  have hN : narrow .boolean (.int (Int32.ofInt z)) = .int (Int32.ofInt z) := by rcases hz with rfl | rfl <;> rfl
  have hF : fits .boolean (.int (Int32.ofInt z)) = true := by rcases hz with rfl | rfl <;> rfl
  by_cases hq : (vm_fd a b).2.2 = true
  · obtain ⟨q1, q2⟩ := hfin hq
    exact va_putF C.1 C.2.1 C.2.2.2.2.1 (vm_cok_1 ha).1 (vm_ty a) (vm_cok_1 ha).2.1 (vm_cok_1 ha).2.2.1 C.2.2.2.1 C.2.2.2.2.2.1 hat.1 hat.2.1 hat.2.2.1 k hat1 (vm_cls_at ha) b hb (C.2.2.2.2.1 _ hw) (fun _ q => q) hq q1 q2 hT hN hF (by simpa using hb) hd fin
  · exact va_put C.1 C.2.1 C.2.2.2.2.1 (vm_cok_1 ha).1 (vm_ty a) (vm_cok_1 ha).2.1 (vm_cok_1 ha).2.2.1 C.2.2.2.1 C.2.2.2.2.2.1 hat.1 hat.2.1 hat.2.2.1 k hat1 (vm_cls_at ha) b hb (C.2.2.2.2.1 _ hw) (fun _ q => q) (Bool.eq_false_iff.mpr hq) hT hN hF (by simpa using hb) hd fin
theorem vm_s_putL (C : vm_Cx p R s m args meth c dC dI ad CA A f d m0 ph n0) {pc : Nat} {ls : vm_L} {mem : vm_M} {k a b idx : Nat} {r : List vm_V} {z : Int} (hk : vm_is k a = true) (ha : a < 11) (hb : b < vm_nf a) (hw : Cond.fieldLink (vm_cn (vm_mo f)) idx (vm_cn a) (vm_fd a b).1 (vm_fd a b).2.1 ∈ vm_W) (hpre : vm_pre ph (vm_l z :: vm_r k :: r) mem = true) (hf : vm_fk a b = 1) (hfin : (vm_fd a b).2.2 = true → meth.name = "<init>" ∧ vm_cn a = vm_cn (vm_mo f)) (hd : decode (vm_cb f) pc = .ok (.putfield idx, 3)) (K : vm_Wx p l e R s m args below meth c cells slots Q dC dI ad CA A ph f m0 n0 (pc + 3) ls r (vm_st mem k (b : Int) z)) : vm_Wx p l e R s m args below meth c cells slots Q dC dI ad CA A ph f m0 n0 pc ls (vm_l z :: vm_r k :: r) mem := by
  intro H locs lsa hat hol hos hom hox hl
  have hcl := vm_is_cl hk
  have hkn : k < vm_n ph mem := vm_in_n (by omega) hpre (List.mem_cons_of_mem _ List.mem_cons_self)
  have hat1 := vm_ws_at (ad := ad) (CA := CA) (ph := ph) (m := mem) hkn
  rw [vm_ce_o hcl ha] at hat1
  have h9 : k < 900 := by have := vm_cl_lt (k := k) (by omega); omega
  have hlg : vm_lg k (b : Int) = true := vm_lg_t hcl ha hf
  have hom1 : vm_om (vm_st mem k (b : Int) z) := hom.st (by rw [hlg]; exact hos.h)
  have hkt := vm_kt_at ha hb
  unfold vm_kt at hkt
  rw [hf] at hkt
  have hv : .long (Int64.ofInt z) = vm_fv ad ph a k ((vm_st mem k (b : Int) z) k) b := by
    rw [vm_fv_l hf, vm_st_eq, if_pos rfl]
  have fin := fun (H1 : Heap) (locs1 : List Loc) (h1 : va_P (dC, dI) vm_cls ((vm_ws ad CA ph mem (vm_n ph mem)).set k (ad k, .inr (a, ((List.range (vm_nf a)).map (vm_fv ad ph a k (mem k))).set b (.long (Int64.ofInt z))))) H1) (h2 : va_D A ((vm_ws ad CA ph mem (vm_n ph mem)).set k (ad k, .inr (a, ((List.range (vm_nf a)).map (vm_fv ad ph a k (mem k))).set b (.long (Int64.ofInt z)))))) (h3 : va_S A s.heap H1 locs1) =>
    K H1 locs1 lsa (hat.put (mem' := (vm_st mem k (b : Int) z)) (by rw [vm_ce_o hcl ha, vm_fs_set hv]) (fun j hj => vm_st_ne hj) h9 h1 h2 h3) hol hos.t.t hom1 (vm_ox_st h9 hox) hl
  have hT : parseFieldDescriptor (vm_T a b).2.2.1 = some .long := by rw [(vm_cok_1 ha).2.1 b hb, of_decide_eq_true hkt]
  have hN : narrow .long (.long (Int64.ofInt z)) = .long (Int64.ofInt z) := rfl
  have hF : fits .long (.long (Int64.ofInt z)) = true := rfl
  by_cases hq : (vm_fd a b).2.2 = true
  · obtain ⟨q1, q2⟩ := hfin hq
    exact va_putF C.1 C.2.1 C.2.2.2.2.1 (vm_cok_1 ha).1 (vm_ty a) (vm_cok_1 ha).2.1 (vm_cok_1 ha).2.2.1 C.2.2.2.1 C.2.2.2.2.2.1 hat.1 hat.2.1 hat.2.2.1 k hat1 (vm_cls_at ha) b hb (C.2.2.2.2.1 _ hw) (fun _ q => q) hq q1 q2 hT hN hF (by simpa using hb) hd fin
  · exact va_put C.1 C.2.1 C.2.2.2.2.1 (vm_cok_1 ha).1 (vm_ty a) (vm_cok_1 ha).2.1 (vm_cok_1 ha).2.2.1 C.2.2.2.1 C.2.2.2.2.2.1 hat.1 hat.2.1 hat.2.2.1 k hat1 (vm_cls_at ha) b hb (C.2.2.2.2.1 _ hw) (fun _ q => q) (Bool.eq_false_iff.mpr hq) hT hN hF (by simpa using hb) hd fin
theorem vm_s_putR (C : vm_Cx p R s m args meth c dC dI ad CA A f d m0 ph n0) {pc : Nat} {ls : vm_L} {mem : vm_M} {k a b idx : Nat} {r : List vm_V} {v : Nat} (hk : vm_is k a = true) (ha : a < 11) (hb : b < vm_nf a) (hw : Cond.fieldLink (vm_cn (vm_mo f)) idx (vm_cn a) (vm_fd a b).1 (vm_fd a b).2.1 ∈ vm_W) (hpre : vm_pre ph (vm_r v :: vm_r k :: r) mem = true) (hf : vm_fk a b = 2) (hz : v = vm_to (vm_rf a b) k) (hfin : (vm_fd a b).2.2 = true → meth.name = "<init>" ∧ vm_cn a = vm_cn (vm_mo f)) (hd : decode (vm_cb f) pc = .ok (.putfield idx, 3)) (K : vm_Wx p l e R s m args below meth c cells slots Q dC dI ad CA A ph f m0 n0 (pc + 3) ls r (vm_st mem k (b : Int) 1)) : vm_Wx p l e R s m args below meth c cells slots Q dC dI ad CA A ph f m0 n0 pc ls (vm_r v :: vm_r k :: r) mem := by
  intro H locs lsa hat hol hos hom hox hl
  have hcl := vm_is_cl hk
  have hkn : k < vm_n ph mem := vm_in_n (by omega) hpre (List.mem_cons_of_mem _ List.mem_cons_self)
  have hat1 := vm_ws_at (ad := ad) (CA := CA) (ph := ph) (m := mem) hkn
  rw [vm_ce_o hcl ha] at hat1
  have h9 : k < 900 := by have := vm_cl_lt (k := k) (by omega); omega
  have hlg : vm_lg k (b : Int) = false := vm_lg_f hcl ha (by rw [hf]; decide)
  have hom1 : vm_om (vm_st mem k (b : Int) 1) := hom.st (by rw [hlg]; exact (by decide))
  have hkt := vm_kt_at ha hb
  unfold vm_kt at hkt
  rw [hf] at hkt
  have hv : .ref (ad v) = vm_fv ad ph a k ((vm_st mem k (b : Int) 1) k) b := by
    rw [vm_fv_r hf (fun _ => by rw [vm_st_eq, if_pos rfl]), hz]
  have fin := fun (H1 : Heap) (locs1 : List Loc) (h1 : va_P (dC, dI) vm_cls ((vm_ws ad CA ph mem (vm_n ph mem)).set k (ad k, .inr (a, ((List.range (vm_nf a)).map (vm_fv ad ph a k (mem k))).set b (.ref (ad v))))) H1) (h2 : va_D A ((vm_ws ad CA ph mem (vm_n ph mem)).set k (ad k, .inr (a, ((List.range (vm_nf a)).map (vm_fv ad ph a k (mem k))).set b (.ref (ad v)))))) (h3 : va_S A s.heap H1 locs1) =>
    K H1 locs1 lsa (hat.put (mem' := (vm_st mem k (b : Int) 1)) (by rw [vm_ce_o hcl ha, vm_fs_set hv]) (fun j hj => vm_st_ne hj) h9 h1 h2 h3) hol hos.t.t hom1 (vm_ox_st h9 hox) hl
  obtain ⟨ty1, hT0, hN, hF⟩ : ∃ ty1, vm_ty a b = ty1 ∧ narrow ty1 (.ref (ad v)) = .ref (ad v) ∧ fits ty1 (.ref (ad v)) = true := by
    refine ⟨vm_ty a b, rfl, ?_⟩
    cases hq : vm_ty a b with
    | object _ => exact ⟨rfl, rfl⟩
    | array _ => exact ⟨rfl, rfl⟩
    | _ => rw [hq] at hkt; exact absurd hkt (by decide)
  have hT : parseFieldDescriptor (vm_T a b).2.2.1 = some ty1 := by rw [(vm_cok_1 ha).2.1 b hb, hT0]
  by_cases hq : (vm_fd a b).2.2 = true
  · obtain ⟨q1, q2⟩ := hfin hq
    exact va_putF C.1 C.2.1 C.2.2.2.2.1 (vm_cok_1 ha).1 (vm_ty a) (vm_cok_1 ha).2.1 (vm_cok_1 ha).2.2.1 C.2.2.2.1 C.2.2.2.2.2.1 hat.1 hat.2.1 hat.2.2.1 k hat1 (vm_cls_at ha) b hb (C.2.2.2.2.1 _ hw) (fun _ q => q) hq q1 q2 hT hN hF (by simpa using hb) hd fin
  · exact va_put C.1 C.2.1 C.2.2.2.2.1 (vm_cok_1 ha).1 (vm_ty a) (vm_cok_1 ha).2.1 (vm_cok_1 ha).2.2.1 C.2.2.2.1 C.2.2.2.2.2.1 hat.1 hat.2.1 hat.2.2.1 k hat1 (vm_cls_at ha) b hb (C.2.2.2.2.1 _ hw) (fun _ q => q) (Bool.eq_false_iff.mpr hq) hT hN hF (by simpa using hb) hd fin
theorem vm_s_iald (C : vm_Cx p R s m args meth c dC dI ad CA A f d m0 ph n0) {pc : Nat} {ls : vm_L} {mem : vm_M} {k n : Nat} {j : Int} {r : List vm_V} (hk : vm_ar k 100 n = true) (hj : 0 ≤ j ∧ j < (n : Int)) (hpre : vm_pre ph (vm_i j :: vm_r k :: r) mem = true) (hd : decode (vm_cb f) pc = .ok (.iaload, 1)) (K : vm_Wx p l e R s m args below meth c cells slots Q dC dI ad CA A ph f m0 n0 (pc + 1) ls (vm_i (mem k j) :: r) mem) : vm_Wx p l e R s m args below meth c cells slots Q dC dI ad CA A ph f m0 n0 pc ls (vm_i j :: vm_r k :: r) mem := by
  intro H locs lsa hat hol hos hom hox hl
  obtain ⟨hcl, hln⟩ := vm_ar_cl hk
  have hkn : k < vm_n ph mem := vm_in_n (by omega) hpre (List.mem_cons_of_mem _ List.mem_cons_self)
  have hat1 := vm_ws_at (ad := ad) (CA := CA) (ph := ph) (m := mem) hkn
  rw [vm_ce_i hcl (by decide)] at hat1
  subst hln
  obtain ⟨hx1, hx2⟩ := vm_ix hj vm_ln_le
  have hjn : ((j.toNat : Nat) : Int) = j := Int.toNat_of_nonneg hj.1
  have hlg : vm_lg k j = false := by unfold vm_lg; rw [hcl]; rfl
  have K1 := K H locs lsa hat hol (hos.t.t.c (show vm_32 _ from hom.i hlg)) hom hox hl
  refine va_iald C.1 C.2.1 C.2.2.2.2.2.1 hat.1 k 0 hat1 rfl hx1 hd ?_
  rw [hx2]
  show W p l e R s m args below meth c H locs cells slots Q (F0 m (pc + 1) lsa (.int (Int32.ofInt (mem k ((j.toNat : Nat) : Int))) :: r.map (vm_v ad)))
  rw [hjn]
  exact K1
theorem vm_s_bald (C : vm_Cx p R s m args meth c dC dI ad CA A f d m0 ph n0) {pc : Nat} {ls : vm_L} {mem : vm_M} {k n : Nat} {j : Int} {r : List vm_V} (hk : vm_ar k 101 n = true) (hj : 0 ≤ j ∧ j < (n : Int)) (hpre : vm_pre ph (vm_i j :: vm_r k :: r) mem = true) (hd : decode (vm_cb f) pc = .ok (.baload, 1)) (K : vm_Wx p l e R s m args below meth c cells slots Q dC dI ad CA A ph f m0 n0 (pc + 1) ls (vm_i (mem k j) :: r) mem) : vm_Wx p l e R s m args below meth c cells slots Q dC dI ad CA A ph f m0 n0 pc ls (vm_i j :: vm_r k :: r) mem := by
  intro H locs lsa hat hol hos hom hox hl
  obtain ⟨hcl, hln⟩ := vm_ar_cl hk
  have hkn : k < vm_n ph mem := vm_in_n (by omega) hpre (List.mem_cons_of_mem _ List.mem_cons_self)
  have hat1 := vm_ws_at (ad := ad) (CA := CA) (ph := ph) (m := mem) hkn
  rw [vm_ce_i hcl (by decide)] at hat1
  subst hln
  obtain ⟨hx1, hx2⟩ := vm_ix hj vm_ln_le
  have hjn : ((j.toNat : Nat) : Int) = j := Int.toNat_of_nonneg hj.1
  have hlg : vm_lg k j = false := by unfold vm_lg; rw [hcl]; rfl
  have K1 := K H locs lsa hat hol (hos.t.t.c (show vm_32 _ from hom.i hlg)) hom hox hl
  refine va_bald C.1 C.2.1 C.2.2.2.2.2.1 hat.1 k 1 hat1 rfl hx1 hd ?_
  rw [hx2]
  show W p l e R s m args below meth c H locs cells slots Q (F0 m (pc + 1) lsa (.int (Int32.ofInt (mem k ((j.toNat : Nat) : Int))) :: r.map (vm_v ad)))
  rw [hjn]
  exact K1
theorem vm_s_zald (C : vm_Cx p R s m args meth c dC dI ad CA A f d m0 ph n0) {pc : Nat} {ls : vm_L} {mem : vm_M} {k n : Nat} {j : Int} {r : List vm_V} (hk : vm_ar k 102 n = true) (hj : 0 ≤ j ∧ j < (n : Int)) (hpre : vm_pre ph (vm_i j :: vm_r k :: r) mem = true) (hd : decode (vm_cb f) pc = .ok (.baload, 1)) (K : vm_Wx p l e R s m args below meth c cells slots Q dC dI ad CA A ph f m0 n0 (pc + 1) ls (vm_i (mem k j) :: r) mem) : vm_Wx p l e R s m args below meth c cells slots Q dC dI ad CA A ph f m0 n0 pc ls (vm_i j :: vm_r k :: r) mem := by
  intro H locs lsa hat hol hos hom hox hl
  obtain ⟨hcl, hln⟩ := vm_ar_cl hk
  have hkn : k < vm_n ph mem := vm_in_n (by omega) hpre (List.mem_cons_of_mem _ List.mem_cons_self)
  have hat1 := vm_ws_at (ad := ad) (CA := CA) (ph := ph) (m := mem) hkn
  rw [vm_ce_i hcl (by decide)] at hat1
  subst hln
  obtain ⟨hx1, hx2⟩ := vm_ix hj vm_ln_le
  have hjn : ((j.toNat : Nat) : Int) = j := Int.toNat_of_nonneg hj.1
  have hlg : vm_lg k j = false := by unfold vm_lg; rw [hcl]; rfl
  have K1 := K H locs lsa hat hol (hos.t.t.c (show vm_32 _ from hom.i hlg)) hom hox hl
  refine va_zald C.1 C.2.1 C.2.2.2.2.2.1 hat.1 k 2 hat1 rfl hx1 hd ?_
  rw [hx2]
  show W p l e R s m args below meth c H locs cells slots Q (F0 m (pc + 1) lsa (.int (Int32.ofInt (mem k ((j.toNat : Nat) : Int))) :: r.map (vm_v ad)))
  rw [hjn]
  exact K1
theorem vm_s_lald (C : vm_Cx p R s m args meth c dC dI ad CA A f d m0 ph n0) {pc : Nat} {ls : vm_L} {mem : vm_M} {k n : Nat} {j : Int} {r : List vm_V} (hk : vm_ar k 103 n = true) (hj : 0 ≤ j ∧ j < (n : Int)) (hpre : vm_pre ph (vm_i j :: vm_r k :: r) mem = true) (hd : decode (vm_cb f) pc = .ok (.laload, 1)) (K : vm_Wx p l e R s m args below meth c cells slots Q dC dI ad CA A ph f m0 n0 (pc + 1) ls (vm_l (mem k j) :: r) mem) : vm_Wx p l e R s m args below meth c cells slots Q dC dI ad CA A ph f m0 n0 pc ls (vm_i j :: vm_r k :: r) mem := (vm_no103 hk).elim
theorem vm_s_iast (C : vm_Cx p R s m args meth c dC dI ad CA A f d m0 ph n0) {pc : Nat} {ls : vm_L} {mem : vm_M} {k n : Nat} {j z : Int} {r : List vm_V} (hk : vm_ar k 100 n = true) (hj : 0 ≤ j ∧ j < (n : Int)) (hpre : vm_pre ph (vm_i z :: vm_i j :: vm_r k :: r) mem = true) (hd : decode (vm_cb f) pc = .ok (.iastore, 1)) (K : vm_Wx p l e R s m args below meth c cells slots Q dC dI ad CA A ph f m0 n0 (pc + 1) ls r (vm_st mem k j z)) : vm_Wx p l e R s m args below meth c cells slots Q dC dI ad CA A ph f m0 n0 pc ls (vm_i z :: vm_i j :: vm_r k :: r) mem := by
  intro H locs lsa hat hol hos hom hox hl
  obtain ⟨hcl, hln⟩ := vm_ar_cl hk
  have hkn : k < vm_n ph mem := vm_in_n (by omega) hpre (List.mem_cons_of_mem _ (List.mem_cons_of_mem _ List.mem_cons_self))
  have hat1 := vm_ws_at (ad := ad) (CA := CA) (ph := ph) (m := mem) hkn
  rw [vm_ce_i hcl (by decide)] at hat1
  subst hln
  obtain ⟨hx1, hx2⟩ := vm_ix hj vm_ln_le
  have hjn : ((j.toNat : Nat) : Int) = j := Int.toNat_of_nonneg hj.1
  have h9 : k < 900 := by have := vm_cl_lt (k := k) (by omega); omega
  have hlg : vm_lg k j = false := by unfold vm_lg; rw [hcl]; rfl
  have hom1 : vm_om (vm_st mem k j z) := hom.st (by rw [hlg]; exact hos.h)
  have hf : (upd (fun j1 : Nat => Int32.ofInt (mem k (j1 : Int))) j.toNat (Int32.ofInt z)) = (fun j1 : Nat => Int32.ofInt (vm_st mem k j z k (j1 : Int))) := by
    funext j1
    rw [vm_st_eq]
    unfold upd
    by_cases hq : j1 = j.toNat
    · rw [if_pos hq, if_pos (by omega)]
    · rw [if_neg hq, if_neg (by omega)]
  refine va_iast C.1 C.2.1 C.2.2.2.2.2.1 hat.1 hat.2.1 hat.2.2.1 k 0 hat1 rfl hx1 hd (fun H1 locs1 h1 h2 h3 => ?_)
  rw [hx2] at h1 h2
  rw [hf] at h1 h2
  exact K H1 locs1 lsa (hat.put (mem' := vm_st mem k j z) (by rw [vm_ce_i hcl (by decide)]) (fun j hj => vm_st_ne hj) h9 h1 h2 h3) hol hos.t.t.t hom1 (vm_ox_st h9 hox) hl
theorem vm_s_bast (C : vm_Cx p R s m args meth c dC dI ad CA A f d m0 ph n0) {pc : Nat} {ls : vm_L} {mem : vm_M} {k n : Nat} {j z : Int} {r : List vm_V} (hk : vm_ar k 101 n = true) (hj : 0 ≤ j ∧ j < (n : Int)) (hz : -128 ≤ z ∧ z ≤ 127) (hpre : vm_pre ph (vm_i z :: vm_i j :: vm_r k :: r) mem = true) (hd : decode (vm_cb f) pc = .ok (.bastore, 1)) (K : vm_Wx p l e R s m args below meth c cells slots Q dC dI ad CA A ph f m0 n0 (pc + 1) ls r (vm_st mem k j z)) : vm_Wx p l e R s m args below meth c cells slots Q dC dI ad CA A ph f m0 n0 pc ls (vm_i z :: vm_i j :: vm_r k :: r) mem := by
  intro H locs lsa hat hol hos hom hox hl
  obtain ⟨hcl, hln⟩ := vm_ar_cl hk
  have hkn : k < vm_n ph mem := vm_in_n (by omega) hpre (List.mem_cons_of_mem _ (List.mem_cons_of_mem _ List.mem_cons_self))
  have hat1 := vm_ws_at (ad := ad) (CA := CA) (ph := ph) (m := mem) hkn
  rw [vm_ce_i hcl (by decide)] at hat1
  subst hln
  obtain ⟨hx1, hx2⟩ := vm_ix hj vm_ln_le
  have hjn : ((j.toNat : Nat) : Int) = j := Int.toNat_of_nonneg hj.1
  have h9 : k < 900 := by have := vm_cl_lt (k := k) (by omega); omega
  have hlg : vm_lg k j = false := by unfold vm_lg; rw [hcl]; rfl
  have hom1 : vm_om (vm_st mem k j z) := hom.st (by rw [hlg]; exact hos.h)
  have hf : (upd (fun j1 : Nat => Int32.ofInt (mem k (j1 : Int))) j.toNat (Int32.ofInt z)) = (fun j1 : Nat => Int32.ofInt (vm_st mem k j z k (j1 : Int))) := by
    funext j1
    rw [vm_st_eq]
    unfold upd
    by_cases hq : j1 = j.toNat
    · rw [if_pos hq, if_pos (by omega)]
    · rw [if_neg hq, if_neg (by omega)]
  refine va_bast C.1 C.2.1 C.2.2.2.2.2.1 hat.1 hat.2.1 hat.2.2.1 k 1 hat1 rfl hx1 hd (fun H1 locs1 h1 h2 h3 => ?_)
  rw [hx2, vm_narb hz] at h1 h2
  rw [hf] at h1 h2
  exact K H1 locs1 lsa (hat.put (mem' := vm_st mem k j z) (by rw [vm_ce_i hcl (by decide)]) (fun j hj => vm_st_ne hj) h9 h1 h2 h3) hol hos.t.t.t hom1 (vm_ox_st h9 hox) hl
theorem vm_s_zast (C : vm_Cx p R s m args meth c dC dI ad CA A f d m0 ph n0) {pc : Nat} {ls : vm_L} {mem : vm_M} {k n : Nat} {j z : Int} {r : List vm_V} (hk : vm_ar k 102 n = true) (hj : 0 ≤ j ∧ j < (n : Int)) (hz : z = 0 ∨ z = 1) (hpre : vm_pre ph (vm_i z :: vm_i j :: vm_r k :: r) mem = true) (hd : decode (vm_cb f) pc = .ok (.bastore, 1)) (K : vm_Wx p l e R s m args below meth c cells slots Q dC dI ad CA A ph f m0 n0 (pc + 1) ls r (vm_st mem k j z)) : vm_Wx p l e R s m args below meth c cells slots Q dC dI ad CA A ph f m0 n0 pc ls (vm_i z :: vm_i j :: vm_r k :: r) mem := by
  intro H locs lsa hat hol hos hom hox hl
  obtain ⟨hcl, hln⟩ := vm_ar_cl hk
  have hkn : k < vm_n ph mem := vm_in_n (by omega) hpre (List.mem_cons_of_mem _ (List.mem_cons_of_mem _ List.mem_cons_self))
  have hat1 := vm_ws_at (ad := ad) (CA := CA) (ph := ph) (m := mem) hkn
  rw [vm_ce_i hcl (by decide)] at hat1
  subst hln
  obtain ⟨hx1, hx2⟩ := vm_ix hj vm_ln_le
  have hjn : ((j.toNat : Nat) : Int) = j := Int.toNat_of_nonneg hj.1
  have h9 : k < 900 := by have := vm_cl_lt (k := k) (by omega); omega
  have hlg : vm_lg k j = false := by unfold vm_lg; rw [hcl]; rfl
  have hom1 : vm_om (vm_st mem k j z) := hom.st (by rw [hlg]; exact hos.h)
  have hf : (upd (fun j1 : Nat => Int32.ofInt (mem k (j1 : Int))) j.toNat (Int32.ofInt z)) = (fun j1 : Nat => Int32.ofInt (vm_st mem k j z k (j1 : Int))) := by
    funext j1
    rw [vm_st_eq]
    unfold upd
    by_cases hq : j1 = j.toNat
    · rw [if_pos hq, if_pos (by omega)]
    · rw [if_neg hq, if_neg (by omega)]
  refine va_zast C.1 C.2.1 C.2.2.2.2.2.1 hat.1 hat.2.1 hat.2.2.1 k 2 hat1 rfl hx1 hd (fun H1 locs1 h1 h2 h3 => ?_)
  rw [hx2, vm_narz hz] at h1 h2
  rw [hf] at h1 h2
  exact K H1 locs1 lsa (hat.put (mem' := vm_st mem k j z) (by rw [vm_ce_i hcl (by decide)]) (fun j hj => vm_st_ne hj) h9 h1 h2 h3) hol hos.t.t.t hom1 (vm_ox_st h9 hox) hl
theorem vm_s_last (C : vm_Cx p R s m args meth c dC dI ad CA A f d m0 ph n0) {pc : Nat} {ls : vm_L} {mem : vm_M} {k n : Nat} {j z : Int} {r : List vm_V} (hk : vm_ar k 103 n = true) (hj : 0 ≤ j ∧ j < (n : Int)) (hpre : vm_pre ph (vm_l z :: vm_i j :: vm_r k :: r) mem = true) (hd : decode (vm_cb f) pc = .ok (.lastore, 1)) (K : vm_Wx p l e R s m args below meth c cells slots Q dC dI ad CA A ph f m0 n0 (pc + 1) ls r (vm_st mem k j z)) : vm_Wx p l e R s m args below meth c cells slots Q dC dI ad CA A ph f m0 n0 pc ls (vm_l z :: vm_i j :: vm_r k :: r) mem := (vm_no103 hk).elim
theorem vm_s_aald (C : vm_Cx p R s m args meth c dC dI ad CA A f d m0 ph n0) {pc : Nat} {ls : vm_L} {mem : vm_M} {k n : Nat} {j : Int} {r : List vm_V} (hk : vm_cl k = 104 ∧ vm_ln k = n) (hj : 0 ≤ j ∧ j < (n : Int)) (hs : ph = true → mem k j = 1) (hpre : vm_pre ph (vm_i j :: vm_r k :: r) mem = true) (hd : decode (vm_cb f) pc = .ok (.aaload, 1)) (K : vm_Wx p l e R s m args below meth c cells slots Q dC dI ad CA A ph f m0 n0 (pc + 1) ls (vm_r (vm_ab k + 5 * j.toNat) :: r) mem) : vm_Wx p l e R s m args below meth c cells slots Q dC dI ad CA A ph f m0 n0 pc ls (vm_i j :: vm_r k :: r) mem := by
  intro H locs lsa hat hol hos hom hox hl
  obtain ⟨hcl, hln⟩ := hk
  have hkn : k < vm_n ph mem := vm_in_n (by omega) hpre (List.mem_cons_of_mem _ List.mem_cons_self)
  have hat1 := vm_ws_at (ad := ad) (CA := CA) (ph := ph) (m := mem) hkn
  rw [vm_ce_q hcl] at hat1
  subst hln
  obtain ⟨hx1, hx2⟩ := vm_ix hj vm_ln_le
  have hjn : ((j.toNat : Nat) : Int) = j := Int.toNat_of_nonneg hj.1
  have K1 := K H locs lsa hat hol (hos.t.t.c trivial) hom hox hl
  refine va_aldq C.1 C.2.1 C.2.2.2.2.2.1 hat.1 k 4 hat1 rfl hx1 hd ?_
  rw [hx2, if_neg (fun q => q.2 (by rw [hjn]; exact hs q.1))]
  exact K1
theorem vm_s_aast (C : vm_Cx p R s m args meth c dC dI ad CA A f d m0 ph n0) {pc : Nat} {ls : vm_L} {mem : vm_M} {k n v : Nat} {j : Int} {r : List vm_V} (hk : vm_cl k = 104 ∧ vm_ln k = n) (hj : 0 ≤ j ∧ j < (n : Int)) (hv : v = vm_ab k + 5 * j.toNat) (hv4 : vm_is v 4 = true) (hpre : vm_pre ph (vm_r v :: vm_i j :: vm_r k :: r) mem = true) (hd : decode (vm_cb f) pc = .ok (.aastore, 1)) (K : vm_Wx p l e R s m args below meth c cells slots Q dC dI ad CA A ph f m0 n0 (pc + 1) ls r (vm_st mem k j 1)) : vm_Wx p l e R s m args below meth c cells slots Q dC dI ad CA A ph f m0 n0 pc ls (vm_r v :: vm_i j :: vm_r k :: r) mem := by
  intro H locs lsa hat hol hos hom hox hl
  obtain ⟨hcl, hln⟩ := hk
  have hkn : k < vm_n ph mem := vm_in_n (by omega) hpre (List.mem_cons_of_mem _ (List.mem_cons_of_mem _ List.mem_cons_self))
  have hat1 := vm_ws_at (ad := ad) (CA := CA) (ph := ph) (m := mem) hkn
  rw [vm_ce_q hcl] at hat1
  have hv5 := vm_is_cl hv4
  have hvn : v < vm_n ph mem := vm_in_n (by omega) hpre List.mem_cons_self
  have hat2 := vm_ws_at (ad := ad) (CA := CA) (ph := ph) (m := mem) hvn
  rw [vm_ce_o hv5 (by decide)] at hat2
  subst hln
  obtain ⟨hx1, hx2⟩ := vm_ix hj vm_ln_le
  have hjn : ((j.toNat : Nat) : Int) = j := Int.toNat_of_nonneg hj.1
  have h9 : k < 900 := by have := vm_cl_lt (k := k) (by omega); omega
  have hlg : vm_lg k j = false := by unfold vm_lg; rw [hcl]; rfl
  have hom1 : vm_om (vm_st mem k j 1) := hom.st (by rw [hlg]; decide)
  have hf : (va_up (fun j1 : Nat => if ph = true ∧ ¬ mem k (j1 : Int) = 1 then none else some (ad (vm_ab k + 5 * j1))) j.toNat (some (ad v))) = (fun j1 : Nat => if ph = true ∧ ¬ vm_st mem k j 1 k (j1 : Int) = 1 then none else some (ad (vm_ab k + 5 * j1))) := by
    funext j1
    unfold va_up
    by_cases hq : j1 = j.toNat
    · have h1 : vm_st mem k j 1 k (j1 : Int) = 1 := by rw [vm_st_eq, if_pos (by omega)]
      rw [if_pos hq, h1, if_neg (fun q => q.2 rfl), hv, hq]
    · have h1 : vm_st mem k j 1 k (j1 : Int) = mem k (j1 : Int) := by rw [vm_st_eq, if_neg (by omega)]
      rw [if_neg hq, h1]
  refine va_astq (r := (vm_cn 4, vm_T 4, vm_nf 4)) C.1 C.2.1 C.2.2.2.2.2.1 hat.1 hat.2.1 hat.2.2.1 k 4 v 4 hat1 rfl hat2 (vm_cls_at (by decide)) hx1 hd (fun H1 locs1 h1 h2 h3 => ?_)
  rw [hx2, hf] at h1 h2
  exact K H1 locs1 lsa (hat.put (mem' := vm_st mem k j 1) (by rw [vm_ce_q hcl]) (fun j hj => vm_st_ne hj) h9 h1 h2 h3) hol hos.t.t.t hom1 (vm_ox_st h9 hox) hl
end VMS3
