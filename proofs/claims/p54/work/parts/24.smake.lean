/-! ===== making objects and arrays ===== -/
def vm_nm (mem : vm_M) : vm_M := vm_st (vm_zr mem (mem 990 0).toNat) 990 0 (mem 990 0 + 1)
theorem vm_nm_own {mem : vm_M} (h : (mem 990 0).toNat < 900) : vm_nm mem (mem 990 0).toNat = fun _ => 0 := by
  funext j
  unfold vm_nm
  rw [vm_st_ne (by omega)]
  unfold vm_zr
  rw [if_pos rfl]
theorem vm_nm_ne {mem : vm_M} {j : Nat} (h : j ≠ (mem 990 0).toNat) (h9 : j ≠ 990) : vm_nm mem j = mem j := by
  funext i
  unfold vm_nm
  rw [vm_st_ne h9]
  unfold vm_zr
  rw [if_neg h]
theorem vm_nm_n {mem : vm_M} (h0 : 0 ≤ mem 990 0) : vm_n true (vm_nm mem) = vm_n true mem + 1 ∧ 0 ≤ vm_nm mem 990 0 := by
  have : vm_nm mem 990 0 = mem 990 0 + 1 := by unfold vm_nm; rw [vm_st_eq, if_pos rfl]
  unfold vm_n
  rw [this]
  exact ⟨by show (mem 990 0 + 1).toNat = (mem 990 0).toNat + 1; omega, by omega⟩
theorem vm_nm_om {mem : vm_M} (h : (mem 990 0).toNat < 900) (hom : vm_om mem) : vm_om (vm_nm mem) := by
  refine vm_om.st (fun k i => ?_) ?_
  · have := hom k i
    unfold vm_zr
    by_cases hk : k = (mem 990 0).toNat
    · rw [if_pos hk]
      by_cases hq : vm_lg k i = true
      · rw [if_pos hq]; exact ⟨by decide, by decide⟩
      · rw [if_neg hq]; exact ⟨by decide, by decide⟩
    · rw [if_neg hk]; exact this
  · have h1 : vm_lg 990 0 = false := rfl
    have h2 := hom.i h1
    rw [h1]
    refine ⟨?_, ?_⟩
    · have := h2.1; omega
    · omega
theorem vm_nm_ox {m0 mem : vm_M} (h : (mem 990 0).toNat < 900) (hox : vm_ox m0 mem) : vm_ox m0 (vm_nm mem) := fun k h1 h2 => by rw [vm_nm_ne (by omega) (by omega)]; exact hox k h1 h2
theorem vm_hasC_in {own idx g : Nat} (h : vm_hasC own idx g = true) : Cond.classLink (vm_cn own) idx (vm_cn g) ∈ vm_W := by
  unfold vm_hasC at h
  obtain ⟨e, he, h1⟩ := List.any_eq_true.mp h
  simp only [Bool.and_eq_true] at h1
  obtain ⟨⟨g1, g2⟩, g3⟩ := h1
  have := vm_hw_in (List.all_eq_true.mp vm_okC e he)
  unfold vm_wdC at this
  rw [vm_beq g1, vm_beq g2, vm_beq g3] at this
  exact this
section VMS7
variable {p : Program} {l : Launch} {e : Env} {R : Room} {s : State} {m : MethodId} {args : Array Value} {below : List Frame} {meth : Method} {c : Code} {cells slots : Nat} {Q : State → Prop}
variable {dC : Nat → ClassId} {dI : Nat → Nat → Nat} {ad : Nat → Nat} {CA : Nat → ClassId} {A : Nat → Prop} {f d : Nat} {m0 : vm_M} {n0 : Nat}
theorem vm_At.push {mem : vm_M} {H H1 : Heap} {locs : List Loc} (hat : vm_At s dC dI ad CA A true mem cells n0 H locs) (hn0 : (mem 990 0).toNat < 96) (hadn : ad (mem 990 0).toNat = H.size) (z1 : H1.size = H.size + 1) (o1 : ∀ q, q < H.size → H1[q]? = H[q]?) (he : va_at (dC, dI) vm_cls (H.size, vm_ce ad CA true (mem 990 0).toNat (fun _ => 0)) H1) (hA : ∀ q, s.heap.size ≤ q → A q) : vm_At s dC dI ad CA A true (vm_nm mem) (cells + 1) n0 H1 locs := by
  have hn : (mem 990 0).toNat < 900 := by omega
  obtain ⟨hP, hD, hS, hc⟩ := hat
  obtain ⟨hn1, hn2⟩ := vm_nm_n (hc rfl).2.1
  have hn3 : vm_nm mem 990 0 ≤ 96 := by
    have : vm_nm mem 990 0 = mem 990 0 + 1 := by unfold vm_nm; rw [vm_st_eq, if_pos rfl]
    omega
  have hpush := vm_ws_push (ad := ad) (CA := CA) (ph := true) (m := mem) (m' := vm_nm mem) (n := vm_n true mem) (fun j hj => vm_nm_ne (by have : j < (mem 990 0).toNat := hj; omega) (by have : j < (mem 990 0).toNat := hj; omega))
  rw [show vm_nm mem (vm_n true mem) = fun _ => 0 from vm_nm_own hn, show ad (vm_n true mem) = H.size from hadn] at hpush
  refine ⟨?_, ?_, ⟨by rw [z1]; exact Nat.le_trans hS.1 (Nat.le_succ _), fun q h1 h2 => (o1 q (Nat.lt_of_lt_of_le h1 hS.1)).trans (hS.2.1 q h1 h2), hS.2.2⟩, fun _ => ⟨by have := (hc rfl).1; rw [hn1]; omega, hn2, hn3⟩⟩
  · rw [hn1, ← hpush]
    refine (hP.kept (fun k x hx => o1 x.1 (hP k x hx).lt)).app (fun k x hx => ?_)
    have hz : k < 1 := (List.getElem?_eq_some_iff.mp hx).1
    rw [show k = 0 by omega] at hx
    cases hx
    exact he
  · rw [hn1, ← hpush]
    exact hD.push hP rfl (hA _ hS.1)
theorem vm_ad_n {mem : vm_M} {H : Heap} {locs : List Loc} {T : State} (C : vm_Cx p R s m args meth c dC dI ad CA A f d m0 true n0) (hat : vm_At s dC dI ad CA A true mem cells n0 H locs) (hT : T.heap = H) (X : Stand p l e R s m args below meth c T locs cells slots) (hn : (mem 990 0).toNat < 900) : ad (mem 990 0).toNat = H.size := by
  have h1 := vm_At.size C hat hT X rfl
  have h3 : cells + n0 = (mem 990 0).toNat := (hat.2.2.2 rfl).1
  have h4 := C.2.2.2.2.2.2.2.2.2.2.2.2.2.2.2.2 rfl _ hn
  omega
theorem vm_df {a j : Nat} (ha : a < 11) (hj : j < vm_nf a) (k : Nat) : defaultValue (vm_ty a j) = vm_fv ad true a k (fun _ => 0) j := by
  have h := vm_kt_at ha hj
  unfold vm_kt at h
  unfold vm_fv
  generalize vm_fk a j = q at h
  rcases q with _ | _ | _ | _ | q
  · rw [of_decide_eq_true h]; rfl
  · rw [of_decide_eq_true h]; rfl
  · show _ = if _ then _ else _
    rw [if_pos ⟨rfl, (by decide : ¬ (0 : Int) = 1)⟩]
    cases hq : vm_ty a j with
    | object _ => rfl
    | array _ => rfl
    | _ => rw [hq] at h; cases h
  · rw [of_decide_eq_true h]; rfl
  · cases h
theorem vm_s_new (C : vm_Cx p R s m args meth c dC dI ad CA A f d m0 true n0) {pc a idx : Nat} {ls : vm_L} {st : List vm_V} {mem : vm_M} (hk : vm_is (mem 990 0).toNat a = true) (ha : a < 11) (hcs : cells + 1 ≤ R.cells ∧ slots + vm_nf a ≤ R.slots) (hw : vm_hasC (vm_mo f) idx a = true) (hd : decode (vm_cb f) pc = .ok (.new idx, 3)) (K : vm_Wx p l e R s m args below meth c (cells + 1) (slots + vm_nf a) Q dC dI ad CA A true f m0 n0 (pc + 3) ls (vm_r (mem 990 0).toNat :: st) (vm_nm mem)) : vm_Wx p l e R s m args below meth c cells slots Q dC dI ad CA A true f m0 n0 pc ls st mem := by
  intro H locs lsa hat hol hos hom hox hl T hT X
  have hcl := vm_is_cl hk
  have hn0 : (mem 990 0).toNat < 96 := vm_cl_lt (by omega)
  have hn : (mem 990 0).toNat < 900 := by omega
  have hadn := vm_ad_n C hat hT X hn
  have hts : ∀ w ∈ vm_W, w.before args s = true := C.2.2.2.2.1
  have hKn := C.2.2.2.2.2.1.1 a _ (vm_cls_at ha)
  obtain ⟨c1, c2, c3, c4, c5⟩ := vm_cok_1 ha
  suffices hW : W p l e R s m args below meth c H locs cells slots Q (F0 m pc lsa (st.map (vm_v ad))) from hW T hT X
  refine W.newcK C.1 C.2.1 C.2.2.2.1 (hts _ (vm_hasC_in hw)) (hts _ c4) (hts _ c5) rfl hd hcs.1 hcs.2 hKn.2.1 rfl (fun H1 kC hkC e1 z1 o1 => ?_)
  have he : va_at (dC, dI) vm_cls (H.size, vm_ce ad CA true (mem 990 0).toNat (fun _ => 0)) H1 := by
    rw [vm_ce_o hcl ha]
    refine ⟨_, vm_cls_at ha, (u_born (vm_ty a) hts c1 hKn hkC e1 c2).to (fun j hj => ?_)⟩
    rw [vm_df (ad := ad) ha hj (mem 990 0).toNat]
    unfold vp_V
    simp [List.getElem?_range hj, hj]
  have K1 := K H1 locs lsa (hat.push hn0 hadn z1 o1 he C.2.2.2.2.2.2.1) hol (hos.c trivial) (vm_nm_om hn hom) (vm_nm_ox hn hox) hl
  rw [← hadn]
  exact K1
theorem vm_s_newa (C : vm_Cx p R s m args meth c dC dI ad CA A f d m0 true n0) {pc N : Nat} {t : ArrayType} {ls : vm_L} {st : List vm_V} {mem : vm_M} (ht : 0 < vm_at4 t) (hk : vm_ar (mem 990 0).toNat (vm_at4 t) N = true) (hN : N < 10000) (hcs : cells + 1 ≤ R.cells ∧ slots + N ≤ R.slots) (hd : decode (vm_cb f) pc = .ok (.newarray t, 2)) (K : vm_Wx p l e R s m args below meth c (cells + 1) (slots + N) Q dC dI ad CA A true f m0 n0 (pc + 2) ls (vm_r (mem 990 0).toNat :: st) (vm_nm mem)) : vm_Wx p l e R s m args below meth c cells slots Q dC dI ad CA A true f m0 n0 pc ls (vm_i (N : Int) :: st) mem := by
  intro H locs lsa hat hol hos hom hox hl T hT X
  obtain ⟨hcl, hln⟩ := vm_ar_cl hk
  have h9 : vm_at4 t ≠ 103 := fun q => vm_no103 (q ▸ hk)
  have h4 : vm_at4 t = 100 ∨ vm_at4 t = 101 ∨ vm_at4 t = 102 ∨ vm_at4 t = 103 := by cases t <;> first | exact absurd ht (by decide) | decide
  have hn0 : (mem 990 0).toNat < 96 := vm_cl_lt (by omega)
  have hn : (mem 990 0).toNat < 900 := by omega
  have hadn := vm_ad_n C hat hT X hn
  have hts : ∀ w ∈ vm_W, w.before args s = true := C.2.2.2.2.1
  have hw : Cond.arrayClass (newarray.typeOf t) ∈ vm_W := by
    cases t with
    | int => exact vm_hw_in vm_okX1
    | byte => exact vm_hw_in vm_okX2
    | boolean => exact vm_hw_in vm_okX3
    | long => exact absurd (show vm_at4 .long = 103 from rfl) h9
    | _ => exact absurd ht (by decide)
  have hK := C.2.2.2.2.2.1.2
  have hz32 : vm_32 (N : Int) := ⟨by omega, by omega⟩
  have hNN : (Int32.ofInt (N : Int)).toNatClampNeg = N := by rw [Int32.toNatClampNeg_ofInt_of_le (by omega) (by omega)]; omega
  have hcb : N * componentBytes (newarray.typeOf t) ≤ 536870912 := by
    have : componentBytes (newarray.typeOf t) ≤ 8 := by cases t <;> decide
    have := Nat.mul_le_mul (Nat.le_of_lt hN) this
    omega
  suffices hW : W p l e R s m args below meth c H locs cells slots Q (F0 m pc lsa ((vm_i (N : Int) :: st).map (vm_v ad))) from hW T hT X
  refine va_newaK C.1 C.2.1 (hts _ hw) rfl hd rfl (fun q => absurd ((vm_ilt0 hz32).mp q) (by omega)) hNN hcb hcs.1 hcs.2 rfl (fun H1 cA e1 z1 o1 hAr hNm => ?_)
  have he : va_at (dC, dI) vm_cls (H.size, vm_ce ad CA true (mem 990 0).toNat (fun _ => 0)) H1 := by
    rcases h4 with h5 | h5 | h5 | h5
    · rw [vm_ce_i (hcl.trans h5) (by decide), hln]
      have hq := (hK 0 _ rfl).2
      show H1[H.size]? = some (vp_cell (CA 100) (N, .inl (fun _ => Int32.ofInt 0)))
      rw [e1, vp_cell_i]
      cases t <;> first | exact absurd h5 (by decide) | skip
      cases hNm.symm.trans hq
      rfl
    · rw [vm_ce_i (hcl.trans h5) (by decide), hln]
      have hq := (hK 1 _ rfl).2
      show H1[H.size]? = some (vp_cell (CA 101) (N, .inl (fun _ => Int32.ofInt 0)))
      rw [e1, vp_cell_i]
      cases t <;> first | exact absurd h5 (by decide) | skip
      cases hNm.symm.trans hq
      rfl
    · rw [vm_ce_i (hcl.trans h5) (by decide), hln]
      have hq := (hK 2 _ rfl).2
      show H1[H.size]? = some (vp_cell (CA 102) (N, .inl (fun _ => Int32.ofInt 0)))
      rw [e1, vp_cell_i]
      cases t <;> first | exact absurd h5 (by decide) | skip
      cases hNm.symm.trans hq
      rfl
    · exact absurd h5 h9
  have K1 := K H1 locs lsa (hat.push hn0 hadn z1 o1 he C.2.2.2.2.2.2.1) hol (hos.t.c trivial) (vm_nm_om hn hom) (vm_nm_ox hn hox) hl
  rw [← hadn]
  exact K1
theorem vm_s_newq (C : vm_Cx p R s m args meth c dC dI ad CA A f d m0 true n0) {pc N idx : Nat} {ls : vm_L} {st : List vm_V} {mem : vm_M} (hk : vm_ar (mem 990 0).toNat 104 N = true) (hN : N < 10000) (hcs : cells + 1 ≤ R.cells ∧ slots + N ≤ R.slots) (hw : vm_hasC (vm_mo f) idx 4 = true) (hd : decode (vm_cb f) pc = .ok (.anewarray idx, 3)) (K : vm_Wx p l e R s m args below meth c (cells + 1) (slots + N) Q dC dI ad CA A true f m0 n0 (pc + 3) ls (vm_r (mem 990 0).toNat :: st) (vm_nm mem)) : vm_Wx p l e R s m args below meth c cells slots Q dC dI ad CA A true f m0 n0 pc ls (vm_i (N : Int) :: st) mem := by
  intro H locs lsa hat hol hos hom hox hl T hT X
  obtain ⟨hcl, hln⟩ := vm_ar_cl hk
  have hn0 : (mem 990 0).toNat < 96 := vm_cl_lt (by omega)
  have hn : (mem 990 0).toNat < 900 := by omega
  have hadn := vm_ad_n C hat hT X hn
  have hts : ∀ w ∈ vm_W, w.before args s = true := C.2.2.2.2.1
  have hE : vm_Ext ad A m0 s s.heap := C.2.2.2.2.2.2.2.1
  have hao : va_AO (vm_cn 4) s := hE.2.2.2.2.1 _ (List.mem_append_right _ List.mem_cons_self)
  have hK := (C.2.2.2.2.2.1.2 4 _ rfl).2
  have hz32 : vm_32 (N : Int) := ⟨by omega, by omega⟩
  have hNN : (Int32.ofInt (N : Int)).toNatClampNeg = N := by rw [Int32.toNatClampNeg_ofInt_of_le (by omega) (by omega)]; omega
  suffices hW : W p l e R s m args below meth c H locs cells slots Q (F0 m pc lsa ((vm_i (N : Int) :: st).map (vm_v ad))) from hW T hT X
  refine W.anew C.1 C.2.1 C.2.2.2.1 (hts _ (vm_hasC_in hw)) (va_AO.use hao) rfl hd rfl (fun q => absurd ((vm_ilt0 hz32).mp q) (by omega)) (by rw [hNN]; omega) hcs.1 (by rw [hNN]; exact hcs.2) (fun cA kA comp f1 f2 f3 f4 => ?_)
  generalize hH1 : H.push ({ cls := cA, slots := Array.replicate (Int32.ofInt (N : Int)).toNatClampNeg .null, vm := .none } : Cell) = H1
  rw [hNN] at hH1
  have z1 : H1.size = H.size + 1 := by rw [← hH1, Array.size_push]
  have e1 : H1[H.size]? = some (arrV cA N (fun _ => .null)) := by rw [← hH1, Array.getElem?_push_size, ← arrV_new]
  have o1 : ∀ q : Nat, q < H.size → H1[q]? = H[q]? := fun q hq => by rw [← hH1, Array.getElem?_push, if_neg (Nat.ne_of_lt hq)]
  have he : va_at (dC, dI) vm_cls (H.size, vm_ce ad CA true (mem 990 0).toNat (fun _ => 0)) H1 := by
    rw [vm_ce_q hcl, hln]
    obtain ⟨kA', comp', -, -, -, hq⟩ := hK
    show H1[H.size]? = some (vp_cell (CA 104) _)
    rw [e1]
    cases f1.symm.trans hq
    rw [vp_cell_q]
    rfl
  have K1 := K H1 locs lsa (hat.push hn0 hadn z1 o1 he C.2.2.2.2.2.2.1) hol (hos.t.c trivial) (vm_nm_om hn hom) (vm_nm_ox hn hox) hl
  rw [hNN, ← hadn]
  exact K1
end VMS7
