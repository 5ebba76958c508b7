/-! ===== texts compared, a sign of a text ===== -/
section JQ
variable {p : Program} {l : Launch} {e : Env} {R : Room} {s : State} {m : MethodId} {args : Array Value} {below : List Frame} {meth : Method} {c : Code} {Q : State → Prop} {cells slots : Nat} {A : Nat → Prop}
set_option maxHeartbeats 4000000 in
theorem jl_eq (hx : p.tables.exec = Jvm.exec) (hb : c.code = prog_20_method_13_code) {x y : Nat × Nat × Nat × (Nat → Int32)} {H : Heap} {locs : List Loc} (hX1 : va_T .byte x.2.1 x.2.2.1 (fun j => .int (x.2.2.2 j)) A s s.heap) (hY1 : va_T .byte y.2.1 y.2.2.1 (fun j => .int (y.2.2.2 j)) A s s.heap) (hS : va_S A s.heap H locs) (hlen : x.2.2.1 = y.2.2.1) (hn : x.2.2.1 ≤ 65536) (he : ∀ j, j < x.2.2.1 → x.2.2.2 j = y.2.2.2 j) (kk : ∀ ls : Array Slot, W p l e R s m args below meth c H locs cells slots Q (F0 m 33 ls [.int 1])) :
    ∀ (d k : Nat) (ls : Array Slot), k + d = x.2.2.1 → lv_has ls 3 [(2, .int (nI k)), (0, .ref x.2.1), (1, .ref y.2.1)] → W p l e R s m args below meth c H locs cells slots Q (F0 m 9 ls []) := by
  intro d
  induction d with
  | zero =>
    intro k ls hk hl
    refine lv_iload_n hx hb (by decide +kernel : decode prog_20_method_13_code 9 = .ok (.iload_n 2, 1)) rfl (lv_at hl 0 rfl) ?_
    refine lv_aload_n hx hb (by decide +kernel : decode prog_20_method_13_code 10 = .ok (.aload_n 0, 1)) rfl (lv_at hl 1 rfl) ?_
    refine va_tlen (v := nI x.2.2.1) hx hb hX1 hS rfl (by decide +kernel : decode prog_20_method_13_code 11 = .ok (.arraylength, 1)) ?_
    refine lv_icmp_ge (tgt := 32) hx hb (by decide +kernel : decode prog_20_method_13_code 12 = .ok (.if_icmp .ge 20, 3)) (by decide) (fun _ => ?_) (fun z9 => absurd (nI_le (a := x.2.2.1) (b := k) (by omega) (by omega)) z9)
    refine lv_iconst (v := 1) hx hb (by decide +kernel : decode prog_20_method_13_code 32 = .ok (.iconst 1, 1)) (by decide) ?_
    exact kk ls
  | succ d ih =>
    intro k ls hk hl
    refine lv_iload_n hx hb (by decide +kernel : decode prog_20_method_13_code 9 = .ok (.iload_n 2, 1)) rfl (lv_at hl 0 rfl) ?_
    refine lv_aload_n hx hb (by decide +kernel : decode prog_20_method_13_code 10 = .ok (.aload_n 0, 1)) rfl (lv_at hl 1 rfl) ?_
    refine va_tlen (v := nI x.2.2.1) hx hb hX1 hS rfl (by decide +kernel : decode prog_20_method_13_code 11 = .ok (.arraylength, 1)) ?_
    refine lv_icmp_ge (tgt := 32) hx hb (by decide +kernel : decode prog_20_method_13_code 12 = .ok (.if_icmp .ge 20, 3)) (by decide) (fun z9 => absurd z9 (nI_ge (a := k) (b := x.2.2.1) (by omega) (by omega))) (fun _ => ?_)
    refine lv_aload_n hx hb (by decide +kernel : decode prog_20_method_13_code 15 = .ok (.aload_n 0, 1)) rfl (lv_at hl 1 rfl) ?_
    refine lv_iload_n hx hb (by decide +kernel : decode prog_20_method_13_code 16 = .ok (.iload_n 2, 1)) rfl (lv_at hl 0 rfl) ?_
    refine va_tb hx hb hX1 hS (i := nI k) (vp_in_nI (by omega) (by omega)) (v := .int (x.2.2.2 k)) (by rw [nI_clamp (by omega)]) (by decide +kernel : decode prog_20_method_13_code 17 = .ok (.baload, 1)) ?_
    refine lv_aload_n hx hb (by decide +kernel : decode prog_20_method_13_code 18 = .ok (.aload_n 1, 1)) rfl (lv_at hl 2 rfl) ?_
    refine lv_iload_n hx hb (by decide +kernel : decode prog_20_method_13_code 19 = .ok (.iload_n 2, 1)) rfl (lv_at hl 0 rfl) ?_
    refine va_tb hx hb hY1 hS (i := nI k) (vp_in_nI (by omega) (by omega)) (v := .int (y.2.2.2 k)) (by rw [nI_clamp (by omega)]) (by decide +kernel : decode prog_20_method_13_code 20 = .ok (.baload, 1)) ?_
    refine lv_icmp_eq (tgt := 26) hx hb (by decide +kernel : decode prog_20_method_13_code 21 = .ok (.if_icmp .eq 5, 3)) (by decide) (fun _ => ?_) (fun z9 => absurd (he k (by omega)) z9)
    refine lv_iinc (v := nI (k + 1)) (lv' := [(2, .int (nI (k + 1))), (0, .ref x.2.1), (1, .ref y.2.1)]) hx hb (by decide +kernel : decode prog_20_method_13_code 26 = .ok (.iinc 2 1, 3)) hl (k := 0) rfl (by rw [show Int32.ofInt 1 = 1 from rfl]; exact nI_1 k) (by decide) rfl (fun ls hl => ?_)
    refine lv_goto (tgt := 9) hx hb (by decide +kernel : decode prog_20_method_13_code 29 = .ok (.goto (-20), 3)) (by decide) ?_
    exact ih (k + 1) ls (by omega) hl
end JQ
theorem jk33 : Cond.code ⟨"java/lang/StringLatin1", "equals", "([B[B)Z"⟩ prog_20_method_13_code 3 (some .boolean) ∈ vm_W := vm_code_in (vm_in6 (List.mem_of_getElem? (i := 136) (by rfl)))
set_option maxHeartbeats 4000000 in
theorem jm_lEq (l : Launch) (dC : Nat → ClassId) (dI : Nat → Nat → Nat) (CA : Nat → ClassId) (A : Nat → Prop) (L : jT) (x y : Nat × Nat × Nat × (Nat → Int32)) (w0 : va_W) (hxL : x ∈ L) (hyL : y ∈ L) (hlen : x.2.2.1 = y.2.2.1) (hn : x.2.2.1 ≤ 65536) (he : ∀ j, j < x.2.2.1 → x.2.2.2 j = y.2.2.2 j) : Met l ⟨"java/lang/StringLatin1", "equals", "([B[B)Z"⟩ (Cond.code ⟨"java/lang/StringLatin1", "equals", "([B[B)Z"⟩ prog_20_method_13_code 3 (some .boolean) :: vm_W) ({ frames := 0, cells := 0, slots := 0, locals := 0 }) (va_Pc [.ref x.2.1, .ref y.2.1] (jB dC dI CA A L w0)) (jE dC dI A (fun v ws => v = some (.int 1) ∧ ws = w0)) 0 0 A := by
  refine Met.ofW (cc := prog_20_method_13_code) (maxL := 3) (ret := (some .boolean)) (by decide) rfl ?_
  intro p e s m args below meth c s₁ B hml hv
  obtain ⟨rfl, hK, hX, hL, hP, hD, hA⟩ := hv
  have hx := B.exec
  have hb := B.bytes
  have hr := B.returns
  have hts := vm_tsW (atoms_spec B.pre)
  have hown : s.vm.findClass "java/lang/StringLatin1" = some m.cls := findClass_of_methodNamed B.named
  have hlocks := B.notSynchronized
  have hnm : meth.name = "equals" := (name_of_methodNamed B.named B.method).1
  have hS : va_S A s.heap s.heap [] := va_S.rf
  have hl := lv_entry ([.ref x.2.1, .ref y.2.1]) (n := 3) (Nat.le_of_ble_eq_true rfl)
  rw [lg_entry_eq]
  generalize (lg_sl ([.ref x.2.1, .ref y.2.1]) ++ List.replicate (3 - (lg_sl ([.ref x.2.1, .ref y.2.1])).length) Slot.unset).toArray = ls at hl ⊢
  have hl : lv_has ls 3 [(0, .ref x.2.1), (1, .ref y.2.1)] := hl
  refine lv_aload_n hx hb (by decide +kernel : decode prog_20_method_13_code 0 = .ok (.aload_n 0, 1)) rfl (lv_at hl 0 rfl) ?_
  refine va_tlen (v := nI x.2.2.1) hx hb (hL _ hxL).2.2.2 hS rfl (by decide +kernel : decode prog_20_method_13_code 1 = .ok (.arraylength, 1)) ?_
  refine lv_aload_n hx hb (by decide +kernel : decode prog_20_method_13_code 2 = .ok (.aload_n 1, 1)) rfl (lv_at hl 1 rfl) ?_
  refine va_tlen (v := nI y.2.2.1) hx hb (hL _ hyL).2.2.2 hS rfl (by decide +kernel : decode prog_20_method_13_code 3 = .ok (.arraylength, 1)) ?_
  refine lv_icmp_ne (tgt := 34) hx hb (by decide +kernel : decode prog_20_method_13_code 4 = .ok (.if_icmp .ne 30, 3)) (by decide) (fun z9 => absurd z9 (fun z => z (congrArg nI hlen))) (fun _ => ?_)
  refine lv_iconst (v := 0) hx hb (by decide +kernel : decode prog_20_method_13_code 7 = .ok (.iconst 0, 1)) (by decide) ?_
  refine lv_istore_n (lv' := [(2, .int 0), (0, .ref x.2.1), (1, .ref y.2.1)]) hx hb (by decide +kernel : decode prog_20_method_13_code 8 = .ok (.istore_n 2, 1)) rfl hl (by decide) rfl (fun ls hl => ?_)
  refine jl_eq hx hb (hL _ hxL).2.2.2 (hL _ hyL).2.2.2 hS hlen hn he (fun ls => ?_) x.2.2.1 0 _ (by omega) hl
  refine W.widen (show 0 ≤ 0 by omega) (show 0 ≤ 0 by omega) ?_
  exact W.zret hx hb hr (rfl) (fun t ht hW => ⟨_, _, ⟨rfl, rfl⟩, rfl, by rw [ht]; exact hP, hD, hS.F ht⟩) hS.2.2 (by decide +kernel : decode prog_20_method_13_code 33 = .ok (.ireturn, 1))
theorem jk34 : Cond.code ⟨"java/lang/String", "equals", "(Ljava/lang/Object;)Z"⟩ prog_18_method_66_code 3 (some .boolean) ∈ vm_W := vm_code_in (vm_in6 (List.mem_of_getElem? (i := 132) (by rfl)))
set_option maxHeartbeats 4000000 in
theorem jm_sEq (l : Launch) (dC : Nat → ClassId) (dI : Nat → Nat → Nat) (CA : Nat → ClassId) (A : Nat → Prop) (L : jT) (x y : Nat × Nat × Nat × (Nat → Int32)) (w0 : va_W) (hxL : x ∈ L) (hyL : y ∈ L) (hlen : x.2.2.1 = y.2.2.1) (hn : x.2.2.1 ≤ 65536) (he : ∀ j, j < x.2.2.1 → x.2.2.2 j = y.2.2.2 j) : Met l ⟨"java/lang/String", "equals", "(Ljava/lang/Object;)Z"⟩ (Cond.code ⟨"java/lang/String", "equals", "(Ljava/lang/Object;)Z"⟩ prog_18_method_66_code 3 (some .boolean) :: vm_W) ({ frames := 1, cells := 0, slots := 0, locals := 40 }) (va_Pc [.ref x.1, .ref y.1] (jB dC dI CA A L w0)) (jE dC dI A (fun v ws => v = some (.int 1) ∧ ws = w0)) 0 0 A := by
  refine Met.ofW (cc := prog_18_method_66_code) (maxL := 3) (ret := (some .boolean)) (by decide) rfl ?_
  intro p e s m args below meth c s₁ B hml hv
  obtain ⟨rfl, hK, hX, hL, hP, hD, hA⟩ := hv
  have hx := B.exec
  have hb := B.bytes
  have hr := B.returns
  have hts := vm_tsW (atoms_spec B.pre)
  have hown : s.vm.findClass "java/lang/String" = some m.cls := findClass_of_methodNamed B.named
  have hlocks := B.notSynchronized
  have hnm : meth.name = "equals" := (name_of_methodNamed B.named B.method).1
  have hS : va_S A s.heap s.heap [] := va_S.rf
  have hl := lv_entry ([.ref x.1, .ref y.1]) (n := 3) (Nat.le_of_ble_eq_true rfl)
  rw [lg_entry_eq]
  generalize (lg_sl ([.ref x.1, .ref y.1]) ++ List.replicate (3 - (lg_sl ([.ref x.1, .ref y.1])).length) Slot.unset).toArray = ls at hl ⊢
  have hl : lv_has ls 3 [(0, .ref x.1), (1, .ref y.1)] := hl
  refine lv_aload_n hx hb (by decide +kernel : decode prog_18_method_66_code 0 = .ok (.aload_n 0, 1)) rfl (lv_at hl 0 rfl) ?_
  refine lv_aload_n hx hb (by decide +kernel : decode prog_18_method_66_code 1 = .ok (.aload_n 1, 1)) rfl (lv_at hl 1 rfl) ?_
  refine lv_acmp_ne (rx := some x.1) (ry := some y.1) (tgt := 7) hx hb (by decide +kernel : decode prog_18_method_66_code 2 = .ok (.if_acmp .ne 5, 3)) (by decide) (fun _ => ?_) (fun _ => ?_)
  · skip
    refine lv_aload_n hx hb (by decide +kernel : decode prog_18_method_66_code 7 = .ok (.aload_n 1, 1)) rfl (lv_at hl 1 rfl) ?_
    refine va_instS hx hb hown (hts (.classLink "java/lang/String" 10 "java/lang/String") (vm_hw_in (i := 1370) (by decide +kernel))) (hK.1 11 _ jcl11).2 (jSrecv (hL _ hyL) hS) (by decide +kernel : decode prog_18_method_66_code 8 = .ok (.instanceof 10, 3)) ?_
    refine lv_if_eq (tgt := 54) hx hb (by decide +kernel : decode prog_18_method_66_code 11 = .ok (.ifCond .eq 43, 3)) (by decide) (fun z9 => absurd z9 (by decide)) (fun _ => ?_)
    refine lv_aload_n hx hb (by decide +kernel : decode prog_18_method_66_code 14 = .ok (.aload_n 1, 1)) rfl (lv_at hl 1 rfl) ?_
    refine va_castS hx hb hown (hts (.classLink "java/lang/String" 10 "java/lang/String") (vm_hw_in (i := 1370) (by decide +kernel))) (hK.1 11 _ jcl11).2 (jSrecv (hL _ hyL) hS) (by decide +kernel : decode prog_18_method_66_code 15 = .ok (.checkcast 10, 3)) ?_
    refine lv_astore_n (lv' := [(2, .ref y.1), (0, .ref x.1), (1, .ref y.1)]) hx hb (by decide +kernel : decode prog_18_method_66_code 18 = .ok (.astore_n 2, 1)) rfl hl (by decide) rfl (fun ls hl => ?_)
    refine va_gets hx hb hX.1 hS hown (hts (.fieldLink "java/lang/String" 38 "java/lang/String" "COMPACT_STRINGS" "Z") (vm_hw_in (i := 419) (by decide +kernel))) (fun _ h => h) (by decide +kernel : decode prog_18_method_66_code 19 = .ok (.getstatic 38, 3)) ?_
    refine lv_if_eq (tgt := 36) hx hb (by decide +kernel : decode prog_18_method_66_code 22 = .ok (.ifCond .eq 14, 3)) (by decide) (fun z9 => absurd z9 (by decide)) (fun _ => ?_)
    refine lv_aload_n hx hb (by decide +kernel : decode prog_18_method_66_code 25 = .ok (.aload_n 0, 1)) rfl (lv_at hl 1 rfl) ?_
    refine vk_getf hx hb (hL _ hxL).2.2.1 hS hown (hts (.fieldLink "java/lang/String" 15 "java/lang/String" "coder" "B") (vm_hw_in (i := 1018) (by decide +kernel))) (fun _ h => h) (by decide +kernel : decode prog_18_method_66_code 26 = .ok (.getfield 15, 3)) ?_
    refine lv_aload_n hx hb (by decide +kernel : decode prog_18_method_66_code 29 = .ok (.aload_n 2, 1)) rfl (lv_at hl 0 rfl) ?_
    refine vk_getf hx hb (hL _ hyL).2.2.1 hS hown (hts (.fieldLink "java/lang/String" 15 "java/lang/String" "coder" "B") (vm_hw_in (i := 1018) (by decide +kernel))) (fun _ h => h) (by decide +kernel : decode prog_18_method_66_code 30 = .ok (.getfield 15, 3)) ?_
    refine lv_icmp_ne (tgt := 54) hx hb (by decide +kernel : decode prog_18_method_66_code 33 = .ok (.if_icmp .ne 21, 3)) (by decide) (fun z9 => absurd z9 (fun z => z rfl)) (fun _ => ?_)
    refine lv_aload_n hx hb (by decide +kernel : decode prog_18_method_66_code 36 = .ok (.aload_n 0, 1)) rfl (lv_at hl 1 rfl) ?_
    refine vk_getf hx hb (hL _ hxL).2.1 hS hown (hts (.fieldLink "java/lang/String" 9 "java/lang/String" "value" "[B") (vm_hw_in (i := 1017) (by decide +kernel))) (fun _ h => h) (by decide +kernel : decode prog_18_method_66_code 37 = .ok (.getfield 9, 3)) ?_
    refine lv_aload_n hx hb (by decide +kernel : decode prog_18_method_66_code 40 = .ok (.aload_n 2, 1)) rfl (lv_at hl 0 rfl) ?_
    refine vk_getf hx hb (hL _ hyL).2.1 hS hown (hts (.fieldLink "java/lang/String" 9 "java/lang/String" "value" "[B") (vm_hw_in (i := 1017) (by decide +kernel))) (fun _ h => h) (by decide +kernel : decode prog_18_method_66_code 41 = .ok (.getfield 9, 3)) ?_
    refine j_call (va_runS (As := [.ref x.2.1, .ref y.2.1]) (rest := []) ⟨hx, hb, hml, hown, hts⟩ (jm_lEq l dC dI CA A L x y _ hxL hyL hlen hn he) (va_cwS 2 hts (vm_gS jk33 (vm_hw_in (i := 1371) (by decide +kernel)) (vm_hw_in (i := 1372) (by decide +kernel)) (vm_hw_in (i := 58) (by decide +kernel))) rfl rfl rfl (by decide +kernel) ⟨Nat.le_of_ble_eq_true rfl, Nat.le_of_ble_eq_true rfl⟩) ⟨jB.blind, fun U hU hW => ⟨rfl, jB.of hK hX hL hA hP hD hS hU hW⟩⟩ rfl rfl hl.1 rfl (lv_room (Nat.le_of_ble_eq_true rfl)) (by decide +kernel : decode prog_18_method_66_code 44 = .ok (.invokestatic 541, 3)) ⟨by show 0 + 0 ≤ 0; omega, by show 0 + 0 ≤ 0; omega⟩) hS (fun v ws H locs hR hP hD hS => ?_)
    obtain ⟨rfl, e9⟩ := hR
    rw [e9] at hP hD
    refine lv_if_eq (tgt := 54) hx hb (by decide +kernel : decode prog_18_method_66_code 47 = .ok (.ifCond .eq 7, 3)) (by decide) (fun z9 => absurd z9 (by decide)) (fun _ => ?_)
    refine lv_iconst (v := 1) hx hb (by decide +kernel : decode prog_18_method_66_code 50 = .ok (.iconst 1, 1)) (by decide) ?_
    refine lv_goto (tgt := 55) hx hb (by decide +kernel : decode prog_18_method_66_code 51 = .ok (.goto 4, 3)) (by decide) ?_
    refine W.widen (show (0 + 0) ≤ 0 by omega) (show (0 + 0) ≤ 0 by omega) ?_
    exact W.zret hx hb hr (rfl) (fun t ht hW => ⟨_, _, ⟨rfl, rfl⟩, rfl, by rw [ht]; exact hP, hD, hS.F ht⟩) hS.2.2 (by decide +kernel : decode prog_18_method_66_code 55 = .ok (.ireturn, 1))
  · skip
    refine lv_iconst (v := 1) hx hb (by decide +kernel : decode prog_18_method_66_code 5 = .ok (.iconst 1, 1)) (by decide) ?_
    refine W.widen (show 0 ≤ 0 by omega) (show 0 ≤ 0 by omega) ?_
    exact W.zret hx hb hr (rfl) (fun t ht hW => ⟨_, _, ⟨rfl, rfl⟩, rfl, by rw [ht]; exact hP, hD, hS.F ht⟩) hS.2.2 (by decide +kernel : decode prog_18_method_66_code 6 = .ok (.ireturn, 1))
theorem jk35 : Cond.code ⟨"java/lang/String", "isLatin1", "()Z"⟩ prog_18_method_154_code 1 (some .boolean) ∈ vm_W := vm_code_in (vm_in2 (List.mem_of_getElem? (i := 151) (by rfl)))
set_option maxHeartbeats 4000000 in
theorem jm_sLat (l : Launch) (dC : Nat → ClassId) (dI : Nat → Nat → Nat) (CA : Nat → ClassId) (A : Nat → Prop) (L : jT) (x : Nat × Nat × Nat × (Nat → Int32)) (w0 : va_W) (hxL : x ∈ L) : Met l ⟨"java/lang/String", "isLatin1", "()Z"⟩ (Cond.code ⟨"java/lang/String", "isLatin1", "()Z"⟩ prog_18_method_154_code 1 (some .boolean) :: vm_W) ({ frames := 0, cells := 0, slots := 0, locals := 0 }) (va_Pc [.ref x.1] (jB dC dI CA A L w0)) (jE dC dI A (fun v ws => v = some (.int 1) ∧ ws = w0)) 0 0 A := by
  refine Met.ofW (cc := prog_18_method_154_code) (maxL := 1) (ret := (some .boolean)) (by decide) rfl ?_
  intro p e s m args below meth c s₁ B hml hv
  obtain ⟨rfl, hK, hX, hL, hP, hD, hA⟩ := hv
  have hx := B.exec
  have hb := B.bytes
  have hr := B.returns
  have hts := vm_tsW (atoms_spec B.pre)
  have hown : s.vm.findClass "java/lang/String" = some m.cls := findClass_of_methodNamed B.named
  have hlocks := B.notSynchronized
  have hnm : meth.name = "isLatin1" := (name_of_methodNamed B.named B.method).1
  have hS : va_S A s.heap s.heap [] := va_S.rf
  have hl := lv_entry ([.ref x.1]) (n := 1) (Nat.le_of_ble_eq_true rfl)
  rw [lg_entry_eq]
  generalize (lg_sl ([.ref x.1]) ++ List.replicate (1 - (lg_sl ([.ref x.1])).length) Slot.unset).toArray = ls at hl ⊢
  have hl : lv_has ls 1 [(0, .ref x.1)] := hl
  refine va_gets hx hb hX.1 hS hown (hts (.fieldLink "java/lang/String" 38 "java/lang/String" "COMPACT_STRINGS" "Z") (vm_hw_in (i := 419) (by decide +kernel))) (fun _ h => h) (by decide +kernel : decode prog_18_method_154_code 0 = .ok (.getstatic 38, 3)) ?_
  refine lv_if_eq (tgt := 17) hx hb (by decide +kernel : decode prog_18_method_154_code 3 = .ok (.ifCond .eq 14, 3)) (by decide) (fun z9 => absurd z9 (by decide)) (fun _ => ?_)
  refine lv_aload_n hx hb (by decide +kernel : decode prog_18_method_154_code 6 = .ok (.aload_n 0, 1)) rfl (lv_at hl 0 rfl) ?_
  refine vk_getf hx hb (hL _ hxL).2.2.1 hS hown (hts (.fieldLink "java/lang/String" 15 "java/lang/String" "coder" "B") (vm_hw_in (i := 1018) (by decide +kernel))) (fun _ h => h) (by decide +kernel : decode prog_18_method_154_code 7 = .ok (.getfield 15, 3)) ?_
  refine lv_if_ne (tgt := 17) hx hb (by decide +kernel : decode prog_18_method_154_code 10 = .ok (.ifCond .ne 7, 3)) (by decide) (fun z9 => absurd z9 (fun z => z rfl)) (fun _ => ?_)
  refine lv_iconst (v := 1) hx hb (by decide +kernel : decode prog_18_method_154_code 13 = .ok (.iconst 1, 1)) (by decide) ?_
  refine lv_goto (tgt := 18) hx hb (by decide +kernel : decode prog_18_method_154_code 14 = .ok (.goto 4, 3)) (by decide) ?_
  refine W.widen (show 0 ≤ 0 by omega) (show 0 ≤ 0 by omega) ?_
  exact W.zret hx hb hr (rfl) (fun t ht hW => ⟨_, _, ⟨rfl, rfl⟩, rfl, by rw [ht]; exact hP, hD, hS.F ht⟩) hS.2.2 (by decide +kernel : decode prog_18_method_154_code 18 = .ok (.ireturn, 1))
theorem jk36 : Cond.code ⟨"jdk/internal/util/Preconditions", "checkIndex", "(IILjava/util/function/BiFunction;)I"⟩ prog_25_method_11_code 3 (some .int) ∈ vm_W := vm_code_in (vm_in2 (List.mem_of_getElem? (i := 162) (by rfl)))
set_option maxHeartbeats 4000000 in
theorem jm_pre (l : Launch) (dC : Nat → ClassId) (dI : Nat → Nat → Nat) (CA : Nat → ClassId) (A : Nat → Prop) (L : jT) (i n : Nat) (r9 : Option Nat) (w0 : va_W) (hi : i < n) (hn : n ≤ 65536) : Met l ⟨"jdk/internal/util/Preconditions", "checkIndex", "(IILjava/util/function/BiFunction;)I"⟩ (Cond.code ⟨"jdk/internal/util/Preconditions", "checkIndex", "(IILjava/util/function/BiFunction;)I"⟩ prog_25_method_11_code 3 (some .int) :: vm_W) ({ frames := 0, cells := 0, slots := 0, locals := 0 }) (va_Pc [.int (nI i), .int (nI n), va_rf r9] (jB dC dI CA A L w0)) (jE dC dI A (fun v ws => v = some (.int (nI i)) ∧ ws = w0)) 0 0 A := by
  refine Met.ofW (cc := prog_25_method_11_code) (maxL := 3) (ret := (some .int)) (by decide) rfl ?_
  intro p e s m args below meth c s₁ B hml hv
  obtain ⟨rfl, hK, hX, hL, hP, hD, hA⟩ := hv
  have hx := B.exec
  have hb := B.bytes
  have hr := B.returns
  have hts := vm_tsW (atoms_spec B.pre)
  have hown : s.vm.findClass "jdk/internal/util/Preconditions" = some m.cls := findClass_of_methodNamed B.named
  have hlocks := B.notSynchronized
  have hnm : meth.name = "checkIndex" := (name_of_methodNamed B.named B.method).1
  have hS : va_S A s.heap s.heap [] := va_S.rf
  have hl := lv_entry ([.int (nI i), .int (nI n), va_rf r9]) (n := 3) (by cases r9 <;> exact Nat.le_of_ble_eq_true rfl)
  rw [lg_entry_eq]
  generalize (lg_sl ([.int (nI i), .int (nI n), va_rf r9]) ++ List.replicate (3 - (lg_sl ([.int (nI i), .int (nI n), va_rf r9])).length) Slot.unset).toArray = ls at hl ⊢
  have hl : lv_has ls 3 [(0, .int (nI i)), (1, .int (nI n)), (2, va_rf r9)] := by cases r9 <;> exact hl
  refine lv_iload_n hx hb (by decide +kernel : decode prog_25_method_11_code 0 = .ok (.iload_n 0, 1)) rfl (lv_at hl 0 rfl) ?_
  refine lv_if_lt (tgt := 9) hx hb (by decide +kernel : decode prog_25_method_11_code 1 = .ok (.ifCond .lt 8, 3)) (by decide) (fun z9 => absurd z9 (nI_pos (by omega))) (fun _ => ?_)
  refine lv_iload_n hx hb (by decide +kernel : decode prog_25_method_11_code 4 = .ok (.iload_n 0, 1)) rfl (lv_at hl 0 rfl) ?_
  refine lv_iload_n hx hb (by decide +kernel : decode prog_25_method_11_code 5 = .ok (.iload_n 1, 1)) rfl (lv_at hl 1 rfl) ?_
  refine lv_icmp_lt (tgt := 16) hx hb (by decide +kernel : decode prog_25_method_11_code 6 = .ok (.if_icmp .lt 10, 3)) (by decide) (fun _ => ?_) (fun z9 => absurd (nI_lt hi (by omega)) z9)
  refine lv_iload_n hx hb (by decide +kernel : decode prog_25_method_11_code 16 = .ok (.iload_n 0, 1)) rfl (lv_at hl 0 rfl) ?_
  refine W.widen (show 0 ≤ 0 by omega) (show 0 ≤ 0 by omega) ?_
  exact W.iret hx hb hr (fun t ht hW => ⟨_, _, ⟨rfl, rfl⟩, rfl, by rw [ht]; exact hP, hD, hS.F ht⟩) hS.2.2 (by decide +kernel : decode prog_25_method_11_code 17 = .ok (.ireturn, 1))
theorem jk37 : Cond.code ⟨"java/lang/String", "checkIndex", "(II)V"⟩ prog_18_method_155_code 2 none ∈ vm_W := vm_code_in (vm_in2 (List.mem_of_getElem? (i := 157) (by rfl)))
set_option maxHeartbeats 4000000 in
theorem jm_chk (l : Launch) (dC : Nat → ClassId) (dI : Nat → Nat → Nat) (CA : Nat → ClassId) (A : Nat → Prop) (L : jT) (i n : Nat) (w0 : va_W) (hi : i < n) (hn : n ≤ 65536) : Met l ⟨"java/lang/String", "checkIndex", "(II)V"⟩ (Cond.code ⟨"java/lang/String", "checkIndex", "(II)V"⟩ prog_18_method_155_code 2 none :: vm_W) ({ frames := 1, cells := 0, slots := 0, locals := 40 }) (va_Pc [.int (nI i), .int (nI n)] (jB dC dI CA A L w0)) (jE dC dI A (fun v ws => v = none ∧ ws = w0)) 0 0 A := by
  refine Met.ofW (cc := prog_18_method_155_code) (maxL := 2) (ret := none) (by decide) rfl ?_
  intro p e s m args below meth c s₁ B hml hv
  obtain ⟨rfl, hK, hX, hL, hP, hD, hA⟩ := hv
  have hx := B.exec
  have hb := B.bytes
  have hr := B.returns
  have hts := vm_tsW (atoms_spec B.pre)
  have hown : s.vm.findClass "java/lang/String" = some m.cls := findClass_of_methodNamed B.named
  have hlocks := B.notSynchronized
  have hnm : meth.name = "checkIndex" := (name_of_methodNamed B.named B.method).1
  have hS : va_S A s.heap s.heap [] := va_S.rf
  have hl := lv_entry ([.int (nI i), .int (nI n)]) (n := 2) (Nat.le_of_ble_eq_true rfl)
  rw [lg_entry_eq]
  generalize (lg_sl ([.int (nI i), .int (nI n)]) ++ List.replicate (2 - (lg_sl ([.int (nI i), .int (nI n)])).length) Slot.unset).toArray = ls at hl ⊢
  have hl : lv_has ls 2 [(0, .int (nI i)), (1, .int (nI n))] := hl
  obtain ⟨r9, hr9⟩ : ∃ r9 : Option Nat, va_Z "jdk/internal/util/Preconditions" "SIOOBE_FORMATTER" "Ljava/util/function/BiFunction;" (va_rf r9) A s s.heap := by
    rcases hX.2.1 with h6 | ⟨t6, h6⟩
    · exact ⟨none, h6⟩
    · exact ⟨some t6, h6⟩
  refine lv_iload_n hx hb (by decide +kernel : decode prog_18_method_155_code 0 = .ok (.iload_n 0, 1)) rfl (lv_at hl 0 rfl) ?_
  refine lv_iload_n hx hb (by decide +kernel : decode prog_18_method_155_code 1 = .ok (.iload_n 1, 1)) rfl (lv_at hl 1 rfl) ?_
  refine va_gets hx hb hr9 hS hown (hts (.fieldLink "java/lang/String" 1053 "jdk/internal/util/Preconditions" "SIOOBE_FORMATTER" "Ljava/util/function/BiFunction;") (vm_hw_in (i := 435) (by decide +kernel))) (fun _ h => h) (by decide +kernel : decode prog_18_method_155_code 2 = .ok (.getstatic 1053, 3)) ?_
  refine j_call (va_runS (As := [.int (nI i), .int (nI n), va_rf r9]) (rest := []) ⟨hx, hb, hml, hown, hts⟩ (jm_pre l dC dI CA A L i n r9 _ hi hn) (va_cwS 3 hts (vm_gS jk36 (vm_hw_in (i := 437) (by decide +kernel)) (vm_hw_in (i := 438) (by decide +kernel)) (vm_hw_in (i := 57) (by decide +kernel))) rfl rfl rfl (by decide +kernel) ⟨Nat.le_of_ble_eq_true rfl, Nat.le_of_ble_eq_true rfl⟩) ⟨jB.blind, fun U hU hW => ⟨rfl, jB.of hK hX hL hA hP hD hS hU hW⟩⟩ rfl rfl hl.1 rfl (lv_room (Nat.le_of_ble_eq_true rfl)) (by decide +kernel : decode prog_18_method_155_code 5 = .ok (.invokestatic 1059, 3)) ⟨by show 0 + 0 ≤ 0; omega, by show 0 + 0 ≤ 0; omega⟩) hS (fun v ws H locs hR hP hD hS => ?_)
  obtain ⟨rfl, e9⟩ := hR
  rw [e9] at hP hD
  refine lv_pop hx hb (by decide +kernel : decode prog_18_method_155_code 8 = .ok (.pop, 1)) rfl ?_
  refine W.widen (show (0 + 0) ≤ 0 by omega) (show (0 + 0) ≤ 0 by omega) ?_
  exact W.vret hx hb hr (fun t ht hW => ⟨_, _, ⟨rfl, rfl⟩, rfl, by rw [ht]; exact hP, hD, hS.F ht⟩) hS.2.2 (by decide +kernel : decode prog_18_method_155_code 9 = .ok (.return_, 1))
theorem jk38 : Cond.code ⟨"java/lang/StringLatin1", "charAt", "([BI)C"⟩ prog_20_method_2_code 2 (some .char) ∈ vm_W := vm_code_in (vm_in2 (List.mem_of_getElem? (i := 154) (by rfl)))
set_option maxHeartbeats 4000000 in
theorem jm_lChr (l : Launch) (dC : Nat → ClassId) (dI : Nat → Nat → Nat) (CA : Nat → ClassId) (A : Nat → Prop) (L : jT) (x : Nat × Nat × Nat × (Nat → Int32)) (i : Nat) (w0 : va_W) (hxL : x ∈ L) (hi : i < x.2.2.1) (hn : x.2.2.1 ≤ 65536) : Met l ⟨"java/lang/StringLatin1", "charAt", "([BI)C"⟩ (Cond.code ⟨"java/lang/StringLatin1", "charAt", "([BI)C"⟩ prog_20_method_2_code 2 (some .char) :: vm_W) ({ frames := 2, cells := 0, slots := 0, locals := 80 }) (va_Pc [.ref x.2.1, .int (nI i)] (jB dC dI CA A L w0)) (jE dC dI A (fun v ws => v = some (.int (vm_chr (x.2.2.2 i))) ∧ ws = w0)) 0 0 A := by
  refine Met.ofW (cc := prog_20_method_2_code) (maxL := 2) (ret := (some .char)) (by decide) rfl ?_
  intro p e s m args below meth c s₁ B hml hv
  obtain ⟨rfl, hK, hX, hL, hP, hD, hA⟩ := hv
  have hx := B.exec
  have hb := B.bytes
  have hr := B.returns
  have hts := vm_tsW (atoms_spec B.pre)
  have hown : s.vm.findClass "java/lang/StringLatin1" = some m.cls := findClass_of_methodNamed B.named
  have hlocks := B.notSynchronized
  have hnm : meth.name = "charAt" := (name_of_methodNamed B.named B.method).1
  have hS : va_S A s.heap s.heap [] := va_S.rf
  have hl := lv_entry ([.ref x.2.1, .int (nI i)]) (n := 2) (Nat.le_of_ble_eq_true rfl)
  rw [lg_entry_eq]
  generalize (lg_sl ([.ref x.2.1, .int (nI i)]) ++ List.replicate (2 - (lg_sl ([.ref x.2.1, .int (nI i)])).length) Slot.unset).toArray = ls at hl ⊢
  have hl : lv_has ls 2 [(0, .ref x.2.1), (1, .int (nI i))] := hl
  refine lv_iload_n hx hb (by decide +kernel : decode prog_20_method_2_code 0 = .ok (.iload_n 1, 1)) rfl (lv_at hl 1 rfl) ?_
  refine lv_aload_n hx hb (by decide +kernel : decode prog_20_method_2_code 1 = .ok (.aload_n 0, 1)) rfl (lv_at hl 0 rfl) ?_
  refine va_tlen (v := nI x.2.2.1) hx hb (hL _ hxL).2.2.2 hS rfl (by decide +kernel : decode prog_20_method_2_code 2 = .ok (.arraylength, 1)) ?_
  refine j_call (va_runS (As := [.int (nI i), .int (nI x.2.2.1)]) (rest := []) ⟨hx, hb, hml, hown, hts⟩ (jm_chk l dC dI CA A L i x.2.2.1 _ hi hn) (va_cwS 2 hts (vm_gS jk37 (vm_hw_in (i := 432) (by decide +kernel)) (vm_hw_in (i := 433) (by decide +kernel)) (vm_hw_in (i := 51) (by decide +kernel))) rfl rfl rfl (by decide +kernel) ⟨Nat.le_of_ble_eq_true rfl, Nat.le_of_ble_eq_true rfl⟩) ⟨jB.blind, fun U hU hW => ⟨rfl, jB.of hK hX hL hA hP hD hS hU hW⟩⟩ rfl rfl hl.1 rfl (lv_room (Nat.le_of_ble_eq_true rfl)) (by decide +kernel : decode prog_20_method_2_code 3 = .ok (.invokestatic 9, 3)) ⟨by show 0 + 0 ≤ 0; omega, by show 0 + 0 ≤ 0; omega⟩) hS (fun v ws H locs hR hP hD hS => ?_)
  obtain ⟨rfl, e9⟩ := hR
  rw [e9] at hP hD
  refine lv_aload_n hx hb (by decide +kernel : decode prog_20_method_2_code 6 = .ok (.aload_n 0, 1)) rfl (lv_at hl 0 rfl) ?_
  refine lv_iload_n hx hb (by decide +kernel : decode prog_20_method_2_code 7 = .ok (.iload_n 1, 1)) rfl (lv_at hl 1 rfl) ?_
  refine va_tb hx hb (hL _ hxL).2.2.2 hS (i := nI i) (vp_in_nI (by omega) (by omega)) (v := .int (x.2.2.2 i)) (by rw [nI_clamp (by omega)]) (by decide +kernel : decode prog_20_method_2_code 8 = .ok (.baload, 1)) ?_
  refine lv_sipush (v := 255) hx hb (by decide +kernel : decode prog_20_method_2_code 9 = .ok (.sipush 255, 3)) (by decide) ?_
  refine lv_iand hx hb (by decide +kernel : decode prog_20_method_2_code 12 = .ok (.iand, 1)) ?_
  refine lv_i2c (v := vm_chr (x.2.2.2 i)) hx hb (by decide +kernel : decode prog_20_method_2_code 13 = .ok (.i2c, 1)) rfl ?_
  refine W.widen (show (0 + 0) ≤ 0 by omega) (show (0 + 0) ≤ 0 by omega) ?_
  exact W.zret hx hb hr (vm_chr_n _) (fun t ht hW => ⟨_, _, ⟨rfl, rfl⟩, rfl, by rw [ht]; exact hP, hD, hS.F ht⟩) hS.2.2 (by decide +kernel : decode prog_20_method_2_code 14 = .ok (.ireturn, 1))
theorem jk39 : Cond.code ⟨"java/lang/String", "charAt", "(I)C"⟩ prog_18_method_56_code 2 (some .char) ∈ vm_W := vm_code_in (vm_in2 (List.mem_of_getElem? (i := 147) (by rfl)))
set_option maxHeartbeats 4000000 in
theorem jm_sChr (l : Launch) (dC : Nat → ClassId) (dI : Nat → Nat → Nat) (CA : Nat → ClassId) (A : Nat → Prop) (L : jT) (x : Nat × Nat × Nat × (Nat → Int32)) (i : Nat) (w0 : va_W) (hxL : x ∈ L) (hi : i < x.2.2.1) (hn : x.2.2.1 ≤ 65536) : Met l ⟨"java/lang/String", "charAt", "(I)C"⟩ (Cond.code ⟨"java/lang/String", "charAt", "(I)C"⟩ prog_18_method_56_code 2 (some .char) :: vm_W) ({ frames := 3, cells := 0, slots := 0, locals := 120 }) (va_Pc [.ref x.1, .int (nI i)] (jB dC dI CA A L w0)) (jE dC dI A (fun v ws => v = some (.int (vm_chr (x.2.2.2 i))) ∧ ws = w0)) 0 0 A := by
  refine Met.ofW (cc := prog_18_method_56_code) (maxL := 2) (ret := (some .char)) (by decide) rfl ?_
  intro p e s m args below meth c s₁ B hml hv
  obtain ⟨rfl, hK, hX, hL, hP, hD, hA⟩ := hv
  have hx := B.exec
  have hb := B.bytes
  have hr := B.returns
  have hts := vm_tsW (atoms_spec B.pre)
  have hown : s.vm.findClass "java/lang/String" = some m.cls := findClass_of_methodNamed B.named
  have hlocks := B.notSynchronized
  have hnm : meth.name = "charAt" := (name_of_methodNamed B.named B.method).1
  have hS : va_S A s.heap s.heap [] := va_S.rf
  have hl := lv_entry ([.ref x.1, .int (nI i)]) (n := 2) (Nat.le_of_ble_eq_true rfl)
  rw [lg_entry_eq]
  generalize (lg_sl ([.ref x.1, .int (nI i)]) ++ List.replicate (2 - (lg_sl ([.ref x.1, .int (nI i)])).length) Slot.unset).toArray = ls at hl ⊢
  have hl : lv_has ls 2 [(0, .ref x.1), (1, .int (nI i))] := hl
  refine lv_aload_n hx hb (by decide +kernel : decode prog_18_method_56_code 0 = .ok (.aload_n 0, 1)) rfl (lv_at hl 0 rfl) ?_
  refine j_call (va_runV (b := x.1) (As := []) (rest := []) ⟨hx, hb, hml, hown, hts⟩ (jm_sLat l dC dI CA A L x _ hxL) (cwV 0 hts (vm_gV jk35 (vm_hw_in (i := 425) (by decide +kernel)) (vm_hw_in (i := 426) (by decide +kernel)) (vm_hw_in (i := 427) (by decide +kernel)) (vm_hw_in (i := 51) (by decide +kernel))) rfl rfl rfl (by decide +kernel) ⟨Nat.le_of_ble_eq_true rfl, Nat.le_of_ble_eq_true rfl⟩) ⟨jB.blind, jSrecv (hL _ hxL) hS, fun U hU hW => ⟨rfl, jB.of hK hX hL hA hP hD hS hU hW⟩⟩ rfl rfl hl.1 rfl (lv_room (Nat.le_of_ble_eq_true rfl)) (by decide +kernel : decode prog_18_method_56_code 1 = .ok (.invokevirtual 492, 3)) ⟨by show 0 + 0 ≤ 0; omega, by show 0 + 0 ≤ 0; omega⟩) hS (fun v ws H locs hR hP hD hS => ?_)
  obtain ⟨rfl, e9⟩ := hR
  rw [e9] at hP hD
  refine lv_if_eq (tgt := 16) hx hb (by decide +kernel : decode prog_18_method_56_code 4 = .ok (.ifCond .eq 12, 3)) (by decide) (fun z9 => absurd z9 (by decide)) (fun _ => ?_)
  refine lv_aload_n hx hb (by decide +kernel : decode prog_18_method_56_code 7 = .ok (.aload_n 0, 1)) rfl (lv_at hl 0 rfl) ?_
  refine vk_getf hx hb (hL _ hxL).2.1 hS hown (hts (.fieldLink "java/lang/String" 9 "java/lang/String" "value" "[B") (vm_hw_in (i := 1017) (by decide +kernel))) (fun _ h => h) (by decide +kernel : decode prog_18_method_56_code 8 = .ok (.getfield 9, 3)) ?_
  refine lv_iload_n hx hb (by decide +kernel : decode prog_18_method_56_code 11 = .ok (.iload_n 1, 1)) rfl (lv_at hl 1 rfl) ?_
  refine j_call (va_runS (As := [.ref x.2.1, .int (nI i)]) (rest := []) ⟨hx, hb, hml, hown, hts⟩ (jm_lChr l dC dI CA A L x i _ hxL hi hn) (va_cwS 2 hts (vm_gS jk38 (vm_hw_in (i := 429) (by decide +kernel)) (vm_hw_in (i := 430) (by decide +kernel)) (vm_hw_in (i := 58) (by decide +kernel))) rfl rfl rfl (by decide +kernel) ⟨Nat.le_of_ble_eq_true rfl, Nat.le_of_ble_eq_true rfl⟩) ⟨jB.blind, fun U hU hW => ⟨rfl, jB.of hK hX hL hA hP hD hS hU hW⟩⟩ rfl rfl hl.1 rfl (lv_room (Nat.le_of_ble_eq_true rfl)) (by decide +kernel : decode prog_18_method_56_code 12 = .ok (.invokestatic 495, 3)) ⟨by show (0 + 0) + 0 ≤ 0; omega, by show (0 + 0) + 0 ≤ 0; omega⟩) hS (fun v ws H locs hR hP hD hS => ?_)
  obtain ⟨rfl, e8⟩ := hR
  rw [e8] at hP hD
  refine W.widen (show ((0 + 0) + 0) ≤ 0 by omega) (show ((0 + 0) + 0) ≤ 0 by omega) ?_
  exact W.zret hx hb hr (vm_chr_n _) (fun t ht hW => ⟨_, _, ⟨rfl, rfl⟩, rfl, by rw [ht]; exact hP, hD, hS.F ht⟩) hS.2.2 (by decide +kernel : decode prog_18_method_56_code 15 = .ok (.ireturn, 1))
