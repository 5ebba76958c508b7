/-! ===== append(String) ===== -/
section JS1
variable {p : Program} {l : Launch} {e : Env} {R : Room} {s : State} {m : MethodId} {args : Array Value} {below : List Frame} {meth : Method} {c : Code} {Q : State → Prop} {cells slots : Nat} {A : Nat → Prop}
theorem jSrecv {x : Nat × Nat × Nat × (Nat → Int32)} {H : Heap} {locs : List Loc} (h : jS A s s.heap x) (hS : va_S A s.heap H locs) : ∃ cell : Cell, H[x.1]? = some cell ∧ cell.vm.isStatics = false ∧ s.vm.findClass "java/lang/String" = some cell.cls := by
  obtain ⟨cell, g1, g2, g3, -⟩ := h.1.kept hS.2.1
  exact ⟨cell, g1, g2, g3⟩
end JS1
theorem jk12 : Cond.code ⟨"java/lang/String", "coder", "()B"⟩ prog_18_method_152_code 1 (some .byte) ∈ vm_W := vm_code_in (vm_in2 (List.mem_of_getElem? (i := 141) (by rfl)))
set_option maxHeartbeats 4000000 in
theorem jm_sCod (l : Launch) (dC : Nat → ClassId) (dI : Nat → Nat → Nat) (CA : Nat → ClassId) (A : Nat → Prop) (L : jT) (x : Nat × Nat × Nat × (Nat → Int32)) (w0 : va_W) (hxL : x ∈ L) : Met l ⟨"java/lang/String", "coder", "()B"⟩ (Cond.code ⟨"java/lang/String", "coder", "()B"⟩ prog_18_method_152_code 1 (some .byte) :: vm_W) ({ frames := 0, cells := 0, slots := 0, locals := 0 }) (va_Pc [.ref x.1] (jB dC dI CA A L w0)) (jE dC dI A (fun v ws => v = some (.int 0) ∧ ws = w0)) 0 0 A := by
  refine Met.ofW (cc := prog_18_method_152_code) (maxL := 1) (ret := (some .byte)) (by decide) rfl ?_
  intro p e s m args below meth c s₁ B hml hv
  obtain ⟨rfl, hK, hX, hL, hP, hD, hA⟩ := hv
  have hx := B.exec
  have hb := B.bytes
  have hr := B.returns
  have hts := vm_tsW (atoms_spec B.pre)
  have hown : s.vm.findClass "java/lang/String" = some m.cls := findClass_of_methodNamed B.named
  have hlocks := B.notSynchronized
  have hnm : meth.name = "coder" := (name_of_methodNamed B.named B.method).1
  have hS : va_S A s.heap s.heap [] := va_S.rf
  have hl := lv_entry ([.ref x.1]) (n := 1) (Nat.le_of_ble_eq_true rfl)
  rw [lg_entry_eq]
  generalize (lg_sl ([.ref x.1]) ++ List.replicate (1 - (lg_sl ([.ref x.1])).length) Slot.unset).toArray = ls at hl ⊢
  have hl : lv_has ls 1 [(0, .ref x.1)] := hl
  refine va_gets hx hb hX.1 hS hown (hts (.fieldLink "java/lang/String" 38 "java/lang/String" "COMPACT_STRINGS" "Z") (vm_hw_in (i := 419) (by decide +kernel))) (fun _ h => h) (by decide +kernel : decode prog_18_method_152_code 0 = .ok (.getstatic 38, 3)) ?_
  refine lv_if_eq (tgt := 13) hx hb (by decide +kernel : decode prog_18_method_152_code 3 = .ok (.ifCond .eq 10, 3)) (by decide) (fun z9 => absurd z9 (by decide)) (fun _ => ?_)
  refine lv_aload_n hx hb (by decide +kernel : decode prog_18_method_152_code 6 = .ok (.aload_n 0, 1)) rfl (lv_at hl 0 rfl) ?_
  refine vk_getf hx hb (hL _ hxL).2.2.1 hS hown (hts (.fieldLink "java/lang/String" 15 "java/lang/String" "coder" "B") (vm_hw_in (i := 1018) (by decide +kernel))) (fun _ h => h) (by decide +kernel : decode prog_18_method_152_code 7 = .ok (.getfield 15, 3)) ?_
  refine lv_goto (tgt := 14) hx hb (by decide +kernel : decode prog_18_method_152_code 10 = .ok (.goto 4, 3)) (by decide) ?_
  refine W.widen (show 0 ≤ 0 by omega) (show 0 ≤ 0 by omega) ?_
  exact W.zret hx hb hr (rfl) (fun t ht hW => ⟨_, _, ⟨rfl, rfl⟩, rfl, by rw [ht]; exact hP, hD, hS.F ht⟩) hS.2.2 (by decide +kernel : decode prog_18_method_152_code 14 = .ok (.ireturn, 1))
theorem jk13 : Cond.code ⟨"java/lang/String", "length", "()I"⟩ prog_18_method_54_code 1 (some .int) ∈ vm_W := vm_code_in (vm_in2 (List.mem_of_getElem? (i := 137) (by rfl)))
set_option maxHeartbeats 4000000 in
theorem jm_sLen (l : Launch) (dC : Nat → ClassId) (dI : Nat → Nat → Nat) (CA : Nat → ClassId) (A : Nat → Prop) (L : jT) (x : Nat × Nat × Nat × (Nat → Int32)) (w0 : va_W) (hxL : x ∈ L) : Met l ⟨"java/lang/String", "length", "()I"⟩ (Cond.code ⟨"java/lang/String", "length", "()I"⟩ prog_18_method_54_code 1 (some .int) :: vm_W) ({ frames := 1, cells := 0, slots := 0, locals := 40 }) (va_Pc [.ref x.1] (jB dC dI CA A L w0)) (jE dC dI A (fun v ws => v = some (.int (nI x.2.2.1)) ∧ ws = w0)) 0 0 A := by
  refine Met.ofW (cc := prog_18_method_54_code) (maxL := 1) (ret := (some .int)) (by decide) rfl ?_
  intro p e s m args below meth c s₁ B hml hv
  obtain ⟨rfl, hK, hX, hL, hP, hD, hA⟩ := hv
  have hx := B.exec
  have hb := B.bytes
  have hr := B.returns
  have hts := vm_tsW (atoms_spec B.pre)
  have hown : s.vm.findClass "java/lang/String" = some m.cls := findClass_of_methodNamed B.named
  have hlocks := B.notSynchronized
  have hnm : meth.name = "length" := (name_of_methodNamed B.named B.method).1
  have hS : va_S A s.heap s.heap [] := va_S.rf
  have hl := lv_entry ([.ref x.1]) (n := 1) (Nat.le_of_ble_eq_true rfl)
  rw [lg_entry_eq]
  generalize (lg_sl ([.ref x.1]) ++ List.replicate (1 - (lg_sl ([.ref x.1])).length) Slot.unset).toArray = ls at hl ⊢
  have hl : lv_has ls 1 [(0, .ref x.1)] := hl
  refine lv_aload_n hx hb (by decide +kernel : decode prog_18_method_54_code 0 = .ok (.aload_n 0, 1)) rfl (lv_at hl 0 rfl) ?_
  refine vk_getf hx hb (hL _ hxL).2.1 hS hown (hts (.fieldLink "java/lang/String" 9 "java/lang/String" "value" "[B") (vm_hw_in (i := 1017) (by decide +kernel))) (fun _ h => h) (by decide +kernel : decode prog_18_method_54_code 1 = .ok (.getfield 9, 3)) ?_
  refine va_tlen (v := nI x.2.2.1) hx hb (hL _ hxL).2.2.2 hS rfl (by decide +kernel : decode prog_18_method_54_code 4 = .ok (.arraylength, 1)) ?_
  refine lv_aload_n hx hb (by decide +kernel : decode prog_18_method_54_code 5 = .ok (.aload_n 0, 1)) rfl (lv_at hl 0 rfl) ?_
  refine j_call (va_runV (b := x.1) (As := []) (rest := [.int (nI x.2.2.1)]) ⟨hx, hb, hml, hown, hts⟩ (jm_sCod l dC dI CA A L x _ hxL) (cwV 0 hts (vm_gV jk12 (vm_hw_in (i := 415) (by decide +kernel)) (vm_hw_in (i := 416) (by decide +kernel)) (vm_hw_in (i := 417) (by decide +kernel)) (vm_hw_in (i := 51) (by decide +kernel))) rfl rfl rfl (by decide +kernel) ⟨Nat.le_of_ble_eq_true rfl, Nat.le_of_ble_eq_true rfl⟩) ⟨jB.blind, jSrecv (hL _ hxL) hS, fun U hU hW => ⟨rfl, jB.of hK hX hL hA hP hD hS hU hW⟩⟩ rfl rfl hl.1 rfl (lv_room (Nat.le_of_ble_eq_true rfl)) (by decide +kernel : decode prog_18_method_54_code 6 = .ok (.invokevirtual 335, 3)) ⟨by show 0 + 0 ≤ 0; omega, by show 0 + 0 ≤ 0; omega⟩) hS (fun v ws H locs hR hP hD hS => ?_)
  obtain ⟨rfl, e9⟩ := hR
  rw [e9] at hP hD
  refine lv_ishr hx hb (by decide +kernel : decode prog_18_method_54_code 9 = .ok (.ishr, 1)) ?_
  refine jtop (nI x.2.2.1) (sb_shr0 _) ?_
  refine W.widen (show (0 + 0) ≤ 0 by omega) (show (0 + 0) ≤ 0 by omega) ?_
  exact W.iret hx hb hr (fun t ht hW => ⟨_, _, ⟨rfl, rfl⟩, rfl, by rw [ht]; exact hP, hD, hS.F ht⟩) hS.2.2 (by decide +kernel : decode prog_18_method_54_code 10 = .ok (.ireturn, 1))
theorem jk14 : Cond.code ⟨"java/lang/String", "getBytes", "([BIB)V"⟩ prog_18_method_147_code 4 none ∈ vm_W := vm_code_in (vm_in4 (List.mem_of_getElem? (i := 140) (by rfl)))
set_option maxHeartbeats 4000000 in
theorem jm_getBytes (l : Launch) (dC : Nat → ClassId) (dI : Nat → Nat → Nat) (CA : Nat → ClassId) (A : Nat → Prop) (L : jT) (x : Nat × Nat × Nat × (Nat → Int32)) (h b n a0 : Nat) (f : Nat → Int32) (hxL : x ∈ L) (hfx : sb_Fit x.2.2.2) (hn : n + x.2.2.1 ≤ a0) (ha : a0 ≤ 65536) : Met l ⟨"java/lang/String", "getBytes", "([BIB)V"⟩ (Cond.code ⟨"java/lang/String", "getBytes", "([BIB)V"⟩ prog_18_method_147_code 4 none :: vm_W) ({ frames := 1, cells := 0, slots := 0, locals := 40 }) (va_Pc [.ref x.1, .ref b, .int (nI n), .int 0] (jB dC dI CA A L (jW CA h b n a0 f))) (jE dC dI A (fun v ws => v = none ∧ ws = jW CA h b n a0 (va_cpy x.2.2.2 f 0 n x.2.2.1))) 0 0 A := by
  refine Met.ofW (cc := prog_18_method_147_code) (maxL := 4) (ret := none) (by decide) rfl ?_
  intro p e s m args below meth c s₁ B hml hv
  obtain ⟨rfl, hK, hX, hL, hP, hD, hA⟩ := hv
  have hx := B.exec
  have hb := B.bytes
  have hr := B.returns
  have hts := vm_tsW (atoms_spec B.pre)
  have hown : s.vm.findClass "java/lang/String" = some m.cls := findClass_of_methodNamed B.named
  have hlocks := B.notSynchronized
  have hnm : meth.name = "getBytes" := (name_of_methodNamed B.named B.method).1
  have hS : va_S A s.heap s.heap [] := va_S.rf
  have hl := lv_entry ([.ref x.1, .ref b, .int (nI n), .int 0]) (n := 4) (Nat.le_of_ble_eq_true rfl)
  rw [lg_entry_eq]
  generalize (lg_sl ([.ref x.1, .ref b, .int (nI n), .int 0]) ++ List.replicate (4 - (lg_sl ([.ref x.1, .ref b, .int (nI n), .int 0])).length) Slot.unset).toArray = ls at hl ⊢
  have hl : lv_has ls 4 [(0, .ref x.1), (1, .ref b), (2, .int (nI n)), (3, .int 0)] := hl
  refine lv_aload_n hx hb (by decide +kernel : decode prog_18_method_147_code 0 = .ok (.aload_n 0, 1)) rfl (lv_at hl 0 rfl) ?_
  refine j_call (va_runV (b := x.1) (As := []) (rest := []) ⟨hx, hb, hml, hown, hts⟩ (jm_sCod l dC dI CA A L x _ hxL) (cwV 0 hts (vm_gV jk12 (vm_hw_in (i := 415) (by decide +kernel)) (vm_hw_in (i := 416) (by decide +kernel)) (vm_hw_in (i := 417) (by decide +kernel)) (vm_hw_in (i := 51) (by decide +kernel))) rfl rfl rfl (by decide +kernel) ⟨Nat.le_of_ble_eq_true rfl, Nat.le_of_ble_eq_true rfl⟩) ⟨jB.blind, jSrecv (hL _ hxL) hS, fun U hU hW => ⟨rfl, jB.of hK hX hL hA hP hD hS hU hW⟩⟩ rfl rfl hl.1 rfl (lv_room (Nat.le_of_ble_eq_true rfl)) (by decide +kernel : decode prog_18_method_147_code 1 = .ok (.invokevirtual 335, 3)) ⟨by show 0 + 0 ≤ 0; omega, by show 0 + 0 ≤ 0; omega⟩) hS (fun v ws H locs hR hP hD hS => ?_)
  obtain ⟨rfl, rfl⟩ := hR
  refine lv_iload_n hx hb (by decide +kernel : decode prog_18_method_147_code 4 = .ok (.iload_n 3, 1)) rfl (lv_at hl 3 rfl) ?_
  refine lv_icmp_ne (tgt := 28) hx hb (by decide +kernel : decode prog_18_method_147_code 5 = .ok (.if_icmp .ne 23, 3)) (by decide) (fun z9 => absurd z9 (fun z => z rfl)) (fun _ => ?_)
  refine lv_aload_n hx hb (by decide +kernel : decode prog_18_method_147_code 8 = .ok (.aload_n 0, 1)) rfl (lv_at hl 0 rfl) ?_
  refine vk_getf hx hb (hL _ hxL).2.1 hS hown (hts (.fieldLink "java/lang/String" 9 "java/lang/String" "value" "[B") (vm_hw_in (i := 1017) (by decide +kernel))) (fun _ h => h) (by decide +kernel : decode prog_18_method_147_code 9 = .ok (.getfield 9, 3)) ?_
  refine lv_iconst (v := 0) hx hb (by decide +kernel : decode prog_18_method_147_code 12 = .ok (.iconst 0, 1)) (by decide) ?_
  refine lv_aload_n hx hb (by decide +kernel : decode prog_18_method_147_code 13 = .ok (.aload_n 1, 1)) rfl (lv_at hl 1 rfl) ?_
  refine lv_iload_n hx hb (by decide +kernel : decode prog_18_method_147_code 14 = .ok (.iload_n 2, 1)) rfl (lv_at hl 2 rfl) ?_
  refine lv_iload_n hx hb (by decide +kernel : decode prog_18_method_147_code 15 = .ok (.iload_n 3, 1)) rfl (lv_at hl 3 rfl) ?_
  refine lv_ishl hx hb (by decide +kernel : decode prog_18_method_147_code 16 = .ok (.ishl, 1)) ?_
  refine jtop (nI n) (sb_shl0 _) ?_
  refine lv_aload_n hx hb (by decide +kernel : decode prog_18_method_147_code 17 = .ok (.aload_n 0, 1)) rfl (lv_at hl 0 rfl) ?_
  refine vk_getf hx hb (hL _ hxL).2.1 hS hown (hts (.fieldLink "java/lang/String" 9 "java/lang/String" "value" "[B") (vm_hw_in (i := 1017) (by decide +kernel))) (fun _ h => h) (by decide +kernel : decode prog_18_method_147_code 18 = .ok (.getfield 9, 3)) ?_
  refine va_tlen (v := nI x.2.2.1) hx hb (hL _ hxL).2.2.2 hS rfl (by decide +kernel : decode prog_18_method_147_code 21 = .ok (.arraylength, 1)) ?_
  refine vk_copyt hx hb (hml.trans hl.1.symm) hown (hts _ (vm_hw_in (i := 898) (by decide +kernel))) (hts _ (vm_hw_in vm_okX6)) (hts _ (vm_hw_in vm_okX7)) (hts _ (vm_hw_in vm_okX8)) hK hP hD hS (hL _ hxL).2.2.2 1 1 rfl rfl (sp := 0) (dp := nI n) (n := nI x.2.2.1) (by decide) (nI_pos (by omega)) (nI_pos (by omega)) (by rw [sb_cl0, nI_clamp (by omega)]; omega) (by rw [nI_clamp (by omega), nI_clamp (by omega)]; omega) (fun j _ => hfx _) (Nat.le_of_ble_eq_true rfl) (Nat.le_of_ble_eq_true rfl) (by decide +kernel : decode prog_18_method_147_code 22 = .ok (.invokestatic 212, 3)) (fun H locs hP hD hS => ?_)
  rw [sb_cl0, nI_clamp (n := n) (by omega), nI_clamp (n := x.2.2.1) (by omega)] at hP hD
  refine lv_goto (tgt := 43) hx hb (by decide +kernel : decode prog_18_method_147_code 25 = .ok (.goto 18, 3)) (by decide) ?_
  refine W.widen (show (0 + 0) ≤ 0 by omega) (show (0 + 0) ≤ 0 by omega) ?_
  exact W.vret hx hb hr (fun t ht hW => ⟨_, _, ⟨rfl, rfl⟩, rfl, by rw [ht]; exact hP, hD, hS.F ht⟩) hS.2.2 (by decide +kernel : decode prog_18_method_147_code 43 = .ok (.return_, 1))
theorem jk15 : Cond.code ⟨"java/lang/AbstractStringBuilder", "inflateIfNeededFor", "(Ljava/lang/String;)V"⟩ prog_14_method_71_code 2 none ∈ vm_W := vm_code_in (vm_in4 (List.mem_of_getElem? (i := 117) (by rfl)))
set_option maxHeartbeats 4000000 in
theorem jm_infl (l : Launch) (dC : Nat → ClassId) (dI : Nat → Nat → Nat) (CA : Nat → ClassId) (A : Nat → Prop) (L : jT) (x : Nat × Nat × Nat × (Nat → Int32)) (h b n a0 : Nat) (f : Nat → Int32) (hxL : x ∈ L) : Met l ⟨"java/lang/AbstractStringBuilder", "inflateIfNeededFor", "(Ljava/lang/String;)V"⟩ (Cond.code ⟨"java/lang/AbstractStringBuilder", "inflateIfNeededFor", "(Ljava/lang/String;)V"⟩ prog_14_method_71_code 2 none :: vm_W) ({ frames := 1, cells := 0, slots := 0, locals := 40 }) (va_Pc [.ref h, .ref x.1] (jB dC dI CA A L (jW CA h b n a0 f))) (jE dC dI A (fun v ws => v = none ∧ ws = jW CA h b n a0 f)) 0 0 A := by
  refine Met.ofW (cc := prog_14_method_71_code) (maxL := 2) (ret := none) (by decide) rfl ?_
  intro p e s m args below meth c s₁ B hml hv
  obtain ⟨rfl, hK, hX, hL, hP, hD, hA⟩ := hv
  have hx := B.exec
  have hb := B.bytes
  have hr := B.returns
  have hts := vm_tsW (atoms_spec B.pre)
  have hown : s.vm.findClass "java/lang/AbstractStringBuilder" = some m.cls := findClass_of_methodNamed B.named
  have hlocks := B.notSynchronized
  have hnm : meth.name = "inflateIfNeededFor" := (name_of_methodNamed B.named B.method).1
  have hS : va_S A s.heap s.heap [] := va_S.rf
  have hl := lv_entry ([.ref h, .ref x.1]) (n := 2) (Nat.le_of_ble_eq_true rfl)
  rw [lg_entry_eq]
  generalize (lg_sl ([.ref h, .ref x.1]) ++ List.replicate (2 - (lg_sl ([.ref h, .ref x.1])).length) Slot.unset).toArray = ls at hl ⊢
  have hl : lv_has ls 2 [(0, .ref h), (1, .ref x.1)] := hl
  refine va_gets hx hb hX.1 hS hown (hts (.fieldLink "java/lang/AbstractStringBuilder" 18 "java/lang/String" "COMPACT_STRINGS" "Z") (vm_hw_in (i := 851) (by decide +kernel))) (fun _ h => h) (by decide +kernel : decode prog_14_method_71_code 0 = .ok (.getstatic 18, 3)) ?_
  refine lv_if_eq (tgt := 21) hx hb (by decide +kernel : decode prog_14_method_71_code 3 = .ok (.ifCond .eq 18, 3)) (by decide) (fun z9 => absurd z9 (by decide)) (fun _ => ?_)
  refine lv_aload_n hx hb (by decide +kernel : decode prog_14_method_71_code 6 = .ok (.aload_n 0, 1)) rfl (lv_at hl 0 rfl) ?_
  refine va_get hx hb hts jSBin hown hK hP 0 rfl jcl12 1 (by decide) (hts (.fieldLink "java/lang/AbstractStringBuilder" 22 "java/lang/AbstractStringBuilder" "coder" "B") (vm_hw_in (i := 901) (by decide +kernel))) (fun _ h => h) (v := .int 0) rfl (by decide +kernel : decode prog_14_method_71_code 7 = .ok (.getfield 22, 3)) ?_
  refine lv_aload_n hx hb (by decide +kernel : decode prog_14_method_71_code 10 = .ok (.aload_n 1, 1)) rfl (lv_at hl 1 rfl) ?_
  refine j_call (va_runV (b := x.1) (As := []) (rest := [.int 0]) ⟨hx, hb, hml, hown, hts⟩ (jm_sCod l dC dI CA A L x _ hxL) (cwV 0 hts (vm_gV jk12 (vm_hw_in (i := 793) (by decide +kernel)) (vm_hw_in (i := 416) (by decide +kernel)) (vm_hw_in (i := 417) (by decide +kernel)) (vm_hw_in (i := 51) (by decide +kernel))) rfl rfl rfl (by decide +kernel) ⟨Nat.le_of_ble_eq_true rfl, Nat.le_of_ble_eq_true rfl⟩) ⟨jB.blind, jSrecv (hL _ hxL) hS, fun U hU hW => ⟨rfl, jB.of hK hX hL hA hP hD hS hU hW⟩⟩ rfl rfl hl.1 rfl (lv_room (Nat.le_of_ble_eq_true rfl)) (by decide +kernel : decode prog_14_method_71_code 11 = .ok (.invokevirtual 40, 3)) ⟨by show 0 + 0 ≤ 0; omega, by show 0 + 0 ≤ 0; omega⟩) hS (fun v ws H locs hR hP hD hS => ?_)
  obtain ⟨rfl, rfl⟩ := hR
  refine lv_icmp_eq (tgt := 21) hx hb (by decide +kernel : decode prog_14_method_71_code 14 = .ok (.if_icmp .eq 7, 3)) (by decide) (fun _ => ?_) (fun z9 => absurd (rfl) z9)
  refine W.widen (show (0 + 0) ≤ 0 by omega) (show (0 + 0) ≤ 0 by omega) ?_
  exact W.vret hx hb hr (fun t ht hW => ⟨_, _, ⟨rfl, rfl⟩, rfl, by rw [ht]; exact hP, hD, hS.F ht⟩) hS.2.2 (by decide +kernel : decode prog_14_method_71_code 21 = .ok (.return_, 1))
theorem jk16 : Cond.code ⟨"java/lang/AbstractStringBuilder", "putStringAt", "(ILjava/lang/String;)V"⟩ prog_14_method_73_code 3 none ∈ vm_W := vm_code_in (vm_in4 (List.mem_of_getElem? (i := 113) (by rfl)))
set_option maxHeartbeats 4000000 in
theorem jm_putStr (l : Launch) (dC : Nat → ClassId) (dI : Nat → Nat → Nat) (CA : Nat → ClassId) (A : Nat → Prop) (L : jT) (x : Nat × Nat × Nat × (Nat → Int32)) (h b n a0 : Nat) (f : Nat → Int32) (hxL : x ∈ L) (hfx : sb_Fit x.2.2.2) (hn : n + x.2.2.1 ≤ a0) (ha : a0 ≤ 65536) : Met l ⟨"java/lang/AbstractStringBuilder", "putStringAt", "(ILjava/lang/String;)V"⟩ (Cond.code ⟨"java/lang/AbstractStringBuilder", "putStringAt", "(ILjava/lang/String;)V"⟩ prog_14_method_73_code 3 none :: vm_W) ({ frames := 2, cells := 0, slots := 0, locals := 80 }) (va_Pc [.ref h, .int (nI n), .ref x.1] (jB dC dI CA A L (jW CA h b n a0 f))) (jE dC dI A (fun v ws => v = none ∧ ws = jW CA h b n a0 (va_cpy x.2.2.2 f 0 n x.2.2.1))) 0 0 A := by
  refine Met.ofW (cc := prog_14_method_73_code) (maxL := 3) (ret := none) (by decide) rfl ?_
  intro p e s m args below meth c s₁ B hml hv
  obtain ⟨rfl, hK, hX, hL, hP, hD, hA⟩ := hv
  have hx := B.exec
  have hb := B.bytes
  have hr := B.returns
  have hts := vm_tsW (atoms_spec B.pre)
  have hown : s.vm.findClass "java/lang/AbstractStringBuilder" = some m.cls := findClass_of_methodNamed B.named
  have hlocks := B.notSynchronized
  have hnm : meth.name = "putStringAt" := (name_of_methodNamed B.named B.method).1
  have hS : va_S A s.heap s.heap [] := va_S.rf
  have hl := lv_entry ([.ref h, .int (nI n), .ref x.1]) (n := 3) (Nat.le_of_ble_eq_true rfl)
  rw [lg_entry_eq]
  generalize (lg_sl ([.ref h, .int (nI n), .ref x.1]) ++ List.replicate (3 - (lg_sl ([.ref h, .int (nI n), .ref x.1])).length) Slot.unset).toArray = ls at hl ⊢
  have hl : lv_has ls 3 [(0, .ref h), (1, .int (nI n)), (2, .ref x.1)] := hl
  refine lv_aload_n hx hb (by decide +kernel : decode prog_14_method_73_code 0 = .ok (.aload_n 0, 1)) rfl (lv_at hl 0 rfl) ?_
  refine lv_aload_n hx hb (by decide +kernel : decode prog_14_method_73_code 1 = .ok (.aload_n 2, 1)) rfl (lv_at hl 2 rfl) ?_
  refine j_call (va_runU (b := h) (As := [.ref x.1]) (rest := []) ⟨hx, hb, hml, hown, hts⟩ (jm_infl l dC dI CA A L x h b n a0 f hxL) (va_cwU (owner := "java/lang/AbstractStringBuilder") (x := ⟨"java/lang/AbstractStringBuilder", "inflateIfNeededFor", "(Ljava/lang/String;)V"⟩) 1 hts (jgU jk15 (vm_hw_in (i := 871) (by decide +kernel)) (vm_hw_in (i := 1389) (by decide +kernel)) (vm_hw_in (i := 1396) (by decide +kernel)) (vm_hw_in (i := 873) (by decide +kernel)) (vm_hw_in (i := 49) (by decide +kernel))) rfl rfl rfl rfl (by decide +kernel) ⟨Nat.le_of_ble_eq_true rfl, Nat.le_of_ble_eq_true rfl⟩) ⟨jB.blind, va_recv hK hP jcl12 (show ((jW CA h b n a0 f : va_W))[0]? = _ from rfl), fun U hU hW => ⟨rfl, jB.of hK hX hL hA hP hD hS hU hW⟩⟩ rfl rfl hl.1 rfl (lv_room (Nat.le_of_ble_eq_true rfl)) (by decide +kernel : decode prog_14_method_73_code 2 = .ok (.invokevirtual 397, 3)) ⟨by show 0 + 0 ≤ 0; omega, by show 0 + 0 ≤ 0; omega⟩) hS (fun v ws H locs hR hP hD hS => ?_)
  obtain ⟨rfl, rfl⟩ := hR
  refine lv_aload_n hx hb (by decide +kernel : decode prog_14_method_73_code 5 = .ok (.aload_n 2, 1)) rfl (lv_at hl 2 rfl) ?_
  refine lv_aload_n hx hb (by decide +kernel : decode prog_14_method_73_code 6 = .ok (.aload_n 0, 1)) rfl (lv_at hl 0 rfl) ?_
  refine va_get hx hb hts jSBin hown hK hP 0 rfl jcl12 0 (by decide) (hts (.fieldLink "java/lang/AbstractStringBuilder" 15 "java/lang/AbstractStringBuilder" "value" "[B") (vm_hw_in (i := 900) (by decide +kernel))) (fun _ h => h) (v := .ref b) rfl (by decide +kernel : decode prog_14_method_73_code 7 = .ok (.getfield 15, 3)) ?_
  refine lv_iload_n hx hb (by decide +kernel : decode prog_14_method_73_code 10 = .ok (.iload_n 1, 1)) rfl (lv_at hl 1 rfl) ?_
  refine lv_aload_n hx hb (by decide +kernel : decode prog_14_method_73_code 11 = .ok (.aload_n 0, 1)) rfl (lv_at hl 0 rfl) ?_
  refine va_get hx hb hts jSBin hown hK hP 0 rfl jcl12 1 (by decide) (hts (.fieldLink "java/lang/AbstractStringBuilder" 22 "java/lang/AbstractStringBuilder" "coder" "B") (vm_hw_in (i := 901) (by decide +kernel))) (fun _ h => h) (v := .int 0) rfl (by decide +kernel : decode prog_14_method_73_code 12 = .ok (.getfield 22, 3)) ?_
  refine j_call (va_runV (b := x.1) (As := [.ref b, .int (nI n), .int 0]) (rest := []) ⟨hx, hb, hml, hown, hts⟩ (jm_getBytes l dC dI CA A L x h b n a0 f hxL hfx hn ha) (cwV 3 hts (vm_gV jk14 (vm_hw_in (i := 894) (by decide +kernel)) (vm_hw_in (i := 895) (by decide +kernel)) (vm_hw_in (i := 896) (by decide +kernel)) (vm_hw_in (i := 51) (by decide +kernel))) rfl rfl rfl (by decide +kernel) ⟨Nat.le_of_ble_eq_true rfl, Nat.le_of_ble_eq_true rfl⟩) ⟨jB.blind, jSrecv (hL _ hxL) hS, fun U hU hW => ⟨rfl, jB.of hK hX hL hA hP hD hS hU hW⟩⟩ rfl rfl hl.1 rfl (lv_room (Nat.le_of_ble_eq_true rfl)) (by decide +kernel : decode prog_14_method_73_code 15 = .ok (.invokevirtual 399, 3)) ⟨by show (0 + 0) + 0 ≤ 0; omega, by show (0 + 0) + 0 ≤ 0; omega⟩) hS (fun v ws H locs hR hP hD hS => ?_)
  obtain ⟨rfl, rfl⟩ := hR
  refine W.widen (show ((0 + 0) + 0) ≤ 0 by omega) (show ((0 + 0) + 0) ≤ 0 by omega) ?_
  exact W.vret hx hb hr (fun t ht hW => ⟨_, _, ⟨rfl, rfl⟩, rfl, by rw [ht]; exact hP, hD, hS.F ht⟩) hS.2.2 (by decide +kernel : decode prog_14_method_73_code 18 = .ok (.return_, 1))
theorem jk17 : Cond.code ⟨"java/lang/AbstractStringBuilder", "append", "(Ljava/lang/String;)Ljava/lang/AbstractStringBuilder;"⟩ prog_14_method_22_code 3 (some (.object "java/lang/AbstractStringBuilder")) ∈ vm_W := vm_code_in (vm_in4 (List.mem_of_getElem? (i := 56) (by rfl)))
set_option maxHeartbeats 4000000 in
theorem jm_appS (l : Launch) (dC : Nat → ClassId) (dI : Nat → Nat → Nat) (CA : Nat → ClassId) (A : Nat → Prop) (L : jT) (x : Nat × Nat × Nat × (Nat → Int32)) (h b n a0 : Nat) (f : Nat → Int32) (hxL : x ∈ L) (hfx : sb_Fit x.2.2.2) (ha : a0 ≤ 65536) (hn : n ≤ a0) (hq : n + x.2.2.1 ≤ 32767) (hf : sb_Fit f) : Met l ⟨"java/lang/AbstractStringBuilder", "append", "(Ljava/lang/String;)Ljava/lang/AbstractStringBuilder;"⟩ (Cond.code ⟨"java/lang/AbstractStringBuilder", "append", "(Ljava/lang/String;)Ljava/lang/AbstractStringBuilder;"⟩ prog_14_method_22_code 3 (some (.object "java/lang/AbstractStringBuilder")) :: vm_W) ({ frames := 4, cells := (sb_k (n + x.2.2.1) a0), slots := (sb_z (n + x.2.2.1) a0), locals := 160 }) (va_Pc [.ref h, .ref x.1] (jB dC dI CA A L (jW CA h b n a0 f))) (jE dC dI A (fun v ws => ∃ (b1 : Nat) (f1 : Nat → Int32), v = some (.ref h) ∧ ws = jW CA h b1 (n + x.2.2.1) (sb_cap (n + x.2.2.1) a0) f1 ∧ sb_Fit f1 ∧ (∀ j, j < n → f1 j = f j) ∧ ∀ j, j < x.2.2.1 → f1 (n + j) = x.2.2.2 j)) ((sb_k (n + x.2.2.1) a0)) ((sb_z (n + x.2.2.1) a0)) A := by
  refine Met.ofW (cc := prog_14_method_22_code) (maxL := 3) (ret := (some (.object "java/lang/AbstractStringBuilder"))) (by decide) rfl ?_
  intro p e s m args below meth c s₁ B hml hv
  obtain ⟨rfl, hK, hX, hL, hP, hD, hA⟩ := hv
  have hx := B.exec
  have hb := B.bytes
  have hr := B.returns
  have hts := vm_tsW (atoms_spec B.pre)
  have hown : s.vm.findClass "java/lang/AbstractStringBuilder" = some m.cls := findClass_of_methodNamed B.named
  have hlocks := B.notSynchronized
  have hnm : meth.name = "append" := (name_of_methodNamed B.named B.method).1
  have hS : va_S A s.heap s.heap [] := va_S.rf
  have hl := lv_entry ([.ref h, .ref x.1]) (n := 3) (Nat.le_of_ble_eq_true rfl)
  rw [lg_entry_eq]
  generalize (lg_sl ([.ref h, .ref x.1]) ++ List.replicate (3 - (lg_sl ([.ref h, .ref x.1])).length) Slot.unset).toArray = ls at hl ⊢
  have hl : lv_has ls 3 [(0, .ref h), (1, .ref x.1)] := hl
  have hcg := sb_cap_ge (n + x.2.2.1) a0
  have hcm : sb_cap (n + x.2.2.1) a0 ≤ 65536 := by unfold sb_cap; (repeat' split) <;> omega
  refine lv_aload_n hx hb (by decide +kernel : decode prog_14_method_22_code 0 = .ok (.aload_n 1, 1)) rfl (lv_at hl 1 rfl) ?_
  refine lv_ifnonnull (tgt := 9) hx hb (by decide +kernel : decode prog_14_method_22_code 1 = .ok (.ifnonnull 8, 3)) (by decide) ?_
  refine lv_aload_n hx hb (by decide +kernel : decode prog_14_method_22_code 9 = .ok (.aload_n 1, 1)) rfl (lv_at hl 1 rfl) ?_
  refine j_call (va_runV (b := x.1) (As := []) (rest := []) ⟨hx, hb, hml, hown, hts⟩ (jm_sLen l dC dI CA A L x _ hxL) (cwV 0 hts (vm_gV jk13 (vm_hw_in (i := 790) (by decide +kernel)) (vm_hw_in (i := 412) (by decide +kernel)) (vm_hw_in (i := 413) (by decide +kernel)) (vm_hw_in (i := 51) (by decide +kernel))) rfl rfl rfl (by decide +kernel) ⟨Nat.le_of_ble_eq_true rfl, Nat.le_of_ble_eq_true rfl⟩) ⟨jB.blind, jSrecv (hL _ hxL) hS, fun U hU hW => ⟨rfl, jB.of hK hX hL hA hP hD hS hU hW⟩⟩ rfl rfl hl.1 rfl (lv_room (Nat.le_of_ble_eq_true rfl)) (by decide +kernel : decode prog_14_method_22_code 10 = .ok (.invokevirtual 32, 3)) ⟨by show 0 + 0 ≤ (sb_k (n + x.2.2.1) a0); omega, by show 0 + 0 ≤ (sb_z (n + x.2.2.1) a0); omega⟩) hS (fun v ws H locs hR hP hD hS => ?_)
  obtain ⟨rfl, rfl⟩ := hR
  refine lv_istore_n (lv' := [(2, .int (nI x.2.2.1)), (0, .ref h), (1, .ref x.1)]) hx hb (by decide +kernel : decode prog_14_method_22_code 13 = .ok (.istore_n 2, 1)) rfl hl (by decide) rfl (fun ls hl => ?_)
  refine lv_aload_n hx hb (by decide +kernel : decode prog_14_method_22_code 14 = .ok (.aload_n 0, 1)) rfl (lv_at hl 1 rfl) ?_
  refine lv_aload_n hx hb (by decide +kernel : decode prog_14_method_22_code 15 = .ok (.aload_n 0, 1)) rfl (lv_at hl 1 rfl) ?_
  refine va_get hx hb hts jSBin hown hK hP 0 rfl jcl12 3 (by decide) (hts (.fieldLink "java/lang/AbstractStringBuilder" 79 "java/lang/AbstractStringBuilder" "count" "I") (vm_hw_in (i := 903) (by decide +kernel))) (fun _ h => h) (v := .int (nI n)) rfl (by decide +kernel : decode prog_14_method_22_code 16 = .ok (.getfield 79, 3)) ?_
  refine lv_iload_n hx hb (by decide +kernel : decode prog_14_method_22_code 19 = .ok (.iload_n 2, 1)) rfl (lv_at hl 0 rfl) ?_
  refine lv_iadd hx hb (by decide +kernel : decode prog_14_method_22_code 20 = .ok (.iadd, 1)) ?_
  refine jtop (nI (n + x.2.2.1)) (nI_add _ _) ?_
  refine j_call (va_runU (b := h) (As := [.int (nI (n + x.2.2.1))]) (rest := []) ⟨hx, hb, hml, hown, hts⟩ (jm_ensure l dC dI CA A L h b n a0 (n + x.2.2.1) f ha (by omega) hf) (va_cwU (owner := "java/lang/AbstractStringBuilder") (x := ⟨"java/lang/AbstractStringBuilder", "ensureCapacityInternal", "(I)V"⟩) 1 hts (jgU jk5 (vm_hw_in (i := 818) (by decide +kernel)) (vm_hw_in (i := 1386) (by decide +kernel)) (vm_hw_in (i := 1393) (by decide +kernel)) (vm_hw_in (i := 820) (by decide +kernel)) (vm_hw_in (i := 49) (by decide +kernel))) rfl rfl rfl rfl (by decide +kernel) ⟨Nat.le_of_ble_eq_true rfl, Nat.le_of_ble_eq_true rfl⟩) ⟨jB.blind, va_recv hK hP jcl12 (show ((jW CA h b n a0 f : va_W))[0]? = _ from rfl), fun U hU hW => ⟨rfl, jB.of hK hX hL hA hP hD hS hU hW⟩⟩ rfl rfl hl.1 rfl (lv_room (Nat.le_of_ble_eq_true rfl)) (by decide +kernel : decode prog_14_method_22_code 21 = .ok (.invokevirtual 100, 3)) ⟨by show (0 + 0) + sb_k (n + x.2.2.1) a0 ≤ (sb_k (n + x.2.2.1) a0); omega, by show (0 + 0) + sb_z (n + x.2.2.1) a0 ≤ (sb_z (n + x.2.2.1) a0); omega⟩) hS (fun v ws H locs hR hP hD hS => ?_)
  obtain ⟨b1, f1, rfl, rfl, hf1, hk1⟩ := hR
  refine lv_aload_n hx hb (by decide +kernel : decode prog_14_method_22_code 24 = .ok (.aload_n 0, 1)) rfl (lv_at hl 1 rfl) ?_
  refine lv_aload_n hx hb (by decide +kernel : decode prog_14_method_22_code 25 = .ok (.aload_n 0, 1)) rfl (lv_at hl 1 rfl) ?_
  refine va_get hx hb hts jSBin hown hK hP 0 rfl jcl12 3 (by decide) (hts (.fieldLink "java/lang/AbstractStringBuilder" 79 "java/lang/AbstractStringBuilder" "count" "I") (vm_hw_in (i := 903) (by decide +kernel))) (fun _ h => h) (v := .int (nI n)) rfl (by decide +kernel : decode prog_14_method_22_code 26 = .ok (.getfield 79, 3)) ?_
  refine lv_aload_n hx hb (by decide +kernel : decode prog_14_method_22_code 29 = .ok (.aload_n 1, 1)) rfl (lv_at hl 2 rfl) ?_
  refine j_call (va_runU (b := h) (As := [.int (nI n), .ref x.1]) (rest := []) ⟨hx, hb, hml, hown, hts⟩ (jm_putStr l dC dI CA A L x h b1 n (sb_cap (n + x.2.2.1) a0) f1 hxL hfx hcg hcm) (va_cwU (owner := "java/lang/AbstractStringBuilder") (x := ⟨"java/lang/AbstractStringBuilder", "putStringAt", "(ILjava/lang/String;)V"⟩) 2 hts (jgU jk16 (vm_hw_in (i := 867) (by decide +kernel)) (vm_hw_in (i := 1388) (by decide +kernel)) (vm_hw_in (i := 1395) (by decide +kernel)) (vm_hw_in (i := 869) (by decide +kernel)) (vm_hw_in (i := 49) (by decide +kernel))) rfl rfl rfl rfl (by decide +kernel) ⟨Nat.le_of_ble_eq_true rfl, Nat.le_of_ble_eq_true rfl⟩) ⟨jB.blind, va_recv hK hP jcl12 (show ((jW CA h b1 n (sb_cap (n + x.2.2.1) a0) f1 : va_W))[0]? = _ from rfl), fun U hU hW => ⟨rfl, jB.of hK hX hL hA hP hD hS hU hW⟩⟩ rfl rfl hl.1 rfl (lv_room (Nat.le_of_ble_eq_true rfl)) (by decide +kernel : decode prog_14_method_22_code 30 = .ok (.invokevirtual 208, 3)) ⟨by show ((0 + 0) + sb_k (n + x.2.2.1) a0) + 0 ≤ (sb_k (n + x.2.2.1) a0); omega, by show ((0 + 0) + sb_z (n + x.2.2.1) a0) + 0 ≤ (sb_z (n + x.2.2.1) a0); omega⟩) hS (fun v ws H locs hR hP hD hS => ?_)
  obtain ⟨rfl, rfl⟩ := hR
  refine lv_aload_n hx hb (by decide +kernel : decode prog_14_method_22_code 33 = .ok (.aload_n 0, 1)) rfl (lv_at hl 1 rfl) ?_
  refine lv_dup hx hb (by decide +kernel : decode prog_14_method_22_code 34 = .ok (.dup, 1)) rfl ?_
  refine va_get hx hb hts jSBin hown hK hP 0 rfl jcl12 3 (by decide) (hts (.fieldLink "java/lang/AbstractStringBuilder" 79 "java/lang/AbstractStringBuilder" "count" "I") (vm_hw_in (i := 903) (by decide +kernel))) (fun _ h => h) (v := .int (nI n)) rfl (by decide +kernel : decode prog_14_method_22_code 35 = .ok (.getfield 79, 3)) ?_
  refine lv_iload_n hx hb (by decide +kernel : decode prog_14_method_22_code 38 = .ok (.iload_n 2, 1)) rfl (lv_at hl 0 rfl) ?_
  refine lv_iadd hx hb (by decide +kernel : decode prog_14_method_22_code 39 = .ok (.iadd, 1)) ?_
  refine jtop (nI (n + x.2.2.1)) (nI_add _ _) ?_
  refine va_put hx hb hts jSBin jSBty jSBok jSBnm hown hK hP hD hS 0 rfl jcl12 3 (by decide) (hts (.fieldLink "java/lang/AbstractStringBuilder" 79 "java/lang/AbstractStringBuilder" "count" "I") (vm_hw_in (i := 903) (by decide +kernel))) (fun _ h => h) rfl (ty := .int) rfl rfl rfl (Nat.le_of_ble_eq_true rfl) (by decide +kernel : decode prog_14_method_22_code 40 = .ok (.putfield 79, 3)) (fun H locs hP hD hS => ?_)
  have hP : va_P (dC, dI) vm_cls ([(h, .inr (12, [.ref b1, .int 0, .int 0, .int (nI (n + x.2.2.1))])), (b1, .inl (CA 101, sb_cap (n + x.2.2.1) a0, .inl (va_cpy x.2.2.2 f1 0 n x.2.2.1)))]) _ := hP
  have hD : va_D A ([(h, .inr (12, [.ref b1, .int 0, .int 0, .int (nI (n + x.2.2.1))])), (b1, .inl (CA 101, sb_cap (n + x.2.2.1) a0, .inl (va_cpy x.2.2.2 f1 0 n x.2.2.1)))]) := hD
  refine lv_aload_n hx hb (by decide +kernel : decode prog_14_method_22_code 43 = .ok (.aload_n 0, 1)) rfl (lv_at hl 1 rfl) ?_
  refine W.widen (show (((0 + 0) + sb_k (n + x.2.2.1) a0) + 0) ≤ (sb_k (n + x.2.2.1) a0) by omega) (show (((0 + 0) + sb_z (n + x.2.2.1) a0) + 0) ≤ (sb_z (n + x.2.2.1) a0) by omega) ?_
  exact W.aret hx hb hr (Or.inl ⟨_, rfl⟩) (Or.inr ⟨_, rfl⟩) (fun t ht hW => ⟨_, _, ⟨b1, _, rfl, rfl, sb_fitC hfx hf1, fun j hj => by rw [pk_cpy_out (Or.inl hj)]; exact hk1 j (by omega), fun j hj => by rw [pk_cpy_in (by omega) (by omega), show 0 + (n + j - n) = j by omega]⟩, rfl, by rw [ht]; exact hP, hD, hS.F ht⟩) hS.2.2 (by decide +kernel : decode prog_14_method_22_code 44 = .ok (.areturn, 1))
theorem jk18 : Cond.code ⟨"java/lang/StringBuilder", "append", "(Ljava/lang/String;)Ljava/lang/StringBuilder;"⟩ prog_19_method_7_code 2 (some (.object "java/lang/StringBuilder")) ∈ vm_W := vm_code_in (vm_in4 (List.mem_of_getElem? (i := 53) (by rfl)))
set_option maxHeartbeats 4000000 in
theorem jm_sbS (l : Launch) (dC : Nat → ClassId) (dI : Nat → Nat → Nat) (CA : Nat → ClassId) (A : Nat → Prop) (L : jT) (x : Nat × Nat × Nat × (Nat → Int32)) (h b n a0 : Nat) (f : Nat → Int32) (hxL : x ∈ L) (hfx : sb_Fit x.2.2.2) (ha : a0 ≤ 65536) (hn : n ≤ a0) (hq : n + x.2.2.1 ≤ 32767) (hf : sb_Fit f) : Met l ⟨"java/lang/StringBuilder", "append", "(Ljava/lang/String;)Ljava/lang/StringBuilder;"⟩ (Cond.code ⟨"java/lang/StringBuilder", "append", "(Ljava/lang/String;)Ljava/lang/StringBuilder;"⟩ prog_19_method_7_code 2 (some (.object "java/lang/StringBuilder")) :: vm_W) ({ frames := 5, cells := (sb_k (n + x.2.2.1) a0), slots := (sb_z (n + x.2.2.1) a0), locals := 200 }) (va_Pc [.ref h, .ref x.1] (jB dC dI CA A L (jW CA h b n a0 f))) (jE dC dI A (fun v ws => ∃ (b1 : Nat) (f1 : Nat → Int32), v = some (.ref h) ∧ ws = jW CA h b1 (n + x.2.2.1) (sb_cap (n + x.2.2.1) a0) f1 ∧ sb_Fit f1 ∧ (∀ j, j < n → f1 j = f j) ∧ ∀ j, j < x.2.2.1 → f1 (n + j) = x.2.2.2 j)) ((sb_k (n + x.2.2.1) a0)) ((sb_z (n + x.2.2.1) a0)) A := by
  refine Met.ofW (cc := prog_19_method_7_code) (maxL := 2) (ret := (some (.object "java/lang/StringBuilder"))) (by decide) rfl ?_
  intro p e s m args below meth c s₁ B hml hv
  obtain ⟨rfl, hK, hX, hL, hP, hD, hA⟩ := hv
  have hx := B.exec
  have hb := B.bytes
  have hr := B.returns
  have hts := vm_tsW (atoms_spec B.pre)
  have hown : s.vm.findClass "java/lang/StringBuilder" = some m.cls := findClass_of_methodNamed B.named
  have hlocks := B.notSynchronized
  have hnm : meth.name = "append" := (name_of_methodNamed B.named B.method).1
  have hS : va_S A s.heap s.heap [] := va_S.rf
  have hl := lv_entry ([.ref h, .ref x.1]) (n := 2) (Nat.le_of_ble_eq_true rfl)
  rw [lg_entry_eq]
  generalize (lg_sl ([.ref h, .ref x.1]) ++ List.replicate (2 - (lg_sl ([.ref h, .ref x.1])).length) Slot.unset).toArray = ls at hl ⊢
  have hl : lv_has ls 2 [(0, .ref h), (1, .ref x.1)] := hl
  refine lv_aload_n hx hb (by decide +kernel : decode prog_19_method_7_code 0 = .ok (.aload_n 0, 1)) rfl (lv_at hl 0 rfl) ?_
  refine lv_aload_n hx hb (by decide +kernel : decode prog_19_method_7_code 1 = .ok (.aload_n 1, 1)) rfl (lv_at hl 1 rfl) ?_
  refine j_call (va_runSU (C := "java/lang/StringBuilder") (b := h) (As := [.ref x.1]) (rest := []) (hK.1 12 _ jcl12).2 ⟨hx, hb, hml, hown, hts⟩ (jm_appS l dC dI CA A L x h b n a0 f hxL hfx ha hn hq hf) (va_cwSU 1 hts (jgSU jk17 (vm_hw_in (i := 811) (by decide +kernel)) (vm_hw_in (i := 803) (by decide +kernel)) (vm_hw_in (i := 812) (by decide +kernel)) (vm_hw_in (i := 802) (by decide +kernel)) (vm_hw_in (i := 49) (by decide +kernel))) rfl rfl rfl (by decide +kernel) ⟨Nat.le_of_ble_eq_true rfl, Nat.le_of_ble_eq_true rfl⟩) ⟨jB.blind, va_recv hK hP jcl12 (show ((jW CA h b n a0 f : va_W))[0]? = _ from rfl), fun U hU hW => ⟨rfl, jB.of hK hX hL hA hP hD hS hU hW⟩⟩ rfl rfl hl.1 rfl (lv_room (Nat.le_of_ble_eq_true rfl)) (by decide +kernel : decode prog_19_method_7_code 2 = .ok (.invokespecial 29, 3)) ⟨by show 0 + sb_k (n + x.2.2.1) a0 ≤ (sb_k (n + x.2.2.1) a0); omega, by show 0 + sb_z (n + x.2.2.1) a0 ≤ (sb_z (n + x.2.2.1) a0); omega⟩) hS (fun v ws H locs hR hP hD hS => ?_)
  obtain ⟨b1, f1, rfl, rfl, hR⟩ := hR
  refine lv_pop hx hb (by decide +kernel : decode prog_19_method_7_code 5 = .ok (.pop, 1)) rfl ?_
  refine lv_aload_n hx hb (by decide +kernel : decode prog_19_method_7_code 6 = .ok (.aload_n 0, 1)) rfl (lv_at hl 0 rfl) ?_
  refine W.widen (show (0 + sb_k (n + x.2.2.1) a0) ≤ (sb_k (n + x.2.2.1) a0) by omega) (show (0 + sb_z (n + x.2.2.1) a0) ≤ (sb_z (n + x.2.2.1) a0) by omega) ?_
  exact W.aret hx hb hr (Or.inl ⟨_, rfl⟩) (Or.inr ⟨_, rfl⟩) (fun t ht hW => ⟨_, _, ⟨b1, f1, rfl, rfl, hR⟩, rfl, by rw [ht]; exact hP, hD, hS.F ht⟩) hS.2.2 (by decide +kernel : decode prog_19_method_7_code 7 = .ok (.areturn, 1))
theorem jk19 : Cond.code ⟨"java/lang/StringBuilder", "append", "(Ljava/lang/String;)Ljava/lang/AbstractStringBuilder;"⟩ prog_19_method_80_code 2 (some (.object "java/lang/AbstractStringBuilder")) ∈ vm_W := vm_code_in (vm_in4 (List.mem_of_getElem? (i := 49) (by rfl)))
set_option maxHeartbeats 4000000 in
theorem jm_sbS2 (l : Launch) (dC : Nat → ClassId) (dI : Nat → Nat → Nat) (CA : Nat → ClassId) (A : Nat → Prop) (L : jT) (x : Nat × Nat × Nat × (Nat → Int32)) (h b n a0 : Nat) (f : Nat → Int32) (hxL : x ∈ L) (hfx : sb_Fit x.2.2.2) (ha : a0 ≤ 65536) (hn : n ≤ a0) (hq : n + x.2.2.1 ≤ 32767) (hf : sb_Fit f) : Met l ⟨"java/lang/StringBuilder", "append", "(Ljava/lang/String;)Ljava/lang/AbstractStringBuilder;"⟩ (Cond.code ⟨"java/lang/StringBuilder", "append", "(Ljava/lang/String;)Ljava/lang/AbstractStringBuilder;"⟩ prog_19_method_80_code 2 (some (.object "java/lang/AbstractStringBuilder")) :: vm_W) ({ frames := 6, cells := (sb_k (n + x.2.2.1) a0), slots := (sb_z (n + x.2.2.1) a0), locals := 240 }) (va_Pc [.ref h, .ref x.1] (jB dC dI CA A L (jW CA h b n a0 f))) (jE dC dI A (fun v ws => ∃ (b1 : Nat) (f1 : Nat → Int32), v = some (.ref h) ∧ ws = jW CA h b1 (n + x.2.2.1) (sb_cap (n + x.2.2.1) a0) f1 ∧ sb_Fit f1 ∧ (∀ j, j < n → f1 j = f j) ∧ ∀ j, j < x.2.2.1 → f1 (n + j) = x.2.2.2 j)) ((sb_k (n + x.2.2.1) a0)) ((sb_z (n + x.2.2.1) a0)) A := by
  refine Met.ofW (cc := prog_19_method_80_code) (maxL := 2) (ret := (some (.object "java/lang/AbstractStringBuilder"))) (by decide) rfl ?_
  intro p e s m args below meth c s₁ B hml hv
  obtain ⟨rfl, hK, hX, hL, hP, hD, hA⟩ := hv
  have hx := B.exec
  have hb := B.bytes
  have hr := B.returns
  have hts := vm_tsW (atoms_spec B.pre)
  have hown : s.vm.findClass "java/lang/StringBuilder" = some m.cls := findClass_of_methodNamed B.named
  have hlocks := B.notSynchronized
  have hnm : meth.name = "append" := (name_of_methodNamed B.named B.method).1
  have hS : va_S A s.heap s.heap [] := va_S.rf
  have hl := lv_entry ([.ref h, .ref x.1]) (n := 2) (Nat.le_of_ble_eq_true rfl)
  rw [lg_entry_eq]
  generalize (lg_sl ([.ref h, .ref x.1]) ++ List.replicate (2 - (lg_sl ([.ref h, .ref x.1])).length) Slot.unset).toArray = ls at hl ⊢
  have hl : lv_has ls 2 [(0, .ref h), (1, .ref x.1)] := hl
  refine lv_aload_n hx hb (by decide +kernel : decode prog_19_method_80_code 0 = .ok (.aload_n 0, 1)) rfl (lv_at hl 0 rfl) ?_
  refine lv_aload_n hx hb (by decide +kernel : decode prog_19_method_80_code 1 = .ok (.aload_n 1, 1)) rfl (lv_at hl 1 rfl) ?_
  refine j_call (va_runV (b := h) (As := [.ref x.1]) (rest := []) ⟨hx, hb, hml, hown, hts⟩ (jm_sbS l dC dI CA A L x h b n a0 f hxL hfx ha hn hq hf) (cwV 1 hts (vm_gV jk18 (vm_hw_in (i := 807) (by decide +kernel)) (vm_hw_in (i := 808) (by decide +kernel)) (vm_hw_in (i := 809) (by decide +kernel)) (vm_hw_in (i := 50) (by decide +kernel))) rfl rfl rfl (by decide +kernel) ⟨Nat.le_of_ble_eq_true rfl, Nat.le_of_ble_eq_true rfl⟩) ⟨jB.blind, va_recv hK hP jcl12 (show ((jW CA h b n a0 f : va_W))[0]? = _ from rfl), fun U hU hW => ⟨rfl, jB.of hK hX hL hA hP hD hS hU hW⟩⟩ rfl rfl hl.1 rfl (lv_room (Nat.le_of_ble_eq_true rfl)) (by decide +kernel : decode prog_19_method_80_code 2 = .ok (.invokevirtual 23, 3)) ⟨by show 0 + sb_k (n + x.2.2.1) a0 ≤ (sb_k (n + x.2.2.1) a0); omega, by show 0 + sb_z (n + x.2.2.1) a0 ≤ (sb_z (n + x.2.2.1) a0); omega⟩) hS (fun v ws H locs hR hP hD hS => ?_)
  obtain ⟨b1, f1, rfl, rfl, hR⟩ := hR
  refine W.widen (show (0 + sb_k (n + x.2.2.1) a0) ≤ (sb_k (n + x.2.2.1) a0) by omega) (show (0 + sb_z (n + x.2.2.1) a0) ≤ (sb_z (n + x.2.2.1) a0) by omega) ?_
  exact W.aret hx hb hr (Or.inl ⟨_, rfl⟩) (Or.inr ⟨_, rfl⟩) (fun t ht hW => ⟨_, _, ⟨b1, f1, rfl, rfl, hR⟩, rfl, by rw [ht]; exact hP, hD, hS.F ht⟩) hS.2.2 (by decide +kernel : decode prog_19_method_80_code 5 = .ok (.areturn, 1))
