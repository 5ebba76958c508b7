/-! ===== a builder is made ===== -/
theorem jk20 : Cond.code ⟨"java/lang/AbstractStringBuilder", "<init>", "(I)V"⟩ prog_14_method_2_code 2 none ∈ vm_W := vm_code_in (vm_in4 (List.mem_of_getElem? (i := 212) (by rfl)))
set_option maxHeartbeats 4000000 in
theorem jm_initI (l : Launch) (dC : Nat → ClassId) (dI : Nat → Nat → Nat) (CA : Nat → ClassId) (A : Nat → Prop) (L : jT) (h N : Nat) (hN : N < 16777216) : Met l ⟨"java/lang/AbstractStringBuilder", "<init>", "(I)V"⟩ (Cond.code ⟨"java/lang/AbstractStringBuilder", "<init>", "(I)V"⟩ prog_14_method_2_code 2 none :: vm_W) ({ frames := 1, cells := 1, slots := N, locals := 40 }) (va_Pc [.ref h, .int (nI N)] (jB dC dI CA A L [(h, .inr (12, [.null, .int 0, .int 0, .int 0]))])) (jE dC dI A (fun v ws => ∃ b1 : Nat, v = none ∧ ws = jW CA h b1 0 N (fun _ => 0))) 1 N A := by
  refine Met.ofW (cc := prog_14_method_2_code) (maxL := 2) (ret := none) (by decide) rfl ?_
  intro p e s m args below meth c s₁ B hml hv
  obtain ⟨rfl, hK, hX, hL, hP, hD, hA⟩ := hv
  have hx := B.exec
  have hb := B.bytes
  have hr := B.returns
  have hts := vm_tsW (atoms_spec B.pre)
  have hown : s.vm.findClass "java/lang/AbstractStringBuilder" = some m.cls := findClass_of_methodNamed B.named
  have hlocks := B.notSynchronized
  have hnm : meth.name = "<init>" := (name_of_methodNamed B.named B.method).1
  have hS : va_S A s.heap s.heap [] := va_S.rf
  have hl := lv_entry ([.ref h, .int (nI N)]) (n := 2) (Nat.le_of_ble_eq_true rfl)
  rw [lg_entry_eq]
  generalize (lg_sl ([.ref h, .int (nI N)]) ++ List.replicate (2 - (lg_sl ([.ref h, .int (nI N)])).length) Slot.unset).toArray = ls at hl ⊢
  have hl : lv_has ls 2 [(0, .ref h), (1, .int (nI N))] := hl
  refine lv_aload_n hx hb (by decide +kernel : decode prog_14_method_2_code 0 = .ok (.aload_n 0, 1)) rfl (lv_at hl 0 rfl) ?_
  refine W.objInit hx hb hown (hts _ (vm_hw_in (i := 789) (by decide +kernel))) (hts _ (vm_hw_in vm_okXd)) (hts _ vm_okX_objCode) rfl (hl.1.trans hml.symm) rfl (by decide +kernel : decode prog_14_method_2_code 1 = .ok (.invokespecial 3, 3)) (Nat.le_of_ble_eq_true rfl) (Nat.le_of_ble_eq_true rfl) ?_
  show W p l e _ s m _ below meth c _ _ _ _ _ (F0 m 4 ls [])
  refine va_gets hx hb hX.1 hS hown (hts (.fieldLink "java/lang/AbstractStringBuilder" 18 "java/lang/String" "COMPACT_STRINGS" "Z") (vm_hw_in (i := 851) (by decide +kernel))) (fun _ h => h) (by decide +kernel : decode prog_14_method_2_code 4 = .ok (.getstatic 18, 3)) ?_
  refine lv_if_eq (tgt := 25) hx hb (by decide +kernel : decode prog_14_method_2_code 7 = .ok (.ifCond .eq 18, 3)) (by decide) (fun z9 => absurd z9 (by decide)) (fun _ => ?_)
  refine lv_aload_n hx hb (by decide +kernel : decode prog_14_method_2_code 10 = .ok (.aload_n 0, 1)) rfl (lv_at hl 0 rfl) ?_
  refine lv_iload_n hx hb (by decide +kernel : decode prog_14_method_2_code 11 = .ok (.iload_n 1, 1)) rfl (lv_at hl 1 rfl) ?_
  refine j_newb (N := N) hx hb hts hK hP hD hS hA (by omega) (by show 0 + 1 ≤ 1; omega) (by show 0 + N ≤ N; omega) (by decide +kernel : decode prog_14_method_2_code 12 = .ok (.newarray .byte, 2)) (fun q9 H hP hD hS => ?_)
  have hP : va_P (dC, dI) vm_cls ([(h, .inr (12, [.null, .int 0, .int 0, .int 0])), (q9, .inl (CA 101, N, .inl (fun _ => 0)))]) _ := hP
  have hD : va_D A ([(h, .inr (12, [.null, .int 0, .int 0, .int 0])), (q9, .inl (CA 101, N, .inl (fun _ => 0)))]) := hD
  refine va_put hx hb hts jSBin jSBty jSBok jSBnm hown hK hP hD hS 0 rfl jcl12 0 (by decide) (hts (.fieldLink "java/lang/AbstractStringBuilder" 15 "java/lang/AbstractStringBuilder" "value" "[B") (vm_hw_in (i := 900) (by decide +kernel))) (fun _ h => h) rfl (ty := .array .byte) rfl rfl rfl (Nat.le_of_ble_eq_true rfl) (by decide +kernel : decode prog_14_method_2_code 14 = .ok (.putfield 15, 3)) (fun H locs hP hD hS => ?_)
  have hP : va_P (dC, dI) vm_cls ([(h, .inr (12, [.ref q9, .int 0, .int 0, .int 0])), (q9, .inl (CA 101, N, .inl (fun _ => 0)))]) _ := hP
  have hD : va_D A ([(h, .inr (12, [.ref q9, .int 0, .int 0, .int 0])), (q9, .inl (CA 101, N, .inl (fun _ => 0)))]) := hD
  refine lv_aload_n hx hb (by decide +kernel : decode prog_14_method_2_code 17 = .ok (.aload_n 0, 1)) rfl (lv_at hl 0 rfl) ?_
  refine lv_iconst (v := 0) hx hb (by decide +kernel : decode prog_14_method_2_code 18 = .ok (.iconst 0, 1)) (by decide) ?_
  refine va_put hx hb hts jSBin jSBty jSBok jSBnm hown hK hP hD hS 0 rfl jcl12 1 (by decide) (hts (.fieldLink "java/lang/AbstractStringBuilder" 22 "java/lang/AbstractStringBuilder" "coder" "B") (vm_hw_in (i := 901) (by decide +kernel))) (fun _ h => h) rfl (ty := .byte) rfl rfl rfl (Nat.le_of_ble_eq_true rfl) (by decide +kernel : decode prog_14_method_2_code 19 = .ok (.putfield 22, 3)) (fun H locs hP hD hS => ?_)
  have hP : va_P (dC, dI) vm_cls ([(h, .inr (12, [.ref q9, .int 0, .int 0, .int 0])), (q9, .inl (CA 101, N, .inl (fun _ => 0)))]) _ := hP
  have hD : va_D A ([(h, .inr (12, [.ref q9, .int 0, .int 0, .int 0])), (q9, .inl (CA 101, N, .inl (fun _ => 0)))]) := hD
  refine lv_goto (tgt := 38) hx hb (by decide +kernel : decode prog_14_method_2_code 22 = .ok (.goto 16, 3)) (by decide) ?_
  refine W.widen (show (0 + 1) ≤ 1 by omega) (show (0 + N) ≤ N by omega) ?_
  exact W.vret hx hb hr (fun t ht hW => ⟨_, _, ⟨q9, rfl, rfl⟩, rfl, by rw [ht]; exact hP, hD, hS.F ht⟩) hS.2.2 (by decide +kernel : decode prog_14_method_2_code 38 = .ok (.return_, 1))
theorem jk21 : Cond.code ⟨"java/lang/StringBuilder", "<init>", "()V"⟩ prog_19_method_1_code 1 none ∈ vm_W := vm_code_in (vm_in4 (List.mem_of_getElem? (i := 209) (by rfl)))
set_option maxHeartbeats 4000000 in
theorem jm_sbInit (l : Launch) (dC : Nat → ClassId) (dI : Nat → Nat → Nat) (CA : Nat → ClassId) (A : Nat → Prop) (L : jT) (h : Nat)  : Met l ⟨"java/lang/StringBuilder", "<init>", "()V"⟩ (Cond.code ⟨"java/lang/StringBuilder", "<init>", "()V"⟩ prog_19_method_1_code 1 none :: vm_W) ({ frames := 2, cells := 1, slots := 16, locals := 80 }) (va_Pc [.ref h] (jB dC dI CA A L [(h, .inr (12, [.null, .int 0, .int 0, .int 0]))])) (jE dC dI A (fun v ws => ∃ b1 : Nat, v = none ∧ ws = jW CA h b1 0 16 (fun _ => 0))) 1 16 A := by
  refine Met.ofW (cc := prog_19_method_1_code) (maxL := 1) (ret := none) (by decide) rfl ?_
  intro p e s m args below meth c s₁ B hml hv
  obtain ⟨rfl, hK, hX, hL, hP, hD, hA⟩ := hv
  have hx := B.exec
  have hb := B.bytes
  have hr := B.returns
  have hts := vm_tsW (atoms_spec B.pre)
  have hown : s.vm.findClass "java/lang/StringBuilder" = some m.cls := findClass_of_methodNamed B.named
  have hlocks := B.notSynchronized
  have hnm : meth.name = "<init>" := (name_of_methodNamed B.named B.method).1
  have hS : va_S A s.heap s.heap [] := va_S.rf
  have hl := lv_entry ([.ref h]) (n := 1) (Nat.le_of_ble_eq_true rfl)
  rw [lg_entry_eq]
  generalize (lg_sl ([.ref h]) ++ List.replicate (1 - (lg_sl ([.ref h])).length) Slot.unset).toArray = ls at hl ⊢
  have hl : lv_has ls 1 [(0, .ref h)] := hl
  refine lv_aload_n hx hb (by decide +kernel : decode prog_19_method_1_code 0 = .ok (.aload_n 0, 1)) rfl (lv_at hl 0 rfl) ?_
  refine lv_bipush (v := 16) hx hb (by decide +kernel : decode prog_19_method_1_code 1 = .ok (.bipush 16, 2)) (by decide) ?_
  refine j_call (va_runI (b := h) (As := [.int 16]) (rest := []) ⟨hx, hb, hml, hown, hts⟩ (jm_initI l dC dI CA A L h 16 (by decide)) (cwI 1 hts (vm_gi (vm_ws_in jk20)) rfl rfl rfl (hts _ (vm_hw_in (i := 49) (by decide +kernel))) (hts _ (vm_hw_in (i := 967) (by decide +kernel))) (hts _ (vm_hw_in (i := 968) (by decide +kernel))) rfl (by decide +kernel) ⟨Nat.le_of_ble_eq_true rfl, Nat.le_of_ble_eq_true rfl⟩) ⟨jB.blind, fun U hU hW => ⟨rfl, jB.of hK hX hL hA hP hD hS hU hW⟩⟩ rfl rfl hl.1 rfl (lv_room (Nat.le_of_ble_eq_true rfl)) (by decide +kernel : decode prog_19_method_1_code 3 = .ok (.invokespecial 1, 3)) ⟨by show 0 + 1 ≤ 1; omega, by show 0 + 16 ≤ 16; omega⟩) hS (fun v ws H locs hR hP hD hS => ?_)
  obtain ⟨b1, rfl, rfl⟩ := hR
  refine W.widen (show (0 + 1) ≤ 1 by omega) (show (0 + 16) ≤ 16 by omega) ?_
  exact W.vret hx hb hr (fun t ht hW => ⟨_, _, ⟨b1, rfl, rfl⟩, rfl, by rw [ht]; exact hP, hD, hS.F ht⟩) hS.2.2 (by decide +kernel : decode prog_19_method_1_code 6 = .ok (.return_, 1))
theorem jk22 : Cond.code ⟨"java/lang/AbstractStringBuilder", "<init>", "(Ljava/lang/String;)V"⟩ prog_14_method_3_code 5 none ∈ vm_W := vm_code_in (vm_in4 (List.mem_of_getElem? (i := 31) (by rfl)))
set_option maxHeartbeats 4000000 in
theorem jm_initS (l : Launch) (dC : Nat → ClassId) (dI : Nat → Nat → Nat) (CA : Nat → ClassId) (A : Nat → Prop) (L : jT) (x : Nat × Nat × Nat × (Nat → Int32)) (h : Nat) (hxL : x ∈ L) (hfx : sb_Fit x.2.2.2) (hq : x.2.2.1 ≤ 32700) : Met l ⟨"java/lang/AbstractStringBuilder", "<init>", "(Ljava/lang/String;)V"⟩ (Cond.code ⟨"java/lang/AbstractStringBuilder", "<init>", "(Ljava/lang/String;)V"⟩ prog_14_method_3_code 5 none :: vm_W) ({ frames := 7, cells := 1, slots := (x.2.2.1 + 16), locals := 280 }) (va_Pc [.ref h, .ref x.1] (jB dC dI CA A L [(h, .inr (12, [.null, .int 0, .int 0, .int 0]))])) (jE dC dI A (fun v ws => ∃ (b1 : Nat) (f1 : Nat → Int32), v = none ∧ ws = jW CA h b1 x.2.2.1 (x.2.2.1 + 16) f1 ∧ sb_Fit f1 ∧ ∀ j, j < x.2.2.1 → f1 j = x.2.2.2 j)) 1 ((x.2.2.1 + 16)) A := by
  refine Met.ofW (cc := prog_14_method_3_code) (maxL := 5) (ret := none) (by decide) rfl ?_
  intro p e s m args below meth c s₁ B hml hv
  obtain ⟨rfl, hK, hX, hL, hP, hD, hA⟩ := hv
  have hx := B.exec
  have hb := B.bytes
  have hr := B.returns
  have hts := vm_tsW (atoms_spec B.pre)
  have hown : s.vm.findClass "java/lang/AbstractStringBuilder" = some m.cls := findClass_of_methodNamed B.named
  have hlocks := B.notSynchronized
  have hnm : meth.name = "<init>" := (name_of_methodNamed B.named B.method).1
  have hS : va_S A s.heap s.heap [] := va_S.rf
  have hl := lv_entry ([.ref h, .ref x.1]) (n := 5) (Nat.le_of_ble_eq_true rfl)
  rw [lg_entry_eq]
  generalize (lg_sl ([.ref h, .ref x.1]) ++ List.replicate (5 - (lg_sl ([.ref h, .ref x.1])).length) Slot.unset).toArray = ls at hl ⊢
  have hl : lv_has ls 5 [(0, .ref h), (1, .ref x.1)] := hl
  have hcap : sb_cap (0 + x.2.2.1) (x.2.2.1 + 16) = x.2.2.1 + 16 := by unfold sb_cap; rw [if_pos (by omega)]
  have hkk : sb_k (0 + x.2.2.1) (x.2.2.1 + 16) = 0 := by unfold sb_k; rw [if_pos (by omega)]
  have hzz : sb_z (0 + x.2.2.1) (x.2.2.1 + 16) = 0 := by unfold sb_z; rw [if_pos (by omega)]
  refine lv_aload_n hx hb (by decide +kernel : decode prog_14_method_3_code 0 = .ok (.aload_n 0, 1)) rfl (lv_at hl 0 rfl) ?_
  refine W.objInit hx hb hown (hts _ (vm_hw_in (i := 789) (by decide +kernel))) (hts _ (vm_hw_in vm_okXd)) (hts _ vm_okX_objCode) rfl (hl.1.trans hml.symm) rfl (by decide +kernel : decode prog_14_method_3_code 1 = .ok (.invokespecial 3, 3)) (Nat.le_of_ble_eq_true rfl) (Nat.le_of_ble_eq_true rfl) ?_
  show W p l e _ s m _ below meth c _ _ _ _ _ (F0 m 4 ls [])
  refine lv_aload_n hx hb (by decide +kernel : decode prog_14_method_3_code 4 = .ok (.aload_n 1, 1)) rfl (lv_at hl 1 rfl) ?_
  refine j_call (va_runV (b := x.1) (As := []) (rest := []) ⟨hx, hb, hml, hown, hts⟩ (jm_sLen l dC dI CA A L x _ hxL) (cwV 0 hts (vm_gV jk13 (vm_hw_in (i := 790) (by decide +kernel)) (vm_hw_in (i := 412) (by decide +kernel)) (vm_hw_in (i := 413) (by decide +kernel)) (vm_hw_in (i := 51) (by decide +kernel))) rfl rfl rfl (by decide +kernel) ⟨Nat.le_of_ble_eq_true rfl, Nat.le_of_ble_eq_true rfl⟩) ⟨jB.blind, jSrecv (hL _ hxL) hS, fun U hU hW => ⟨rfl, jB.of hK hX hL hA hP hD hS hU hW⟩⟩ rfl rfl hl.1 rfl (lv_room (Nat.le_of_ble_eq_true rfl)) (by decide +kernel : decode prog_14_method_3_code 5 = .ok (.invokevirtual 32, 3)) ⟨by show 0 + 0 ≤ 1; omega, by show 0 + 0 ≤ (x.2.2.1 + 16); omega⟩) hS (fun v ws H locs hR hP hD hS => ?_)
  obtain ⟨rfl, rfl⟩ := hR
  refine lv_istore_n (lv' := [(2, .int (nI x.2.2.1)), (0, .ref h), (1, .ref x.1)]) hx hb (by decide +kernel : decode prog_14_method_3_code 8 = .ok (.istore_n 2, 1)) rfl hl (by decide) rfl (fun ls hl => ?_)
  refine lv_iload_n hx hb (by decide +kernel : decode prog_14_method_3_code 9 = .ok (.iload_n 2, 1)) rfl (lv_at hl 0 rfl) ?_
  refine lv_ldc (v := 2147483631) hx hb hown (hts (.constant "java/lang/AbstractStringBuilder" 38 2147483631) (vm_hw_in (i := 791) (by decide +kernel))) (by decide +kernel : decode prog_14_method_3_code 10 = .ok (.ldc 38, 2)) ?_
  refine lv_icmp_ge (tgt := 22) hx hb (by decide +kernel : decode prog_14_method_3_code 12 = .ok (.if_icmp .ge 10, 3)) (by decide) (fun z9 => absurd z9 (show ¬ nI 2147483631 ≤ nI x.2.2.1 from nI_ge (by omega) (by decide))) (fun _ => ?_)
  refine lv_iload_n hx hb (by decide +kernel : decode prog_14_method_3_code 15 = .ok (.iload_n 2, 1)) rfl (lv_at hl 0 rfl) ?_
  refine lv_bipush (v := 16) hx hb (by decide +kernel : decode prog_14_method_3_code 16 = .ok (.bipush 16, 2)) (by decide) ?_
  refine lv_iadd hx hb (by decide +kernel : decode prog_14_method_3_code 18 = .ok (.iadd, 1)) ?_
  refine jtop (nI (x.2.2.1 + 16)) (nI_add _ _) ?_
  refine lv_goto (tgt := 24) hx hb (by decide +kernel : decode prog_14_method_3_code 19 = .ok (.goto 5, 3)) (by decide) ?_
  refine lv_istore_n (lv' := [(3, .int (nI (x.2.2.1 + 16))), (2, .int (nI x.2.2.1)), (0, .ref h), (1, .ref x.1)]) hx hb (by decide +kernel : decode prog_14_method_3_code 24 = .ok (.istore_n 3, 1)) rfl hl (by decide) rfl (fun ls hl => ?_)
  refine lv_aload_n hx hb (by decide +kernel : decode prog_14_method_3_code 25 = .ok (.aload_n 1, 1)) rfl (lv_at hl 3 rfl) ?_
  refine j_call (va_runV (b := x.1) (As := []) (rest := []) ⟨hx, hb, hml, hown, hts⟩ (jm_sCod l dC dI CA A L x _ hxL) (cwV 0 hts (vm_gV jk12 (vm_hw_in (i := 793) (by decide +kernel)) (vm_hw_in (i := 416) (by decide +kernel)) (vm_hw_in (i := 417) (by decide +kernel)) (vm_hw_in (i := 51) (by decide +kernel))) rfl rfl rfl (by decide +kernel) ⟨Nat.le_of_ble_eq_true rfl, Nat.le_of_ble_eq_true rfl⟩) ⟨jB.blind, jSrecv (hL _ hxL) hS, fun U hU hW => ⟨rfl, jB.of hK hX hL hA hP hD hS hU hW⟩⟩ rfl rfl hl.1 rfl (lv_room (Nat.le_of_ble_eq_true rfl)) (by decide +kernel : decode prog_14_method_3_code 26 = .ok (.invokevirtual 40, 3)) ⟨by show (0 + 0) + 0 ≤ 1; omega, by show (0 + 0) + 0 ≤ (x.2.2.1 + 16); omega⟩) hS (fun v ws H locs hR hP hD hS => ?_)
  obtain ⟨rfl, rfl⟩ := hR
  refine lv_istore (lv' := [(4, .int 0), (3, .int (nI (x.2.2.1 + 16))), (2, .int (nI x.2.2.1)), (0, .ref h), (1, .ref x.1)]) hx hb (by decide +kernel : decode prog_14_method_3_code 29 = .ok (.istore 4, 2)) hl (by decide) rfl (fun ls hl => ?_)
  refine lv_aload_n hx hb (by decide +kernel : decode prog_14_method_3_code 31 = .ok (.aload_n 0, 1)) rfl (lv_at hl 3 rfl) ?_
  refine lv_iload hx hb (by decide +kernel : decode prog_14_method_3_code 32 = .ok (.iload 4, 2)) (lv_at hl 0 rfl) ?_
  refine va_put hx hb hts jSBin jSBty jSBok jSBnm hown hK hP hD hS 0 rfl jcl12 1 (by decide) (hts (.fieldLink "java/lang/AbstractStringBuilder" 22 "java/lang/AbstractStringBuilder" "coder" "B") (vm_hw_in (i := 901) (by decide +kernel))) (fun _ h => h) rfl (ty := .byte) rfl rfl rfl (Nat.le_of_ble_eq_true rfl) (by decide +kernel : decode prog_14_method_3_code 34 = .ok (.putfield 22, 3)) (fun H locs hP hD hS => ?_)
  have hP : va_P (dC, dI) vm_cls ([(h, .inr (12, [.null, .int 0, .int 0, .int 0]))]) _ := hP
  have hD : va_D A ([(h, .inr (12, [.null, .int 0, .int 0, .int 0]))]) := hD
  refine lv_aload_n hx hb (by decide +kernel : decode prog_14_method_3_code 37 = .ok (.aload_n 0, 1)) rfl (lv_at hl 3 rfl) ?_
  refine lv_iload hx hb (by decide +kernel : decode prog_14_method_3_code 38 = .ok (.iload 4, 2)) (lv_at hl 0 rfl) ?_
  refine lv_if_ne (tgt := 49) hx hb (by decide +kernel : decode prog_14_method_3_code 40 = .ok (.ifCond .ne 9, 3)) (by decide) (fun z9 => absurd z9 (fun z => z rfl)) (fun _ => ?_)
  refine lv_iload_n hx hb (by decide +kernel : decode prog_14_method_3_code 43 = .ok (.iload_n 3, 1)) rfl (lv_at hl 1 rfl) ?_
  refine j_newb (N := (x.2.2.1 + 16)) hx hb hts hK hP hD hS hA (by omega) (by show ((0 + 0) + 0) + 1 ≤ 1; omega) (by show ((0 + 0) + 0) + (x.2.2.1 + 16) ≤ (x.2.2.1 + 16); omega) (by decide +kernel : decode prog_14_method_3_code 44 = .ok (.newarray .byte, 2)) (fun q9 H hP hD hS => ?_)
  have hP : va_P (dC, dI) vm_cls ([(h, .inr (12, [.null, .int 0, .int 0, .int 0])), (q9, .inl (CA 101, x.2.2.1 + 16, .inl (fun _ => 0)))]) _ := hP
  have hD : va_D A ([(h, .inr (12, [.null, .int 0, .int 0, .int 0])), (q9, .inl (CA 101, x.2.2.1 + 16, .inl (fun _ => 0)))]) := hD
  refine lv_goto (tgt := 53) hx hb (by decide +kernel : decode prog_14_method_3_code 46 = .ok (.goto 7, 3)) (by decide) ?_
  refine va_put hx hb hts jSBin jSBty jSBok jSBnm hown hK hP hD hS 0 rfl jcl12 0 (by decide) (hts (.fieldLink "java/lang/AbstractStringBuilder" 15 "java/lang/AbstractStringBuilder" "value" "[B") (vm_hw_in (i := 900) (by decide +kernel))) (fun _ h => h) rfl (ty := .array .byte) rfl rfl rfl (Nat.le_of_ble_eq_true rfl) (by decide +kernel : decode prog_14_method_3_code 53 = .ok (.putfield 15, 3)) (fun H locs hP hD hS => ?_)
  have hP : va_P (dC, dI) vm_cls (jW CA h q9 0 (x.2.2.1 + 16) (fun _ => 0)) _ := hP
  have hD : va_D A (jW CA h q9 0 (x.2.2.1 + 16) (fun _ => 0)) := hD
  refine lv_aload_n hx hb (by decide +kernel : decode prog_14_method_3_code 56 = .ok (.aload_n 0, 1)) rfl (lv_at hl 3 rfl) ?_
  refine lv_aload_n hx hb (by decide +kernel : decode prog_14_method_3_code 57 = .ok (.aload_n 1, 1)) rfl (lv_at hl 4 rfl) ?_
  refine j_call (va_runU (b := h) (As := [.ref x.1]) (rest := []) ⟨hx, hb, hml, hown, hts⟩ (jm_sbS2 l dC dI CA A L x h q9 0 (x.2.2.1 + 16) (fun _ => 0) hxL hfx (by omega) (by omega) (by omega) sb_fit0) (va_cwO (owner := "java/lang/AbstractStringBuilder") (x := ⟨"java/lang/AbstractStringBuilder", "append", "(Ljava/lang/String;)Ljava/lang/AbstractStringBuilder;"⟩) 1 hts (jgO jk19 (vm_hw_in (i := 801) (by decide +kernel)) (vm_hw_in (i := 803) (by decide +kernel)) (vm_hw_in (i := 802) (by decide +kernel)) (vm_hw_in (i := 804) (by decide +kernel)) (vm_hw_in (i := 805) (by decide +kernel)) (vm_hw_in (i := 50) (by decide +kernel))) rfl rfl rfl jk17 (by decide +kernel) ⟨Nat.le_of_ble_eq_true rfl, Nat.le_of_ble_eq_true rfl⟩) ⟨jB.blind, va_recv hK hP jcl12 (show ((jW CA h q9 0 (x.2.2.1 + 16) (fun _ => 0) : va_W))[0]? = _ from rfl), fun U hU hW => ⟨rfl, jB.of hK hX hL hA hP hD hS hU hW⟩⟩ rfl rfl hl.1 rfl (lv_room (Nat.le_of_ble_eq_true rfl)) (by decide +kernel : decode prog_14_method_3_code 58 = .ok (.invokevirtual 43, 3)) ⟨by show (((0 + 0) + 0) + 1) + sb_k (0 + x.2.2.1) (x.2.2.1 + 16) ≤ 1; omega, by show (((0 + 0) + 0) + (x.2.2.1 + 16)) + sb_z (0 + x.2.2.1) (x.2.2.1 + 16) ≤ (x.2.2.1 + 16); omega⟩) hS (fun v ws H locs hR hP hD hS => ?_)
  obtain ⟨b1, f1, rfl, e9, hf1, hk1, hk2⟩ := hR
  rw [hcap, Nat.zero_add] at e9
  subst e9
  refine lv_pop hx hb (by decide +kernel : decode prog_14_method_3_code 61 = .ok (.pop, 1)) rfl ?_
  refine W.widen (show ((((0 + 0) + 0) + 1) + sb_k (0 + x.2.2.1) (x.2.2.1 + 16)) ≤ 1 by omega) (show ((((0 + 0) + 0) + (x.2.2.1 + 16)) + sb_z (0 + x.2.2.1) (x.2.2.1 + 16)) ≤ (x.2.2.1 + 16) by omega) ?_
  exact W.vret hx hb hr (fun t ht hW => ⟨_, _, ⟨b1, f1, rfl, rfl, hf1, fun j hj => by have := hk2 j hj; rwa [Nat.zero_add] at this⟩, rfl, by rw [ht]; exact hP, hD, hS.F ht⟩) hS.2.2 (by decide +kernel : decode prog_14_method_3_code 62 = .ok (.return_, 1))
theorem jk23 : Cond.code ⟨"java/lang/StringBuilder", "<init>", "(Ljava/lang/String;)V"⟩ prog_19_method_3_code 2 none ∈ vm_W := vm_code_in (vm_in4 (List.mem_of_getElem? (i := 28) (by rfl)))
set_option maxHeartbeats 4000000 in
theorem jm_sbInitS (l : Launch) (dC : Nat → ClassId) (dI : Nat → Nat → Nat) (CA : Nat → ClassId) (A : Nat → Prop) (L : jT) (x : Nat × Nat × Nat × (Nat → Int32)) (h : Nat) (hxL : x ∈ L) (hfx : sb_Fit x.2.2.2) (hq : x.2.2.1 ≤ 32700) : Met l ⟨"java/lang/StringBuilder", "<init>", "(Ljava/lang/String;)V"⟩ (Cond.code ⟨"java/lang/StringBuilder", "<init>", "(Ljava/lang/String;)V"⟩ prog_19_method_3_code 2 none :: vm_W) ({ frames := 8, cells := 1, slots := (x.2.2.1 + 16), locals := 320 }) (va_Pc [.ref h, .ref x.1] (jB dC dI CA A L [(h, .inr (12, [.null, .int 0, .int 0, .int 0]))])) (jE dC dI A (fun v ws => ∃ (b1 : Nat) (f1 : Nat → Int32), v = none ∧ ws = jW CA h b1 x.2.2.1 (x.2.2.1 + 16) f1 ∧ sb_Fit f1 ∧ ∀ j, j < x.2.2.1 → f1 j = x.2.2.2 j)) 1 ((x.2.2.1 + 16)) A := by
  refine Met.ofW (cc := prog_19_method_3_code) (maxL := 2) (ret := none) (by decide) rfl ?_
  intro p e s m args below meth c s₁ B hml hv
  obtain ⟨rfl, hK, hX, hL, hP, hD, hA⟩ := hv
  have hx := B.exec
  have hb := B.bytes
  have hr := B.returns
  have hts := vm_tsW (atoms_spec B.pre)
  have hown : s.vm.findClass "java/lang/StringBuilder" = some m.cls := findClass_of_methodNamed B.named
  have hlocks := B.notSynchronized
  have hnm : meth.name = "<init>" := (name_of_methodNamed B.named B.method).1
  have hS : va_S A s.heap s.heap [] := va_S.rf
  have hl := lv_entry ([.ref h, .ref x.1]) (n := 2) (Nat.le_of_ble_eq_true rfl)
  rw [lg_entry_eq]
  generalize (lg_sl ([.ref h, .ref x.1]) ++ List.replicate (2 - (lg_sl ([.ref h, .ref x.1])).length) Slot.unset).toArray = ls at hl ⊢
  have hl : lv_has ls 2 [(0, .ref h), (1, .ref x.1)] := hl
  refine lv_aload_n hx hb (by decide +kernel : decode prog_19_method_3_code 0 = .ok (.aload_n 0, 1)) rfl (lv_at hl 0 rfl) ?_
  refine lv_aload_n hx hb (by decide +kernel : decode prog_19_method_3_code 1 = .ok (.aload_n 1, 1)) rfl (lv_at hl 1 rfl) ?_
  refine j_call (va_runI (b := h) (As := [.ref x.1]) (rest := []) ⟨hx, hb, hml, hown, hts⟩ (jm_initS l dC dI CA A L x h hxL hfx hq) (cwI 1 hts (vm_gi (vm_ws_in jk22)) rfl rfl rfl (hts _ (vm_hw_in (i := 49) (by decide +kernel))) (hts _ (vm_hw_in (i := 786) (by decide +kernel))) (hts _ (vm_hw_in (i := 787) (by decide +kernel))) rfl (by decide +kernel) ⟨Nat.le_of_ble_eq_true rfl, Nat.le_of_ble_eq_true rfl⟩) ⟨jB.blind, fun U hU hW => ⟨rfl, jB.of hK hX hL hA hP hD hS hU hW⟩⟩ rfl rfl hl.1 rfl (lv_room (Nat.le_of_ble_eq_true rfl)) (by decide +kernel : decode prog_19_method_3_code 2 = .ok (.invokespecial 7, 3)) ⟨by show 0 + 1 ≤ 1; omega, by show 0 + x.2.2.1 + 16 ≤ (x.2.2.1 + 16); omega⟩) hS (fun v ws H locs hR hP hD hS => ?_)
  obtain ⟨b1, f1, rfl, rfl, hR⟩ := hR
  refine W.widen (show (0 + 1) ≤ 1 by omega) (show (0 + x.2.2.1 + 16) ≤ (x.2.2.1 + 16) by omega) ?_
  exact W.vret hx hb hr (fun t ht hW => ⟨_, _, ⟨b1, f1, rfl, rfl, hR⟩, rfl, by rw [ht]; exact hP, hD, hS.F ht⟩) hS.2.2 (by decide +kernel : decode prog_19_method_3_code 5 = .ok (.return_, 1))
