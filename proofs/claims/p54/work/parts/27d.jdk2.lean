/-! ===== append(char), how many digits ===== -/
theorem jk6 : Cond.code ⟨"java/lang/AbstractStringBuilder", "append", "(C)Ljava/lang/AbstractStringBuilder;"⟩ prog_14_method_31_code 2 (some (.object "java/lang/AbstractStringBuilder")) ∈ vm_W := vm_code_in (vm_in4 (List.mem_of_getElem? (i := 186) (by rfl)))
set_option maxHeartbeats 4000000 in
theorem jm_appC (l : Launch) (dC : Nat → ClassId) (dI : Nat → Nat → Nat) (CA : Nat → ClassId) (A : Nat → Prop) (L : jT) (h b n a0 c0 : Nat) (f : Nat → Int32) (ha : a0 ≤ 65536) (hn : n ≤ a0) (hq : n + 1 ≤ 65536) (hf : sb_Fit f) (hc : c0 < 256) : Met l ⟨"java/lang/AbstractStringBuilder", "append", "(C)Ljava/lang/AbstractStringBuilder;"⟩ (Cond.code ⟨"java/lang/AbstractStringBuilder", "append", "(C)Ljava/lang/AbstractStringBuilder;"⟩ prog_14_method_31_code 2 (some (.object "java/lang/AbstractStringBuilder")) :: vm_W) ({ frames := 4, cells := (sb_k (n + 1) a0), slots := (sb_z (n + 1) a0), locals := 160 }) (va_Pc [.ref h, .int (nI c0)] (jB dC dI CA A L (jW CA h b n a0 f))) (jE dC dI A (fun v ws => ∃ (b1 : Nat) (f1 : Nat → Int32), v = some (.ref h) ∧ ws = jW CA h b1 (n + 1) (sb_cap (n + 1) a0) f1 ∧ sb_Fit f1 ∧ (∀ j, j < n → f1 j = f j) ∧ f1 n = (nI c0).toInt8.toInt32)) ((sb_k (n + 1) a0)) ((sb_z (n + 1) a0)) A := by
  refine Met.ofW (cc := prog_14_method_31_code) (maxL := 2) (ret := (some (.object "java/lang/AbstractStringBuilder"))) (by decide) rfl ?_
  intro p e s m args below meth c s₁ B hml hv
  obtain ⟨rfl, hK, hX, hL, hP, hD, hA⟩ := hv
  have hx := B.exec
  have hb := B.bytes
  have hr := B.returns
  have hts := vm_tsW (atoms_spec B.pre)
  have hown : s.vm.findClass "java/lang/AbstractStringBuilder" = some m.cls := findClass_of_methodNamed B.named
  have hlocks := B.notSynchronized
  have hnm : meth.name = "append" := (name_of_methodNamed B.named B.method).1
  have hS : va_S A s.heap s.heap [] := va_S.rf
  have hl := lv_entry ([.ref h, .int (nI c0)]) (n := 2) (Nat.le_of_ble_eq_true rfl)
  rw [lg_entry_eq]
  generalize (lg_sl ([.ref h, .int (nI c0)]) ++ List.replicate (2 - (lg_sl ([.ref h, .int (nI c0)])).length) Slot.unset).toArray = ls at hl ⊢
  have hl : lv_has ls 2 [(0, .ref h), (1, .int (nI c0))] := hl
  have hcg := sb_cap_ge (n + 1) a0
  have hcm : sb_cap (n + 1) a0 < 2 ^ 30 := by unfold sb_cap; (repeat' split) <;> omega
  refine lv_aload_n hx hb (by decide +kernel : decode prog_14_method_31_code 0 = .ok (.aload_n 0, 1)) rfl (lv_at hl 0 rfl) ?_
  refine lv_aload_n hx hb (by decide +kernel : decode prog_14_method_31_code 1 = .ok (.aload_n 0, 1)) rfl (lv_at hl 0 rfl) ?_
  refine va_get hx hb hts jSBin hown hK hP 0 rfl jcl12 3 (by decide) (hts (.fieldLink "java/lang/AbstractStringBuilder" 79 "java/lang/AbstractStringBuilder" "count" "I") (vm_hw_in (i := 903) (by decide +kernel))) (fun _ h => h) (v := .int (nI n)) rfl (by decide +kernel : decode prog_14_method_31_code 2 = .ok (.getfield 79, 3)) ?_
  refine lv_iconst (v := 1) hx hb (by decide +kernel : decode prog_14_method_31_code 5 = .ok (.iconst 1, 1)) (by decide) ?_
  refine lv_iadd hx hb (by decide +kernel : decode prog_14_method_31_code 6 = .ok (.iadd, 1)) ?_
  refine jtop (nI (n + 1)) (nI_1 _) ?_
  refine j_call (va_runU (b := h) (As := [.int (nI (n + 1))]) (rest := []) ⟨hx, hb, hml, hown, hts⟩ (jm_ensure l dC dI CA A L h b n a0 (n + 1) f ha hq hf) (va_cwU (owner := "java/lang/AbstractStringBuilder") (x := ⟨"java/lang/AbstractStringBuilder", "ensureCapacityInternal", "(I)V"⟩) 1 hts (jgU jk5 (vm_hw_in (i := 818) (by decide +kernel)) (vm_hw_in (i := 1386) (by decide +kernel)) (vm_hw_in (i := 1393) (by decide +kernel)) (vm_hw_in (i := 820) (by decide +kernel)) (vm_hw_in (i := 49) (by decide +kernel))) rfl rfl rfl rfl (by decide +kernel) ⟨Nat.le_of_ble_eq_true rfl, Nat.le_of_ble_eq_true rfl⟩) ⟨jB.blind, va_recv hK hP jcl12 (show ((jW CA h b n a0 f : va_W))[0]? = _ from rfl), fun U hU hW => ⟨rfl, jB.of hK hX hL hA hP hD hS hU hW⟩⟩ rfl rfl hl.1 rfl (lv_room (Nat.le_of_ble_eq_true rfl)) (by decide +kernel : decode prog_14_method_31_code 7 = .ok (.invokevirtual 100, 3)) ⟨by show 0 + sb_k (n + 1) a0 ≤ (sb_k (n + 1) a0); omega, by show 0 + sb_z (n + 1) a0 ≤ (sb_z (n + 1) a0); omega⟩) hS (fun v ws H locs hR hP hD hS => ?_)
  obtain ⟨b1, f1, rfl, rfl, hf1, hk1⟩ := hR
  refine lv_aload_n hx hb (by decide +kernel : decode prog_14_method_31_code 10 = .ok (.aload_n 0, 1)) rfl (lv_at hl 0 rfl) ?_
  refine j_call (va_runU (b := h) (As := []) (rest := []) ⟨hx, hb, hml, hown, hts⟩ (jm_isLat l dC dI CA A L h (.ref b1) (.int (nI n)) _ rfl) (va_cwU (owner := "java/lang/AbstractStringBuilder") (x := ⟨"java/lang/AbstractStringBuilder", "isLatin1", "()Z"⟩) 0 hts (jgU jk0 (vm_hw_in (i := 846) (by decide +kernel)) (vm_hw_in (i := 848) (by decide +kernel)) (vm_hw_in (i := 849) (by decide +kernel)) (vm_hw_in (i := 847) (by decide +kernel)) (vm_hw_in (i := 49) (by decide +kernel))) rfl rfl rfl rfl (by decide +kernel) ⟨Nat.le_of_ble_eq_true rfl, Nat.le_of_ble_eq_true rfl⟩) ⟨jB.blind, va_recv hK hP jcl12 (show ((jW CA h b1 n (sb_cap (n + 1) a0) f1 : va_W))[0]? = _ from rfl), fun U hU hW => ⟨rfl, jB.of hK hX hL hA hP hD hS hU hW⟩⟩ rfl rfl hl.1 rfl (lv_room (Nat.le_of_ble_eq_true rfl)) (by decide +kernel : decode prog_14_method_31_code 11 = .ok (.invokevirtual 83, 3)) ⟨by show (0 + sb_k (n + 1) a0) + 0 ≤ (sb_k (n + 1) a0); omega, by show (0 + sb_z (n + 1) a0) + 0 ≤ (sb_z (n + 1) a0); omega⟩) hS (fun v ws H locs hR hP hD hS => ?_)
  obtain ⟨rfl, rfl⟩ := hR
  refine lv_if_eq (tgt := 45) hx hb (by decide +kernel : decode prog_14_method_31_code 14 = .ok (.ifCond .eq 31, 3)) (by decide) (fun z9 => absurd z9 (by decide)) (fun _ => ?_)
  refine lv_iload_n hx hb (by decide +kernel : decode prog_14_method_31_code 17 = .ok (.iload_n 1, 1)) rfl (lv_at hl 1 rfl) ?_
  refine j_call (va_runS (As := [.int (nI c0)]) (rest := []) ⟨hx, hb, hml, hown, hts⟩ (jm_canEnc l dC dI CA A L c0 _ hc) (va_cwS 1 hts (vm_gS jk1 (vm_hw_in (i := 944) (by decide +kernel)) (vm_hw_in (i := 945) (by decide +kernel)) (vm_hw_in (i := 58) (by decide +kernel))) rfl rfl rfl (by decide +kernel) ⟨Nat.le_of_ble_eq_true rfl, Nat.le_of_ble_eq_true rfl⟩) ⟨jB.blind, fun U hU hW => ⟨rfl, jB.of hK hX hL hA hP hD hS hU hW⟩⟩ rfl rfl hl.1 rfl (lv_room (Nat.le_of_ble_eq_true rfl)) (by decide +kernel : decode prog_14_method_31_code 18 = .ok (.invokestatic 191, 3)) ⟨by show ((0 + sb_k (n + 1) a0) + 0) + 0 ≤ (sb_k (n + 1) a0); omega, by show ((0 + sb_z (n + 1) a0) + 0) + 0 ≤ (sb_z (n + 1) a0); omega⟩) hS (fun v ws H locs hR hP hD hS => ?_)
  obtain ⟨rfl, rfl⟩ := hR
  refine lv_if_eq (tgt := 45) hx hb (by decide +kernel : decode prog_14_method_31_code 21 = .ok (.ifCond .eq 24, 3)) (by decide) (fun z9 => absurd z9 (by decide)) (fun _ => ?_)
  refine lv_aload_n hx hb (by decide +kernel : decode prog_14_method_31_code 24 = .ok (.aload_n 0, 1)) rfl (lv_at hl 0 rfl) ?_
  refine va_get hx hb hts jSBin hown hK hP 0 rfl jcl12 0 (by decide) (hts (.fieldLink "java/lang/AbstractStringBuilder" 15 "java/lang/AbstractStringBuilder" "value" "[B") (vm_hw_in (i := 900) (by decide +kernel))) (fun _ h => h) (v := .ref b1) rfl (by decide +kernel : decode prog_14_method_31_code 25 = .ok (.getfield 15, 3)) ?_
  refine lv_aload_n hx hb (by decide +kernel : decode prog_14_method_31_code 28 = .ok (.aload_n 0, 1)) rfl (lv_at hl 0 rfl) ?_
  refine lv_dup hx hb (by decide +kernel : decode prog_14_method_31_code 29 = .ok (.dup, 1)) rfl ?_
  refine va_get hx hb hts jSBin hown hK hP 0 rfl jcl12 3 (by decide) (hts (.fieldLink "java/lang/AbstractStringBuilder" 79 "java/lang/AbstractStringBuilder" "count" "I") (vm_hw_in (i := 903) (by decide +kernel))) (fun _ h => h) (v := .int (nI n)) rfl (by decide +kernel : decode prog_14_method_31_code 30 = .ok (.getfield 79, 3)) ?_
  refine lv_dup_x1 hx hb (by decide +kernel : decode prog_14_method_31_code 33 = .ok (.dup_x1, 1)) rfl rfl ?_
  refine lv_iconst (v := 1) hx hb (by decide +kernel : decode prog_14_method_31_code 34 = .ok (.iconst 1, 1)) (by decide) ?_
  refine lv_iadd hx hb (by decide +kernel : decode prog_14_method_31_code 35 = .ok (.iadd, 1)) ?_
  refine jtop (nI (n + 1)) (nI_1 _) ?_
  refine va_put hx hb hts jSBin jSBty jSBok jSBnm hown hK hP hD hS 0 rfl jcl12 3 (by decide) (hts (.fieldLink "java/lang/AbstractStringBuilder" 79 "java/lang/AbstractStringBuilder" "count" "I") (vm_hw_in (i := 903) (by decide +kernel))) (fun _ h => h) rfl (ty := .int) rfl rfl rfl (Nat.le_of_ble_eq_true rfl) (by decide +kernel : decode prog_14_method_31_code 36 = .ok (.putfield 79, 3)) (fun H locs hP hD hS => ?_)
  have hP : va_P (dC, dI) vm_cls ([(h, .inr (12, [.ref b1, .int 0, .int 0, .int (nI (n + 1))])), (b1, .inl (CA 101, sb_cap (n + 1) a0, .inl f1))]) _ := hP
  have hD : va_D A ([(h, .inr (12, [.ref b1, .int 0, .int 0, .int (nI (n + 1))])), (b1, .inl (CA 101, sb_cap (n + 1) a0, .inl f1))]) := hD
  refine lv_iload_n hx hb (by decide +kernel : decode prog_14_method_31_code 39 = .ok (.iload_n 1, 1)) rfl (lv_at hl 1 rfl) ?_
  refine lv_i2b (v := (nI c0).toInt8.toInt32) hx hb (by decide +kernel : decode prog_14_method_31_code 40 = .ok (.i2b, 1)) rfl ?_
  refine va_bast hx hb hK hP hD hS 1 1 rfl rfl (vp_in_nI (n := n) (by omega) (by omega)) (by decide +kernel : decode prog_14_method_31_code 41 = .ok (.bastore, 1)) (fun H locs hP hD hS => ?_)
  rw [nI_clamp (n := n) (by omega), pk_vb] at hP hD
  refine lv_goto (tgt := 75) hx hb (by decide +kernel : decode prog_14_method_31_code 42 = .ok (.goto 33, 3)) (by decide) ?_
  refine lv_aload_n hx hb (by decide +kernel : decode prog_14_method_31_code 75 = .ok (.aload_n 0, 1)) rfl (lv_at hl 0 rfl) ?_
  refine W.widen (show (((0 + sb_k (n + 1) a0) + 0) + 0) ≤ (sb_k (n + 1) a0) by omega) (show (((0 + sb_z (n + 1) a0) + 0) + 0) ≤ (sb_z (n + 1) a0) by omega) ?_
  exact W.aret hx hb hr (Or.inl ⟨_, rfl⟩) (Or.inr ⟨_, rfl⟩) (fun t ht hW => ⟨_, _, ⟨b1, _, rfl, rfl, sb_fitU hf1 (pk_fb _), fun j hj => by rw [pk_un (by omega)]; exact hk1 j (by omega), pk_us⟩, rfl, by rw [ht]; exact hP, hD, hS.F ht⟩) hS.2.2 (by decide +kernel : decode prog_14_method_31_code 76 = .ok (.areturn, 1))
theorem jk7 : Cond.code ⟨"java/lang/StringBuilder", "append", "(C)Ljava/lang/StringBuilder;"⟩ prog_19_method_14_code 2 (some (.object "java/lang/StringBuilder")) ∈ vm_W := vm_code_in (vm_in4 (List.mem_of_getElem? (i := 183) (by rfl)))
set_option maxHeartbeats 4000000 in
theorem jm_sbC (l : Launch) (dC : Nat → ClassId) (dI : Nat → Nat → Nat) (CA : Nat → ClassId) (A : Nat → Prop) (L : jT) (h b n a0 c0 : Nat) (f : Nat → Int32) (ha : a0 ≤ 65536) (hn : n ≤ a0) (hq : n + 1 ≤ 65536) (hf : sb_Fit f) (hc : c0 < 256) : Met l ⟨"java/lang/StringBuilder", "append", "(C)Ljava/lang/StringBuilder;"⟩ (Cond.code ⟨"java/lang/StringBuilder", "append", "(C)Ljava/lang/StringBuilder;"⟩ prog_19_method_14_code 2 (some (.object "java/lang/StringBuilder")) :: vm_W) ({ frames := 5, cells := (sb_k (n + 1) a0), slots := (sb_z (n + 1) a0), locals := 200 }) (va_Pc [.ref h, .int (nI c0)] (jB dC dI CA A L (jW CA h b n a0 f))) (jE dC dI A (fun v ws => ∃ (b1 : Nat) (f1 : Nat → Int32), v = some (.ref h) ∧ ws = jW CA h b1 (n + 1) (sb_cap (n + 1) a0) f1 ∧ sb_Fit f1 ∧ (∀ j, j < n → f1 j = f j) ∧ f1 n = (nI c0).toInt8.toInt32)) ((sb_k (n + 1) a0)) ((sb_z (n + 1) a0)) A := by
  refine Met.ofW (cc := prog_19_method_14_code) (maxL := 2) (ret := (some (.object "java/lang/StringBuilder"))) (by decide) rfl ?_
  intro p e s m args below meth c s₁ B hml hv
  obtain ⟨rfl, hK, hX, hL, hP, hD, hA⟩ := hv
  have hx := B.exec
  have hb := B.bytes
  have hr := B.returns
  have hts := vm_tsW (atoms_spec B.pre)
  have hown : s.vm.findClass "java/lang/StringBuilder" = some m.cls := findClass_of_methodNamed B.named
  have hlocks := B.notSynchronized
  have hnm : meth.name = "append" := (name_of_methodNamed B.named B.method).1
  have hS : va_S A s.heap s.heap [] := va_S.rf
  have hl := lv_entry ([.ref h, .int (nI c0)]) (n := 2) (Nat.le_of_ble_eq_true rfl)
  rw [lg_entry_eq]
  generalize (lg_sl ([.ref h, .int (nI c0)]) ++ List.replicate (2 - (lg_sl ([.ref h, .int (nI c0)])).length) Slot.unset).toArray = ls at hl ⊢
  have hl : lv_has ls 2 [(0, .ref h), (1, .int (nI c0))] := hl
  refine lv_aload_n hx hb (by decide +kernel : decode prog_19_method_14_code 0 = .ok (.aload_n 0, 1)) rfl (lv_at hl 0 rfl) ?_
  refine lv_iload_n hx hb (by decide +kernel : decode prog_19_method_14_code 1 = .ok (.iload_n 1, 1)) rfl (lv_at hl 1 rfl) ?_
  refine j_call (va_runSU (C := "java/lang/StringBuilder") (b := h) (As := [.int (nI c0)]) (rest := []) (hK.1 12 _ jcl12).2 ⟨hx, hb, hml, hown, hts⟩ (jm_appC l dC dI CA A L h b n a0 c0 f ha hn hq hf hc) (va_cwSU 1 hts (jgSU jk6 (vm_hw_in (i := 941) (by decide +kernel)) (vm_hw_in (i := 1392) (by decide +kernel)) (vm_hw_in (i := 812) (by decide +kernel)) (vm_hw_in (i := 942) (by decide +kernel)) (vm_hw_in (i := 49) (by decide +kernel))) rfl rfl rfl (by decide +kernel) ⟨Nat.le_of_ble_eq_true rfl, Nat.le_of_ble_eq_true rfl⟩) ⟨jB.blind, va_recv hK hP jcl12 (show ((jW CA h b n a0 f : va_W))[0]? = _ from rfl), fun U hU hW => ⟨rfl, jB.of hK hX hL hA hP hD hS hU hW⟩⟩ rfl rfl hl.1 rfl (lv_room (Nat.le_of_ble_eq_true rfl)) (by decide +kernel : decode prog_19_method_14_code 2 = .ok (.invokespecial 50, 3)) ⟨by show 0 + sb_k (n + 1) a0 ≤ (sb_k (n + 1) a0); omega, by show 0 + sb_z (n + 1) a0 ≤ (sb_z (n + 1) a0); omega⟩) hS (fun v ws H locs hR hP hD hS => ?_)
  obtain ⟨b1, f1, rfl, rfl, hR⟩ := hR
  refine lv_pop hx hb (by decide +kernel : decode prog_19_method_14_code 5 = .ok (.pop, 1)) rfl ?_
  refine lv_aload_n hx hb (by decide +kernel : decode prog_19_method_14_code 6 = .ok (.aload_n 0, 1)) rfl (lv_at hl 0 rfl) ?_
  refine W.widen (show (0 + sb_k (n + 1) a0) ≤ (sb_k (n + 1) a0) by omega) (show (0 + sb_z (n + 1) a0) ≤ (sb_z (n + 1) a0) by omega) ?_
  exact W.aret hx hb hr (Or.inl ⟨_, rfl⟩) (Or.inr ⟨_, rfl⟩) (fun t ht hW => ⟨_, _, ⟨b1, f1, rfl, rfl, hR⟩, rfl, by rw [ht]; exact hP, hD, hS.F ht⟩) hS.2.2 (by decide +kernel : decode prog_19_method_14_code 7 = .ok (.areturn, 1))
theorem jk8 : Cond.code ⟨"java/lang/Integer", "stringSize", "(I)I"⟩ prog_16_method_13_code 4 (some .int) ∈ vm_W := vm_code_in (vm_in4 (List.mem_of_getElem? (i := 164) (by rfl)))
set_option maxHeartbeats 4000000 in
theorem jm_size (l : Launch) (dC : Nat → ClassId) (dI : Nat → Nat → Nat) (CA : Nat → ClassId) (A : Nat → Prop) (L : jT) (x : Nat) (w0 : va_W) (hv : x < 10000000) : Met l ⟨"java/lang/Integer", "stringSize", "(I)I"⟩ (Cond.code ⟨"java/lang/Integer", "stringSize", "(I)I"⟩ prog_16_method_13_code 4 (some .int) :: vm_W) ({ frames := 0, cells := 0, slots := 0, locals := 0 }) (va_Pc [.int (nI x)] (jB dC dI CA A L w0)) (jE dC dI A (fun v ws => v = some (.int (nI (sb_dg x))) ∧ ws = w0)) 0 0 A := by
  refine Met.ofW (cc := prog_16_method_13_code) (maxL := 4) (ret := (some .int)) (by decide) rfl ?_
  intro p e s m args below meth c s₁ B hml hv
  obtain ⟨rfl, hK, hX, hL, hP, hD, hA⟩ := hv
  have hx := B.exec
  have hb := B.bytes
  have hr := B.returns
  have hts := vm_tsW (atoms_spec B.pre)
  have hown : s.vm.findClass "java/lang/Integer" = some m.cls := findClass_of_methodNamed B.named
  have hlocks := B.notSynchronized
  have hnm : meth.name = "stringSize" := (name_of_methodNamed B.named B.method).1
  have hS : va_S A s.heap s.heap [] := va_S.rf
  have hl := lv_entry ([.int (nI x)]) (n := 4) (Nat.le_of_ble_eq_true rfl)
  rw [lg_entry_eq]
  generalize (lg_sl ([.int (nI x)]) ++ List.replicate (4 - (lg_sl ([.int (nI x)])).length) Slot.unset).toArray = ls at hl ⊢
  have hl : lv_has ls 4 [(0, .int (nI x))] := hl
  refine lv_iconst (v := 1) hx hb (by decide +kernel : decode prog_16_method_13_code 0 = .ok (.iconst 1, 1)) (by decide) ?_
  refine lv_istore_n (lv' := [(1, .int 1), (0, .int (nI x))]) hx hb (by decide +kernel : decode prog_16_method_13_code 1 = .ok (.istore_n 1, 1)) rfl hl (by decide) rfl (fun ls hl => ?_)
  refine lv_iload_n hx hb (by decide +kernel : decode prog_16_method_13_code 2 = .ok (.iload_n 0, 1)) rfl (lv_at hl 1 rfl) ?_
  refine lv_if_lt (tgt := 11) hx hb (by decide +kernel : decode prog_16_method_13_code 3 = .ok (.ifCond .lt 8, 3)) (by decide) (fun z9 => absurd z9 (nI_pos (by omega))) (fun _ => ?_)
  refine lv_iconst (v := 0) hx hb (by decide +kernel : decode prog_16_method_13_code 6 = .ok (.iconst 0, 1)) (by decide) ?_
  refine lv_istore_n (lv' := [(1, .int 0), (0, .int (nI x))]) hx hb (by decide +kernel : decode prog_16_method_13_code 7 = .ok (.istore_n 1, 1)) rfl hl (by decide) rfl (fun ls hl => ?_)
  refine lv_iload_n hx hb (by decide +kernel : decode prog_16_method_13_code 8 = .ok (.iload_n 0, 1)) rfl (lv_at hl 1 rfl) ?_
  refine lv_ineg hx hb (by decide +kernel : decode prog_16_method_13_code 9 = .ok (.ineg, 1)) ?_
  refine lv_istore_n (lv' := [(0, .int (-nI x)), (1, .int 0)]) hx hb (by decide +kernel : decode prog_16_method_13_code 10 = .ok (.istore_n 0, 1)) rfl hl (by decide) rfl (fun ls hl => ?_)
  refine lv_bipush (v := (-10)) hx hb (by decide +kernel : decode prog_16_method_13_code 11 = .ok (.bipush (-10), 2)) (by decide) ?_
  refine lv_istore_n (lv' := [(2, .int (-10)), (0, .int (-nI x)), (1, .int 0)]) hx hb (by decide +kernel : decode prog_16_method_13_code 13 = .ok (.istore_n 2, 1)) rfl hl (by decide) rfl (fun ls hl => ?_)
  refine lv_iconst (v := 1) hx hb (by decide +kernel : decode prog_16_method_13_code 14 = .ok (.iconst 1, 1)) (by decide) ?_
  refine lv_istore_n (lv' := [(3, .int 1), (2, .int (-10)), (0, .int (-nI x)), (1, .int 0)]) hx hb (by decide +kernel : decode prog_16_method_13_code 15 = .ok (.istore_n 3, 1)) rfl hl (by decide) rfl (fun ls hl => ?_)
  refine lv_iload_n hx hb (by decide +kernel : decode prog_16_method_13_code 16 = .ok (.iload_n 3, 1)) rfl (lv_at hl 0 rfl) ?_
  refine lv_bipush (v := 10) hx hb (by decide +kernel : decode prog_16_method_13_code 17 = .ok (.bipush 10, 2)) (by decide) ?_
  refine lv_icmp_ge (tgt := 42) hx hb (by decide +kernel : decode prog_16_method_13_code 19 = .ok (.if_icmp .ge 23, 3)) (by decide) (fun z9 => absurd z9 (by decide)) (fun _ => ?_)
  refine lv_iload_n hx hb (by decide +kernel : decode prog_16_method_13_code 22 = .ok (.iload_n 0, 1)) rfl (lv_at hl 2 rfl) ?_
  refine lv_iload_n hx hb (by decide +kernel : decode prog_16_method_13_code 23 = .ok (.iload_n 2, 1)) rfl (lv_at hl 1 rfl) ?_
  by_cases h1 : x < 10
  · skip
    refine lv_icmp_le (tgt := 31) hx hb (by decide +kernel : decode prog_16_method_13_code 24 = .ok (.if_icmp .le 7, 3)) (by decide) (fun z9 => absurd z9 (fun z => absurd ((sb_nle (a := x) (b := 10) (by omega) (by decide)).mp z) (by omega))) (fun _ => ?_)
    refine lv_iload_n hx hb (by decide +kernel : decode prog_16_method_13_code 27 = .ok (.iload_n 3, 1)) rfl (lv_at hl 0 rfl) ?_
    refine lv_iload_n hx hb (by decide +kernel : decode prog_16_method_13_code 28 = .ok (.iload_n 1, 1)) rfl (lv_at hl 3 rfl) ?_
    refine lv_iadd hx hb (by decide +kernel : decode prog_16_method_13_code 29 = .ok (.iadd, 1)) ?_
    refine jtop (nI 1) (by decide) ?_
    refine W.widen (show 0 ≤ 0 by omega) (show 0 ≤ 0 by omega) ?_
    exact W.iret hx hb hr (fun t ht hW => ⟨_, _, ⟨by rw [show sb_dg x = 1 by unfold sb_dg; (repeat' split) <;> omega], rfl⟩, rfl, by rw [ht]; exact hP, hD, hS.F ht⟩) hS.2.2 (by decide +kernel : decode prog_16_method_13_code 30 = .ok (.ireturn, 1))
  · skip
    refine lv_icmp_le (tgt := 31) hx hb (by decide +kernel : decode prog_16_method_13_code 24 = .ok (.if_icmp .le 7, 3)) (by decide) (fun _ => ?_) (fun z9 => absurd ((sb_nle (a := x) (b := 10) (by omega) (by decide)).mpr (by omega)) z9)
    refine lv_bipush (v := 10) hx hb (by decide +kernel : decode prog_16_method_13_code 31 = .ok (.bipush 10, 2)) (by decide) ?_
    refine lv_iload_n hx hb (by decide +kernel : decode prog_16_method_13_code 33 = .ok (.iload_n 2, 1)) rfl (lv_at hl 1 rfl) ?_
    refine lv_imul hx hb (by decide +kernel : decode prog_16_method_13_code 34 = .ok (.imul, 1)) ?_
    refine jtop ((-100)) (by decide) ?_
    refine lv_istore_n (lv' := [(2, .int ((-100))), (3, .int 1), (0, .int (-nI x)), (1, .int 0)]) hx hb (by decide +kernel : decode prog_16_method_13_code 35 = .ok (.istore_n 2, 1)) rfl hl (by decide) rfl (fun ls hl => ?_)
    refine lv_iinc (v := 2) (lv' := [(3, .int 2), (2, .int ((-100))), (0, .int (-nI x)), (1, .int 0)]) hx hb (by decide +kernel : decode prog_16_method_13_code 36 = .ok (.iinc 3 1, 3)) hl (k := 1) rfl (by decide) (by decide) rfl (fun ls hl => ?_)
    refine lv_goto (tgt := 16) hx hb (by decide +kernel : decode prog_16_method_13_code 39 = .ok (.goto (-23), 3)) (by decide) ?_
    refine lv_iload_n hx hb (by decide +kernel : decode prog_16_method_13_code 16 = .ok (.iload_n 3, 1)) rfl (lv_at hl 0 rfl) ?_
    refine lv_bipush (v := 10) hx hb (by decide +kernel : decode prog_16_method_13_code 17 = .ok (.bipush 10, 2)) (by decide) ?_
    refine lv_icmp_ge (tgt := 42) hx hb (by decide +kernel : decode prog_16_method_13_code 19 = .ok (.if_icmp .ge 23, 3)) (by decide) (fun z9 => absurd z9 (by decide)) (fun _ => ?_)
    refine lv_iload_n hx hb (by decide +kernel : decode prog_16_method_13_code 22 = .ok (.iload_n 0, 1)) rfl (lv_at hl 2 rfl) ?_
    refine lv_iload_n hx hb (by decide +kernel : decode prog_16_method_13_code 23 = .ok (.iload_n 2, 1)) rfl (lv_at hl 1 rfl) ?_
    by_cases h2 : x < 100
    · skip
      refine lv_icmp_le (tgt := 31) hx hb (by decide +kernel : decode prog_16_method_13_code 24 = .ok (.if_icmp .le 7, 3)) (by decide) (fun z9 => absurd z9 (fun z => absurd ((sb_nle (a := x) (b := 100) (by omega) (by decide)).mp z) (by omega))) (fun _ => ?_)
      refine lv_iload_n hx hb (by decide +kernel : decode prog_16_method_13_code 27 = .ok (.iload_n 3, 1)) rfl (lv_at hl 0 rfl) ?_
      refine lv_iload_n hx hb (by decide +kernel : decode prog_16_method_13_code 28 = .ok (.iload_n 1, 1)) rfl (lv_at hl 3 rfl) ?_
      refine lv_iadd hx hb (by decide +kernel : decode prog_16_method_13_code 29 = .ok (.iadd, 1)) ?_
      refine jtop (nI 2) (by decide) ?_
      refine W.widen (show 0 ≤ 0 by omega) (show 0 ≤ 0 by omega) ?_
      exact W.iret hx hb hr (fun t ht hW => ⟨_, _, ⟨by rw [show sb_dg x = 2 by unfold sb_dg; (repeat' split) <;> omega], rfl⟩, rfl, by rw [ht]; exact hP, hD, hS.F ht⟩) hS.2.2 (by decide +kernel : decode prog_16_method_13_code 30 = .ok (.ireturn, 1))
    · skip
      refine lv_icmp_le (tgt := 31) hx hb (by decide +kernel : decode prog_16_method_13_code 24 = .ok (.if_icmp .le 7, 3)) (by decide) (fun _ => ?_) (fun z9 => absurd ((sb_nle (a := x) (b := 100) (by omega) (by decide)).mpr (by omega)) z9)
      refine lv_bipush (v := 10) hx hb (by decide +kernel : decode prog_16_method_13_code 31 = .ok (.bipush 10, 2)) (by decide) ?_
      refine lv_iload_n hx hb (by decide +kernel : decode prog_16_method_13_code 33 = .ok (.iload_n 2, 1)) rfl (lv_at hl 1 rfl) ?_
      refine lv_imul hx hb (by decide +kernel : decode prog_16_method_13_code 34 = .ok (.imul, 1)) ?_
      refine jtop ((-1000)) (by decide) ?_
      refine lv_istore_n (lv' := [(2, .int ((-1000))), (3, .int 2), (0, .int (-nI x)), (1, .int 0)]) hx hb (by decide +kernel : decode prog_16_method_13_code 35 = .ok (.istore_n 2, 1)) rfl hl (by decide) rfl (fun ls hl => ?_)
      refine lv_iinc (v := 3) (lv' := [(3, .int 3), (2, .int ((-1000))), (0, .int (-nI x)), (1, .int 0)]) hx hb (by decide +kernel : decode prog_16_method_13_code 36 = .ok (.iinc 3 1, 3)) hl (k := 1) rfl (by decide) (by decide) rfl (fun ls hl => ?_)
      refine lv_goto (tgt := 16) hx hb (by decide +kernel : decode prog_16_method_13_code 39 = .ok (.goto (-23), 3)) (by decide) ?_
      refine lv_iload_n hx hb (by decide +kernel : decode prog_16_method_13_code 16 = .ok (.iload_n 3, 1)) rfl (lv_at hl 0 rfl) ?_
      refine lv_bipush (v := 10) hx hb (by decide +kernel : decode prog_16_method_13_code 17 = .ok (.bipush 10, 2)) (by decide) ?_
      refine lv_icmp_ge (tgt := 42) hx hb (by decide +kernel : decode prog_16_method_13_code 19 = .ok (.if_icmp .ge 23, 3)) (by decide) (fun z9 => absurd z9 (by decide)) (fun _ => ?_)
      refine lv_iload_n hx hb (by decide +kernel : decode prog_16_method_13_code 22 = .ok (.iload_n 0, 1)) rfl (lv_at hl 2 rfl) ?_
      refine lv_iload_n hx hb (by decide +kernel : decode prog_16_method_13_code 23 = .ok (.iload_n 2, 1)) rfl (lv_at hl 1 rfl) ?_
      by_cases h3 : x < 1000
      · skip
        refine lv_icmp_le (tgt := 31) hx hb (by decide +kernel : decode prog_16_method_13_code 24 = .ok (.if_icmp .le 7, 3)) (by decide) (fun z9 => absurd z9 (fun z => absurd ((sb_nle (a := x) (b := 1000) (by omega) (by decide)).mp z) (by omega))) (fun _ => ?_)
        refine lv_iload_n hx hb (by decide +kernel : decode prog_16_method_13_code 27 = .ok (.iload_n 3, 1)) rfl (lv_at hl 0 rfl) ?_
        refine lv_iload_n hx hb (by decide +kernel : decode prog_16_method_13_code 28 = .ok (.iload_n 1, 1)) rfl (lv_at hl 3 rfl) ?_
        refine lv_iadd hx hb (by decide +kernel : decode prog_16_method_13_code 29 = .ok (.iadd, 1)) ?_
        refine jtop (nI 3) (by decide) ?_
        refine W.widen (show 0 ≤ 0 by omega) (show 0 ≤ 0 by omega) ?_
        exact W.iret hx hb hr (fun t ht hW => ⟨_, _, ⟨by rw [show sb_dg x = 3 by unfold sb_dg; (repeat' split) <;> omega], rfl⟩, rfl, by rw [ht]; exact hP, hD, hS.F ht⟩) hS.2.2 (by decide +kernel : decode prog_16_method_13_code 30 = .ok (.ireturn, 1))
      · skip
        refine lv_icmp_le (tgt := 31) hx hb (by decide +kernel : decode prog_16_method_13_code 24 = .ok (.if_icmp .le 7, 3)) (by decide) (fun _ => ?_) (fun z9 => absurd ((sb_nle (a := x) (b := 1000) (by omega) (by decide)).mpr (by omega)) z9)
        refine lv_bipush (v := 10) hx hb (by decide +kernel : decode prog_16_method_13_code 31 = .ok (.bipush 10, 2)) (by decide) ?_
        refine lv_iload_n hx hb (by decide +kernel : decode prog_16_method_13_code 33 = .ok (.iload_n 2, 1)) rfl (lv_at hl 1 rfl) ?_
        refine lv_imul hx hb (by decide +kernel : decode prog_16_method_13_code 34 = .ok (.imul, 1)) ?_
        refine jtop ((-10000)) (by decide) ?_
        refine lv_istore_n (lv' := [(2, .int ((-10000))), (3, .int 3), (0, .int (-nI x)), (1, .int 0)]) hx hb (by decide +kernel : decode prog_16_method_13_code 35 = .ok (.istore_n 2, 1)) rfl hl (by decide) rfl (fun ls hl => ?_)
        refine lv_iinc (v := 4) (lv' := [(3, .int 4), (2, .int ((-10000))), (0, .int (-nI x)), (1, .int 0)]) hx hb (by decide +kernel : decode prog_16_method_13_code 36 = .ok (.iinc 3 1, 3)) hl (k := 1) rfl (by decide) (by decide) rfl (fun ls hl => ?_)
        refine lv_goto (tgt := 16) hx hb (by decide +kernel : decode prog_16_method_13_code 39 = .ok (.goto (-23), 3)) (by decide) ?_
        refine lv_iload_n hx hb (by decide +kernel : decode prog_16_method_13_code 16 = .ok (.iload_n 3, 1)) rfl (lv_at hl 0 rfl) ?_
        refine lv_bipush (v := 10) hx hb (by decide +kernel : decode prog_16_method_13_code 17 = .ok (.bipush 10, 2)) (by decide) ?_
        refine lv_icmp_ge (tgt := 42) hx hb (by decide +kernel : decode prog_16_method_13_code 19 = .ok (.if_icmp .ge 23, 3)) (by decide) (fun z9 => absurd z9 (by decide)) (fun _ => ?_)
        refine lv_iload_n hx hb (by decide +kernel : decode prog_16_method_13_code 22 = .ok (.iload_n 0, 1)) rfl (lv_at hl 2 rfl) ?_
        refine lv_iload_n hx hb (by decide +kernel : decode prog_16_method_13_code 23 = .ok (.iload_n 2, 1)) rfl (lv_at hl 1 rfl) ?_
        by_cases h4 : x < 10000
        · skip
          refine lv_icmp_le (tgt := 31) hx hb (by decide +kernel : decode prog_16_method_13_code 24 = .ok (.if_icmp .le 7, 3)) (by decide) (fun z9 => absurd z9 (fun z => absurd ((sb_nle (a := x) (b := 10000) (by omega) (by decide)).mp z) (by omega))) (fun _ => ?_)
          refine lv_iload_n hx hb (by decide +kernel : decode prog_16_method_13_code 27 = .ok (.iload_n 3, 1)) rfl (lv_at hl 0 rfl) ?_
          refine lv_iload_n hx hb (by decide +kernel : decode prog_16_method_13_code 28 = .ok (.iload_n 1, 1)) rfl (lv_at hl 3 rfl) ?_
          refine lv_iadd hx hb (by decide +kernel : decode prog_16_method_13_code 29 = .ok (.iadd, 1)) ?_
          refine jtop (nI 4) (by decide) ?_
          refine W.widen (show 0 ≤ 0 by omega) (show 0 ≤ 0 by omega) ?_
          exact W.iret hx hb hr (fun t ht hW => ⟨_, _, ⟨by rw [show sb_dg x = 4 by unfold sb_dg; (repeat' split) <;> omega], rfl⟩, rfl, by rw [ht]; exact hP, hD, hS.F ht⟩) hS.2.2 (by decide +kernel : decode prog_16_method_13_code 30 = .ok (.ireturn, 1))
        · skip
          refine lv_icmp_le (tgt := 31) hx hb (by decide +kernel : decode prog_16_method_13_code 24 = .ok (.if_icmp .le 7, 3)) (by decide) (fun _ => ?_) (fun z9 => absurd ((sb_nle (a := x) (b := 10000) (by omega) (by decide)).mpr (by omega)) z9)
          refine lv_bipush (v := 10) hx hb (by decide +kernel : decode prog_16_method_13_code 31 = .ok (.bipush 10, 2)) (by decide) ?_
          refine lv_iload_n hx hb (by decide +kernel : decode prog_16_method_13_code 33 = .ok (.iload_n 2, 1)) rfl (lv_at hl 1 rfl) ?_
          refine lv_imul hx hb (by decide +kernel : decode prog_16_method_13_code 34 = .ok (.imul, 1)) ?_
          refine jtop ((-100000)) (by decide) ?_
          refine lv_istore_n (lv' := [(2, .int ((-100000))), (3, .int 4), (0, .int (-nI x)), (1, .int 0)]) hx hb (by decide +kernel : decode prog_16_method_13_code 35 = .ok (.istore_n 2, 1)) rfl hl (by decide) rfl (fun ls hl => ?_)
          refine lv_iinc (v := 5) (lv' := [(3, .int 5), (2, .int ((-100000))), (0, .int (-nI x)), (1, .int 0)]) hx hb (by decide +kernel : decode prog_16_method_13_code 36 = .ok (.iinc 3 1, 3)) hl (k := 1) rfl (by decide) (by decide) rfl (fun ls hl => ?_)
          refine lv_goto (tgt := 16) hx hb (by decide +kernel : decode prog_16_method_13_code 39 = .ok (.goto (-23), 3)) (by decide) ?_
          refine lv_iload_n hx hb (by decide +kernel : decode prog_16_method_13_code 16 = .ok (.iload_n 3, 1)) rfl (lv_at hl 0 rfl) ?_
          refine lv_bipush (v := 10) hx hb (by decide +kernel : decode prog_16_method_13_code 17 = .ok (.bipush 10, 2)) (by decide) ?_
          refine lv_icmp_ge (tgt := 42) hx hb (by decide +kernel : decode prog_16_method_13_code 19 = .ok (.if_icmp .ge 23, 3)) (by decide) (fun z9 => absurd z9 (by decide)) (fun _ => ?_)
          refine lv_iload_n hx hb (by decide +kernel : decode prog_16_method_13_code 22 = .ok (.iload_n 0, 1)) rfl (lv_at hl 2 rfl) ?_
          refine lv_iload_n hx hb (by decide +kernel : decode prog_16_method_13_code 23 = .ok (.iload_n 2, 1)) rfl (lv_at hl 1 rfl) ?_
          by_cases h5 : x < 100000
          · skip
            refine lv_icmp_le (tgt := 31) hx hb (by decide +kernel : decode prog_16_method_13_code 24 = .ok (.if_icmp .le 7, 3)) (by decide) (fun z9 => absurd z9 (fun z => absurd ((sb_nle (a := x) (b := 100000) (by omega) (by decide)).mp z) (by omega))) (fun _ => ?_)
            refine lv_iload_n hx hb (by decide +kernel : decode prog_16_method_13_code 27 = .ok (.iload_n 3, 1)) rfl (lv_at hl 0 rfl) ?_
            refine lv_iload_n hx hb (by decide +kernel : decode prog_16_method_13_code 28 = .ok (.iload_n 1, 1)) rfl (lv_at hl 3 rfl) ?_
            refine lv_iadd hx hb (by decide +kernel : decode prog_16_method_13_code 29 = .ok (.iadd, 1)) ?_
            refine jtop (nI 5) (by decide) ?_
            refine W.widen (show 0 ≤ 0 by omega) (show 0 ≤ 0 by omega) ?_
            exact W.iret hx hb hr (fun t ht hW => ⟨_, _, ⟨by rw [show sb_dg x = 5 by unfold sb_dg; (repeat' split) <;> omega], rfl⟩, rfl, by rw [ht]; exact hP, hD, hS.F ht⟩) hS.2.2 (by decide +kernel : decode prog_16_method_13_code 30 = .ok (.ireturn, 1))
          · skip
            refine lv_icmp_le (tgt := 31) hx hb (by decide +kernel : decode prog_16_method_13_code 24 = .ok (.if_icmp .le 7, 3)) (by decide) (fun _ => ?_) (fun z9 => absurd ((sb_nle (a := x) (b := 100000) (by omega) (by decide)).mpr (by omega)) z9)
            refine lv_bipush (v := 10) hx hb (by decide +kernel : decode prog_16_method_13_code 31 = .ok (.bipush 10, 2)) (by decide) ?_
            refine lv_iload_n hx hb (by decide +kernel : decode prog_16_method_13_code 33 = .ok (.iload_n 2, 1)) rfl (lv_at hl 1 rfl) ?_
            refine lv_imul hx hb (by decide +kernel : decode prog_16_method_13_code 34 = .ok (.imul, 1)) ?_
            refine jtop ((-1000000)) (by decide) ?_
            refine lv_istore_n (lv' := [(2, .int ((-1000000))), (3, .int 5), (0, .int (-nI x)), (1, .int 0)]) hx hb (by decide +kernel : decode prog_16_method_13_code 35 = .ok (.istore_n 2, 1)) rfl hl (by decide) rfl (fun ls hl => ?_)
            refine lv_iinc (v := 6) (lv' := [(3, .int 6), (2, .int ((-1000000))), (0, .int (-nI x)), (1, .int 0)]) hx hb (by decide +kernel : decode prog_16_method_13_code 36 = .ok (.iinc 3 1, 3)) hl (k := 1) rfl (by decide) (by decide) rfl (fun ls hl => ?_)
            refine lv_goto (tgt := 16) hx hb (by decide +kernel : decode prog_16_method_13_code 39 = .ok (.goto (-23), 3)) (by decide) ?_
            refine lv_iload_n hx hb (by decide +kernel : decode prog_16_method_13_code 16 = .ok (.iload_n 3, 1)) rfl (lv_at hl 0 rfl) ?_
            refine lv_bipush (v := 10) hx hb (by decide +kernel : decode prog_16_method_13_code 17 = .ok (.bipush 10, 2)) (by decide) ?_
            refine lv_icmp_ge (tgt := 42) hx hb (by decide +kernel : decode prog_16_method_13_code 19 = .ok (.if_icmp .ge 23, 3)) (by decide) (fun z9 => absurd z9 (by decide)) (fun _ => ?_)
            refine lv_iload_n hx hb (by decide +kernel : decode prog_16_method_13_code 22 = .ok (.iload_n 0, 1)) rfl (lv_at hl 2 rfl) ?_
            refine lv_iload_n hx hb (by decide +kernel : decode prog_16_method_13_code 23 = .ok (.iload_n 2, 1)) rfl (lv_at hl 1 rfl) ?_
            by_cases h6 : x < 1000000
            · skip
              refine lv_icmp_le (tgt := 31) hx hb (by decide +kernel : decode prog_16_method_13_code 24 = .ok (.if_icmp .le 7, 3)) (by decide) (fun z9 => absurd z9 (fun z => absurd ((sb_nle (a := x) (b := 1000000) (by omega) (by decide)).mp z) (by omega))) (fun _ => ?_)
              refine lv_iload_n hx hb (by decide +kernel : decode prog_16_method_13_code 27 = .ok (.iload_n 3, 1)) rfl (lv_at hl 0 rfl) ?_
              refine lv_iload_n hx hb (by decide +kernel : decode prog_16_method_13_code 28 = .ok (.iload_n 1, 1)) rfl (lv_at hl 3 rfl) ?_
              refine lv_iadd hx hb (by decide +kernel : decode prog_16_method_13_code 29 = .ok (.iadd, 1)) ?_
              refine jtop (nI 6) (by decide) ?_
              refine W.widen (show 0 ≤ 0 by omega) (show 0 ≤ 0 by omega) ?_
              exact W.iret hx hb hr (fun t ht hW => ⟨_, _, ⟨by rw [show sb_dg x = 6 by unfold sb_dg; (repeat' split) <;> omega], rfl⟩, rfl, by rw [ht]; exact hP, hD, hS.F ht⟩) hS.2.2 (by decide +kernel : decode prog_16_method_13_code 30 = .ok (.ireturn, 1))
            · skip
              refine lv_icmp_le (tgt := 31) hx hb (by decide +kernel : decode prog_16_method_13_code 24 = .ok (.if_icmp .le 7, 3)) (by decide) (fun _ => ?_) (fun z9 => absurd ((sb_nle (a := x) (b := 1000000) (by omega) (by decide)).mpr (by omega)) z9)
              refine lv_bipush (v := 10) hx hb (by decide +kernel : decode prog_16_method_13_code 31 = .ok (.bipush 10, 2)) (by decide) ?_
              refine lv_iload_n hx hb (by decide +kernel : decode prog_16_method_13_code 33 = .ok (.iload_n 2, 1)) rfl (lv_at hl 1 rfl) ?_
              refine lv_imul hx hb (by decide +kernel : decode prog_16_method_13_code 34 = .ok (.imul, 1)) ?_
              refine jtop ((-10000000)) (by decide) ?_
              refine lv_istore_n (lv' := [(2, .int ((-10000000))), (3, .int 6), (0, .int (-nI x)), (1, .int 0)]) hx hb (by decide +kernel : decode prog_16_method_13_code 35 = .ok (.istore_n 2, 1)) rfl hl (by decide) rfl (fun ls hl => ?_)
              refine lv_iinc (v := 7) (lv' := [(3, .int 7), (2, .int ((-10000000))), (0, .int (-nI x)), (1, .int 0)]) hx hb (by decide +kernel : decode prog_16_method_13_code 36 = .ok (.iinc 3 1, 3)) hl (k := 1) rfl (by decide) (by decide) rfl (fun ls hl => ?_)
              refine lv_goto (tgt := 16) hx hb (by decide +kernel : decode prog_16_method_13_code 39 = .ok (.goto (-23), 3)) (by decide) ?_
              refine lv_iload_n hx hb (by decide +kernel : decode prog_16_method_13_code 16 = .ok (.iload_n 3, 1)) rfl (lv_at hl 0 rfl) ?_
              refine lv_bipush (v := 10) hx hb (by decide +kernel : decode prog_16_method_13_code 17 = .ok (.bipush 10, 2)) (by decide) ?_
              refine lv_icmp_ge (tgt := 42) hx hb (by decide +kernel : decode prog_16_method_13_code 19 = .ok (.if_icmp .ge 23, 3)) (by decide) (fun z9 => absurd z9 (by decide)) (fun _ => ?_)
              refine lv_iload_n hx hb (by decide +kernel : decode prog_16_method_13_code 22 = .ok (.iload_n 0, 1)) rfl (lv_at hl 2 rfl) ?_
              refine lv_iload_n hx hb (by decide +kernel : decode prog_16_method_13_code 23 = .ok (.iload_n 2, 1)) rfl (lv_at hl 1 rfl) ?_
              refine lv_icmp_le (tgt := 31) hx hb (by decide +kernel : decode prog_16_method_13_code 24 = .ok (.if_icmp .le 7, 3)) (by decide) (fun z9 => absurd z9 (fun z => absurd ((sb_nle (a := x) (b := 10000000) (by omega) (by decide)).mp z) (by omega))) (fun _ => ?_)
              refine lv_iload_n hx hb (by decide +kernel : decode prog_16_method_13_code 27 = .ok (.iload_n 3, 1)) rfl (lv_at hl 0 rfl) ?_
              refine lv_iload_n hx hb (by decide +kernel : decode prog_16_method_13_code 28 = .ok (.iload_n 1, 1)) rfl (lv_at hl 3 rfl) ?_
              refine lv_iadd hx hb (by decide +kernel : decode prog_16_method_13_code 29 = .ok (.iadd, 1)) ?_
              refine jtop (nI 7) (by decide) ?_
              refine W.widen (show 0 ≤ 0 by omega) (show 0 ≤ 0 by omega) ?_
              exact W.iret hx hb hr (fun t ht hW => ⟨_, _, ⟨by rw [show sb_dg x = 7 by unfold sb_dg; (repeat' split) <;> omega], rfl⟩, rfl, by rw [ht]; exact hP, hD, hS.F ht⟩) hS.2.2 (by decide +kernel : decode prog_16_method_13_code 30 = .ok (.ireturn, 1))
