/-! ===== a text out of a builder ===== -/
theorem jSdf {j : Nat} (hj : j < 4) : defaultValue (jSty j) = vp_V [.null, .int 0, .int 0, .int 0] j := by
  have : j = 0 ∨ j = 1 ∨ j = 2 ∨ j = 3 := by omega
  rcases this with rfl | rfl | rfl | rfl <;> rfl
theorem jSBdf {j : Nat} (hj : j < 4) : defaultValue (jSBty j) = vp_V [.null, .int 0, .int 0, .int 0] j := by
  have : j = 0 ∨ j = 1 ∨ j = 2 ∨ j = 3 := by omega
  rcases this with rfl | rfl | rfl | rfl <;> rfl
theorem jk24 : Cond.code ⟨"java/util/Arrays", "checkLength", "(II)V"⟩ prog_23_method_131_code 2 none ∈ vm_W := vm_code_in (vm_in5 (List.mem_of_getElem? (i := 9) (by rfl)))
set_option maxHeartbeats 4000000 in
theorem jm_ckLen (l : Launch) (dC : Nat → ClassId) (dI : Nat → Nat → Nat) (CA : Nat → ClassId) (A : Nat → Prop) (L : jT) (n : Nat) (w0 : va_W) (hn : n ≤ 65536) : Met l ⟨"java/util/Arrays", "checkLength", "(II)V"⟩ (Cond.code ⟨"java/util/Arrays", "checkLength", "(II)V"⟩ prog_23_method_131_code 2 none :: vm_W) ({ frames := 0, cells := 0, slots := 0, locals := 0 }) (va_Pc [.int 0, .int (nI n)] (jB dC dI CA A L w0)) (jE dC dI A (fun v ws => v = none ∧ ws = w0)) 0 0 A := by
  refine Met.ofW (cc := prog_23_method_131_code) (maxL := 2) (ret := none) (by decide) rfl ?_
  intro p e s m args below meth c s₁ B hml hv
  obtain ⟨rfl, hK, hX, hL, hP, hD, hA⟩ := hv
  have hx := B.exec
  have hb := B.bytes
  have hr := B.returns
  have hts := vm_tsW (atoms_spec B.pre)
  have hown : s.vm.findClass "java/util/Arrays" = some m.cls := findClass_of_methodNamed B.named
  have hlocks := B.notSynchronized
  have hnm : meth.name = "checkLength" := (name_of_methodNamed B.named B.method).1
  have hS : va_S A s.heap s.heap [] := va_S.rf
  have hl := lv_entry ([.int 0, .int (nI n)]) (n := 2) (Nat.le_of_ble_eq_true rfl)
  rw [lg_entry_eq]
  generalize (lg_sl ([.int 0, .int (nI n)]) ++ List.replicate (2 - (lg_sl ([.int 0, .int (nI n)])).length) Slot.unset).toArray = ls at hl ⊢
  have hl : lv_has ls 2 [(0, .int 0), (1, .int (nI n))] := hl
  refine lv_iload_n hx hb (by decide +kernel : decode prog_23_method_131_code 0 = .ok (.iload_n 1, 1)) rfl (lv_at hl 1 rfl) ?_
  refine lv_iload_n hx hb (by decide +kernel : decode prog_23_method_131_code 1 = .ok (.iload_n 0, 1)) rfl (lv_at hl 0 rfl) ?_
  refine lv_icmp_ge (tgt := 37) hx hb (by decide +kernel : decode prog_23_method_131_code 2 = .ok (.if_icmp .ge 35, 3)) (by decide) (fun _ => ?_) (fun z9 => absurd (nI_pos' (by omega)) z9)
  refine W.widen (show 0 ≤ 0 by omega) (show 0 ≤ 0 by omega) ?_
  exact W.vret hx hb hr (fun t ht hW => ⟨_, _, ⟨rfl, rfl⟩, rfl, by rw [ht]; exact hP, hD, hS.F ht⟩) hS.2.2 (by decide +kernel : decode prog_23_method_131_code 37 = .ok (.return_, 1))
theorem jk25 : Cond.code ⟨"java/util/Arrays", "copyOfRangeByte", "([BII)[B"⟩ prog_23_method_133_code 5 (some (.array .byte)) ∈ vm_W := vm_code_in (vm_in5 (List.mem_of_getElem? (i := 6) (by rfl)))
set_option maxHeartbeats 4000000 in
theorem jm_copyRB (l : Launch) (dC : Nat → ClassId) (dI : Nat → Nat → Nat) (CA : Nat → ClassId) (A : Nat → Prop) (L : jT) (b n a0 i : Nat) (f : Nat → Int32) (w0 : va_W) (hn : n ≤ a0) (ha : a0 ≤ 65536) (hi : i < w0.length) (hw : w0[i]? = some (b, .inl (CA 101, a0, .inl f))) (hf : sb_Fit f) : Met l ⟨"java/util/Arrays", "copyOfRangeByte", "([BII)[B"⟩ (Cond.code ⟨"java/util/Arrays", "copyOfRangeByte", "([BII)[B"⟩ prog_23_method_133_code 5 (some (.array .byte)) :: vm_W) ({ frames := 1, cells := 1, slots := n, locals := 40 }) (va_Pc [.ref b, .int 0, .int (nI n)] (jB dC dI CA A L w0)) (jE dC dI A (fun v ws => ∃ (q9 : Nat) (f1 : Nat → Int32), v = some (.ref q9) ∧ ws = w0 ++ [(q9, .inl (CA 101, n, .inl f1))] ∧ sb_Fit f1 ∧ ∀ j, j < n → f1 j = f j)) 1 n A := by
  refine Met.ofW (cc := prog_23_method_133_code) (maxL := 5) (ret := (some (.array .byte))) (by decide) rfl ?_
  intro p e s m args below meth c s₁ B hml hv
  obtain ⟨rfl, hK, hX, hL, hP, hD, hA⟩ := hv
  have hx := B.exec
  have hb := B.bytes
  have hr := B.returns
  have hts := vm_tsW (atoms_spec B.pre)
  have hown : s.vm.findClass "java/util/Arrays" = some m.cls := findClass_of_methodNamed B.named
  have hlocks := B.notSynchronized
  have hnm : meth.name = "copyOfRangeByte" := (name_of_methodNamed B.named B.method).1
  have hS : va_S A s.heap s.heap [] := va_S.rf
  have hl := lv_entry ([.ref b, .int 0, .int (nI n)]) (n := 5) (Nat.le_of_ble_eq_true rfl)
  rw [lg_entry_eq]
  generalize (lg_sl ([.ref b, .int 0, .int (nI n)]) ++ List.replicate (5 - (lg_sl ([.ref b, .int 0, .int (nI n)])).length) Slot.unset).toArray = ls at hl ⊢
  have hl : lv_has ls 5 [(0, .ref b), (1, .int 0), (2, .int (nI n))] := hl
  have hw1 : ∀ z, (w0 ++ [z])[i]? = some (b, .inl (CA 101, a0, .inl f)) := fun z => by rw [List.getElem?_append_left hi]; exact hw
  have hw2 : ∀ z, (w0 ++ [z])[w0.length]? = some z := fun z => by rw [List.getElem?_append_right (Nat.le_refl _), Nat.sub_self]; rfl
  refine lv_iload_n hx hb (by decide +kernel : decode prog_23_method_133_code 0 = .ok (.iload_n 1, 1)) rfl (lv_at hl 1 rfl) ?_
  refine lv_iload_n hx hb (by decide +kernel : decode prog_23_method_133_code 1 = .ok (.iload_n 2, 1)) rfl (lv_at hl 2 rfl) ?_
  refine j_call (va_runS (As := [.int 0, .int (nI n)]) (rest := []) ⟨hx, hb, hml, hown, hts⟩ (jm_ckLen l dC dI CA A L n _ (by omega)) (va_cwS 2 hts (vm_gS jk24 (vm_hw_in (i := 1004) (by decide +kernel)) (vm_hw_in (i := 1005) (by decide +kernel)) (vm_hw_in (i := 55) (by decide +kernel))) rfl rfl rfl (by decide +kernel) ⟨Nat.le_of_ble_eq_true rfl, Nat.le_of_ble_eq_true rfl⟩) ⟨jB.blind, fun U hU hW => ⟨rfl, jB.of hK hX hL hA hP hD hS hU hW⟩⟩ rfl rfl hl.1 rfl (lv_room (Nat.le_of_ble_eq_true rfl)) (by decide +kernel : decode prog_23_method_133_code 2 = .ok (.invokestatic 343, 3)) ⟨by show 0 + 0 ≤ 1; omega, by show 0 + 0 ≤ n; omega⟩) hS (fun v ws H locs hR hP hD hS => ?_)
  obtain ⟨rfl, e9⟩ := hR
  rw [e9] at hP hD
  refine lv_iload_n hx hb (by decide +kernel : decode prog_23_method_133_code 5 = .ok (.iload_n 2, 1)) rfl (lv_at hl 2 rfl) ?_
  refine lv_iload_n hx hb (by decide +kernel : decode prog_23_method_133_code 6 = .ok (.iload_n 1, 1)) rfl (lv_at hl 1 rfl) ?_
  refine lv_isub hx hb (by decide +kernel : decode prog_23_method_133_code 7 = .ok (.isub, 1)) ?_
  refine jtop (nI n) (pk_sub (a := n) (b := 0) (Nat.zero_le _)) ?_
  refine lv_istore_n (lv' := [(3, .int (nI n)), (0, .ref b), (1, .int 0), (2, .int (nI n))]) hx hb (by decide +kernel : decode prog_23_method_133_code 8 = .ok (.istore_n 3, 1)) rfl hl (by decide) rfl (fun ls hl => ?_)
  refine lv_iload_n hx hb (by decide +kernel : decode prog_23_method_133_code 9 = .ok (.iload_n 3, 1)) rfl (lv_at hl 0 rfl) ?_
  refine j_newb (N := n) hx hb hts hK hP hD hS hA (by omega) (by show (0 + 0) + 1 ≤ 1; omega) (by show (0 + 0) + n ≤ n; omega) (by decide +kernel : decode prog_23_method_133_code 10 = .ok (.newarray .byte, 2)) (fun q9 H hP hD hS => ?_)
  refine lv_astore (lv' := [(4, .ref q9), (3, .int (nI n)), (0, .ref b), (1, .int 0), (2, .int (nI n))]) hx hb (by decide +kernel : decode prog_23_method_133_code 12 = .ok (.astore 4, 2)) hl (by decide) rfl (fun ls hl => ?_)
  refine lv_aload_n hx hb (by decide +kernel : decode prog_23_method_133_code 14 = .ok (.aload_n 0, 1)) rfl (lv_at hl 2 rfl) ?_
  refine lv_iload_n hx hb (by decide +kernel : decode prog_23_method_133_code 15 = .ok (.iload_n 1, 1)) rfl (lv_at hl 3 rfl) ?_
  refine lv_aload hx hb (by decide +kernel : decode prog_23_method_133_code 16 = .ok (.aload 4, 2)) (lv_at hl 0 rfl) ?_
  refine lv_iconst (v := 0) hx hb (by decide +kernel : decode prog_23_method_133_code 18 = .ok (.iconst 0, 1)) (by decide) ?_
  refine lv_aload_n hx hb (by decide +kernel : decode prog_23_method_133_code 19 = .ok (.aload_n 0, 1)) rfl (lv_at hl 2 rfl) ?_
  refine va_alen hx hb hK hP i 1 (hw1 _) rfl (v := nI a0) rfl (by decide +kernel : decode prog_23_method_133_code 20 = .ok (.arraylength, 1)) ?_
  refine lv_iload_n hx hb (by decide +kernel : decode prog_23_method_133_code 21 = .ok (.iload_n 1, 1)) rfl (lv_at hl 3 rfl) ?_
  refine lv_isub hx hb (by decide +kernel : decode prog_23_method_133_code 22 = .ok (.isub, 1)) ?_
  refine jtop (nI a0) (pk_sub (a := a0) (b := 0) (Nat.zero_le _)) ?_
  refine lv_iload_n hx hb (by decide +kernel : decode prog_23_method_133_code 23 = .ok (.iload_n 3, 1)) rfl (lv_at hl 1 rfl) ?_
  refine va_mmin hx hb (hml.trans hl.1.symm) hown (hts _ (vm_hw_in (i := 844) (by decide +kernel))) (hts _ (vm_hw_in vm_okXb)) (hts _ (vm_hw_in vm_okX9)) (hts _ vm_kMin) (Nat.le_of_ble_eq_true rfl) (Nat.le_of_ble_eq_true rfl) (by show ((0 + 0) + 1) ≤ 1; omega) (by show ((0 + 0) + n) ≤ n; omega) (by decide +kernel : decode prog_23_method_133_code 24 = .ok (.invokestatic 304, 3)) ?_
  refine jtop (nI (if n < a0 then n else a0)) (jmin (by omega) (by omega)) ?_
  rw [show (if n < a0 then n else a0) = n by split <;> omega]
  refine va_copyi hx hb (hml.trans hl.1.symm) hown (hts _ (vm_hw_in (i := 845) (by decide +kernel))) (hts _ (vm_hw_in vm_okX6)) (hts _ (vm_hw_in vm_okX7)) (hts _ (vm_hw_in vm_okX8)) hK hP hD hS i w0.length 1 1 (hw1 _) (hw2 _) rfl rfl rfl (sp := 0) (dp := 0) (n := nI n) (by decide) (by decide) (nI_pos (by omega)) (by rw [sb_cl0, nI_clamp (by omega)]; omega) (by rw [sb_cl0, nI_clamp (by omega)]; omega) (fun j _ => hf _) (Nat.le_of_ble_eq_true rfl) (Nat.le_of_ble_eq_true rfl) (by decide +kernel : decode prog_23_method_133_code 27 = .ok (.invokestatic 150, 3)) (fun H locs hP hD hS => ?_)
  rw [sb_cl0, nI_clamp (n := n) (by omega), List.set_append_right _ _ (Nat.le_refl _), Nat.sub_self] at hP hD
  refine lv_aload hx hb (by decide +kernel : decode prog_23_method_133_code 30 = .ok (.aload 4, 2)) (lv_at hl 0 rfl) ?_
  refine W.widen (show ((0 + 0) + 1) ≤ 1 by omega) (show ((0 + 0) + n) ≤ n by omega) ?_
  exact W.aret hx hb hr (Or.inr ⟨_, rfl⟩) (Or.inr ⟨_, rfl⟩) (fun t ht hW => ⟨_, _, ⟨_, _, rfl, rfl, sb_fitC hf sb_fit0, fun j hj => sb_cpy0 hj⟩, rfl, by rw [ht]; exact hP, hD, hS.F ht⟩) hS.2.2 (by decide +kernel : decode prog_23_method_133_code 32 = .ok (.areturn, 1))
theorem jk26 : Cond.code ⟨"java/util/Arrays", "copyOfRange", "([BII)[B"⟩ prog_23_method_132_code 3 (some (.array .byte)) ∈ vm_W := vm_code_in (vm_in5 (List.mem_of_getElem? (i := 3) (by rfl)))
set_option maxHeartbeats 4000000 in
theorem jm_copyR (l : Launch) (dC : Nat → ClassId) (dI : Nat → Nat → Nat) (CA : Nat → ClassId) (A : Nat → Prop) (L : jT) (b n a0 i : Nat) (f : Nat → Int32) (w0 : va_W) (hn : n ≤ a0) (ha : a0 ≤ 65536) (hi : i < w0.length) (hw : w0[i]? = some (b, .inl (CA 101, a0, .inl f))) (hf : sb_Fit f) : Met l ⟨"java/util/Arrays", "copyOfRange", "([BII)[B"⟩ (Cond.code ⟨"java/util/Arrays", "copyOfRange", "([BII)[B"⟩ prog_23_method_132_code 3 (some (.array .byte)) :: vm_W) ({ frames := 2, cells := 1, slots := n, locals := 80 }) (va_Pc [.ref b, .int 0, .int (nI n)] (jB dC dI CA A L w0)) (jE dC dI A (fun v ws => ∃ (q9 : Nat) (f1 : Nat → Int32), v = some (.ref q9) ∧ ws = w0 ++ [(q9, .inl (CA 101, n, .inl f1))] ∧ sb_Fit f1 ∧ ∀ j, j < n → f1 j = f j)) 1 n A := by
  refine Met.ofW (cc := prog_23_method_132_code) (maxL := 3) (ret := (some (.array .byte))) (by decide) rfl ?_
  intro p e s m args below meth c s₁ B hml hv
  obtain ⟨rfl, hK, hX, hL, hP, hD, hA⟩ := hv
  have hx := B.exec
  have hb := B.bytes
  have hr := B.returns
  have hts := vm_tsW (atoms_spec B.pre)
  have hown : s.vm.findClass "java/util/Arrays" = some m.cls := findClass_of_methodNamed B.named
  have hlocks := B.notSynchronized
  have hnm : meth.name = "copyOfRange" := (name_of_methodNamed B.named B.method).1
  have hS : va_S A s.heap s.heap [] := va_S.rf
  have hl := lv_entry ([.ref b, .int 0, .int (nI n)]) (n := 3) (Nat.le_of_ble_eq_true rfl)
  rw [lg_entry_eq]
  generalize (lg_sl ([.ref b, .int 0, .int (nI n)]) ++ List.replicate (3 - (lg_sl ([.ref b, .int 0, .int (nI n)])).length) Slot.unset).toArray = ls at hl ⊢
  have hl : lv_has ls 3 [(0, .ref b), (1, .int 0), (2, .int (nI n))] := hl
  have hw1 : ∀ z, (w0 ++ [z])[i]? = some (b, .inl (CA 101, a0, .inl f)) := fun z => by rw [List.getElem?_append_left hi]; exact hw
  have hw2 : ∀ z, (w0 ++ [z])[w0.length]? = some z := fun z => by rw [List.getElem?_append_right (Nat.le_refl _), Nat.sub_self]; rfl
  refine lv_iload_n hx hb (by decide +kernel : decode prog_23_method_132_code 0 = .ok (.iload_n 1, 1)) rfl (lv_at hl 1 rfl) ?_
  refine lv_if_ne (tgt := 10) hx hb (by decide +kernel : decode prog_23_method_132_code 1 = .ok (.ifCond .ne 9, 3)) (by decide) (fun z9 => absurd z9 (fun z => z rfl)) (fun _ => ?_)
  refine lv_iload_n hx hb (by decide +kernel : decode prog_23_method_132_code 4 = .ok (.iload_n 2, 1)) rfl (lv_at hl 2 rfl) ?_
  refine lv_aload_n hx hb (by decide +kernel : decode prog_23_method_132_code 5 = .ok (.aload_n 0, 1)) rfl (lv_at hl 0 rfl) ?_
  refine va_alen hx hb hK hP i 1 hw rfl (v := nI a0) rfl (by decide +kernel : decode prog_23_method_132_code 6 = .ok (.arraylength, 1)) ?_
  by_cases he : n = a0
  · skip
    refine lv_icmp_eq (tgt := 17) hx hb (by decide +kernel : decode prog_23_method_132_code 7 = .ok (.if_icmp .eq 10, 3)) (by decide) (fun _ => ?_) (fun z9 => absurd (congrArg nI he) z9)
    refine lv_aload_n hx hb (by decide +kernel : decode prog_23_method_132_code 17 = .ok (.aload_n 0, 1)) rfl (lv_at hl 0 rfl) ?_
    refine va_clone hx hb (hml.trans hl.1.symm) hown (hts _ (vm_hw_in (i := 837) (by decide +kernel))) (hts _ (vm_hw_in (i := 838) (by decide +kernel))) (hts _ (vm_hw_in (i := 839) (by decide +kernel))) (hts _ (vm_hw_in (i := 840) (by decide +kernel))) (hts _ (vm_hw_in (i := 841) (by decide +kernel))) hX.2.2.2.2 hK hP hD hS hA i 1 hw rfl (hK.2 1 _ rfl).2 (fun j v9 hv9 => ?_) (Nat.le_of_ble_eq_true rfl) (Nat.le_of_ble_eq_true rfl) (by show 0 + 1 ≤ 1; omega) (by show 0 + a0 ≤ n; omega) (by decide +kernel : decode prog_23_method_132_code 18 = .ok (.invokevirtual 310, 3)) (fun q1 H _ hP hD hS => ?_)
    · rw [vp_cell_i] at hv9
      have h9 := Array.mem_of_getElem? hv9
      simp only [arrV, Array.mem_ofFn] at h9
      obtain ⟨j9, rfl⟩ := h9
      exact hf _
    refine va_castA hx hb hown (hts (.classLink "java/util/Arrays" 311 "[B") (vm_hw_in (i := 843) (by decide +kernel))) hP w0.length (hw2 _) (hK.2 1 _ rfl).2 (by decide +kernel : decode prog_23_method_132_code 21 = .ok (.checkcast 311, 3)) ?_
    subst he
    refine W.widen (show (0 + 1) ≤ 1 by omega) (show (0 + n) ≤ n by omega) ?_
    exact W.aret hx hb hr (Or.inr ⟨_, rfl⟩) (Or.inr ⟨_, rfl⟩) (fun t ht hW => ⟨_, _, ⟨q1, f, rfl, rfl, hf, fun _ _ => rfl⟩, rfl, by rw [ht]; exact hP, hD, hS.F ht⟩) hS.2.2 (by decide +kernel : decode prog_23_method_132_code 24 = .ok (.areturn, 1))
  · skip
    refine lv_icmp_eq (tgt := 17) hx hb (by decide +kernel : decode prog_23_method_132_code 7 = .ok (.if_icmp .eq 10, 3)) (by decide) (fun z9 => absurd z9 (fun z => he ((nI_eq (by omega) (by omega)).mp z))) (fun _ => ?_)
    refine lv_aload_n hx hb (by decide +kernel : decode prog_23_method_132_code 10 = .ok (.aload_n 0, 1)) rfl (lv_at hl 0 rfl) ?_
    refine lv_iload_n hx hb (by decide +kernel : decode prog_23_method_132_code 11 = .ok (.iload_n 1, 1)) rfl (lv_at hl 1 rfl) ?_
    refine lv_iload_n hx hb (by decide +kernel : decode prog_23_method_132_code 12 = .ok (.iload_n 2, 1)) rfl (lv_at hl 2 rfl) ?_
    refine j_call (va_runS (As := [.ref b, .int 0, .int (nI n)]) (rest := []) ⟨hx, hb, hml, hown, hts⟩ (jm_copyRB l dC dI CA A L b n a0 i f w0 hn ha hi hw hf) (va_cwS 3 hts (vm_gS jk25 (vm_hw_in (i := 1001) (by decide +kernel)) (vm_hw_in (i := 1002) (by decide +kernel)) (vm_hw_in (i := 55) (by decide +kernel))) rfl rfl rfl (by decide +kernel) ⟨Nat.le_of_ble_eq_true rfl, Nat.le_of_ble_eq_true rfl⟩) ⟨jB.blind, fun U hU hW => ⟨rfl, jB.of hK hX hL hA hP hD hS hU hW⟩⟩ rfl rfl hl.1 rfl (lv_room (Nat.le_of_ble_eq_true rfl)) (by decide +kernel : decode prog_23_method_132_code 13 = .ok (.invokestatic 339, 3)) ⟨by show 0 + 1 ≤ 1; omega, by show 0 + n ≤ n; omega⟩) hS (fun v ws H locs hR hP hD hS => ?_)
    obtain ⟨q1, f1, rfl, e9, hR⟩ := hR
    refine W.widen (show (0 + 1) ≤ 1 by omega) (show (0 + n) ≤ n by omega) ?_
    exact W.aret hx hb hr (Or.inr ⟨_, rfl⟩) (Or.inr ⟨_, rfl⟩) (fun t ht hW => ⟨_, _, ⟨q1, f1, rfl, e9, hR⟩, rfl, by rw [ht]; exact hP, hD, hS.F ht⟩) hS.2.2 (by decide +kernel : decode prog_23_method_132_code 16 = .ok (.areturn, 1))
theorem jk27 : Cond.code ⟨"java/lang/AbstractStringBuilder", "getValue", "()[B"⟩ prog_14_method_64_code 1 (some (.array .byte)) ∈ vm_W := vm_code_in (vm_in4 (List.mem_of_getElem? (i := 231) (by rfl)))
set_option maxHeartbeats 4000000 in
theorem jm_getValue (l : Launch) (dC : Nat → ClassId) (dI : Nat → Nat → Nat) (CA : Nat → ClassId) (A : Nat → Prop) (L : jT) (h b n : Nat) (w0 : va_W) (hw : w0[0]? = some (h, .inr (12, [.ref b, .int 0, .int 0, .int (nI n)]))) : Met l ⟨"java/lang/AbstractStringBuilder", "getValue", "()[B"⟩ (Cond.code ⟨"java/lang/AbstractStringBuilder", "getValue", "()[B"⟩ prog_14_method_64_code 1 (some (.array .byte)) :: vm_W) ({ frames := 0, cells := 0, slots := 0, locals := 0 }) (va_Pc [.ref h] (jB dC dI CA A L w0)) (jE dC dI A (fun v ws => v = some (.ref b) ∧ ws = w0)) 0 0 A := by
  refine Met.ofW (cc := prog_14_method_64_code) (maxL := 1) (ret := (some (.array .byte))) (by decide) rfl ?_
  intro p e s m args below meth c s₁ B hml hv
  obtain ⟨rfl, hK, hX, hL, hP, hD, hA⟩ := hv
  have hx := B.exec
  have hb := B.bytes
  have hr := B.returns
  have hts := vm_tsW (atoms_spec B.pre)
  have hown : s.vm.findClass "java/lang/AbstractStringBuilder" = some m.cls := findClass_of_methodNamed B.named
  have hlocks := B.notSynchronized
  have hnm : meth.name = "getValue" := (name_of_methodNamed B.named B.method).1
  have hS : va_S A s.heap s.heap [] := va_S.rf
  have hl := lv_entry ([.ref h]) (n := 1) (Nat.le_of_ble_eq_true rfl)
  rw [lg_entry_eq]
  generalize (lg_sl ([.ref h]) ++ List.replicate (1 - (lg_sl ([.ref h])).length) Slot.unset).toArray = ls at hl ⊢
  have hl : lv_has ls 1 [(0, .ref h)] := hl
  refine lv_aload_n hx hb (by decide +kernel : decode prog_14_method_64_code 0 = .ok (.aload_n 0, 1)) rfl (lv_at hl 0 rfl) ?_
  refine va_get hx hb hts jSBin hown hK hP 0 hw jcl12 0 (by decide) (hts (.fieldLink "java/lang/AbstractStringBuilder" 15 "java/lang/AbstractStringBuilder" "value" "[B") (vm_hw_in (i := 900) (by decide +kernel))) (fun _ h => h) (v := .ref b) rfl (by decide +kernel : decode prog_14_method_64_code 1 = .ok (.getfield 15, 3)) ?_
  refine W.widen (show 0 ≤ 0 by omega) (show 0 ≤ 0 by omega) ?_
  exact W.aret hx hb hr (Or.inr ⟨_, rfl⟩) (Or.inr ⟨_, rfl⟩) (fun t ht hW => ⟨_, _, ⟨rfl, rfl⟩, rfl, by rw [ht]; exact hP, hD, hS.F ht⟩) hS.2.2 (by decide +kernel : decode prog_14_method_64_code 4 = .ok (.areturn, 1))
theorem jk28 : Cond.code ⟨"java/lang/AbstractStringBuilder", "length", "()I"⟩ prog_14_method_6_code 1 (some .int) ∈ vm_W := vm_code_in (vm_in4 (List.mem_of_getElem? (i := 239) (by rfl)))
set_option maxHeartbeats 4000000 in
theorem jm_asLen (l : Launch) (dC : Nat → ClassId) (dI : Nat → Nat → Nat) (CA : Nat → ClassId) (A : Nat → Prop) (L : jT) (h b n : Nat) (w0 : va_W) (hw : w0[0]? = some (h, .inr (12, [.ref b, .int 0, .int 0, .int (nI n)]))) : Met l ⟨"java/lang/AbstractStringBuilder", "length", "()I"⟩ (Cond.code ⟨"java/lang/AbstractStringBuilder", "length", "()I"⟩ prog_14_method_6_code 1 (some .int) :: vm_W) ({ frames := 0, cells := 0, slots := 0, locals := 0 }) (va_Pc [.ref h] (jB dC dI CA A L w0)) (jE dC dI A (fun v ws => v = some (.int (nI n)) ∧ ws = w0)) 0 0 A := by
  refine Met.ofW (cc := prog_14_method_6_code) (maxL := 1) (ret := (some .int)) (by decide) rfl ?_
  intro p e s m args below meth c s₁ B hml hv
  obtain ⟨rfl, hK, hX, hL, hP, hD, hA⟩ := hv
  have hx := B.exec
  have hb := B.bytes
  have hr := B.returns
  have hts := vm_tsW (atoms_spec B.pre)
  have hown : s.vm.findClass "java/lang/AbstractStringBuilder" = some m.cls := findClass_of_methodNamed B.named
  have hlocks := B.notSynchronized
  have hnm : meth.name = "length" := (name_of_methodNamed B.named B.method).1
  have hS : va_S A s.heap s.heap [] := va_S.rf
  have hl := lv_entry ([.ref h]) (n := 1) (Nat.le_of_ble_eq_true rfl)
  rw [lg_entry_eq]
  generalize (lg_sl ([.ref h]) ++ List.replicate (1 - (lg_sl ([.ref h])).length) Slot.unset).toArray = ls at hl ⊢
  have hl : lv_has ls 1 [(0, .ref h)] := hl
  refine lv_aload_n hx hb (by decide +kernel : decode prog_14_method_6_code 0 = .ok (.aload_n 0, 1)) rfl (lv_at hl 0 rfl) ?_
  refine va_get hx hb hts jSBin hown hK hP 0 hw jcl12 3 (by decide) (hts (.fieldLink "java/lang/AbstractStringBuilder" 79 "java/lang/AbstractStringBuilder" "count" "I") (vm_hw_in (i := 903) (by decide +kernel))) (fun _ h => h) (v := .int (nI n)) rfl (by decide +kernel : decode prog_14_method_6_code 1 = .ok (.getfield 79, 3)) ?_
  refine W.widen (show 0 ≤ 0 by omega) (show 0 ≤ 0 by omega) ?_
  exact W.iret hx hb hr (fun t ht hW => ⟨_, _, ⟨rfl, rfl⟩, rfl, by rw [ht]; exact hP, hD, hS.F ht⟩) hS.2.2 (by decide +kernel : decode prog_14_method_6_code 4 = .ok (.ireturn, 1))
theorem jk29 : Cond.code ⟨"java/lang/StringBuilder", "length", "()I"⟩ prog_19_method_93_code 1 (some .int) ∈ vm_W := vm_code_in (vm_in4 (List.mem_of_getElem? (i := 237) (by rfl)))
set_option maxHeartbeats 4000000 in
theorem jm_sbLen (l : Launch) (dC : Nat → ClassId) (dI : Nat → Nat → Nat) (CA : Nat → ClassId) (A : Nat → Prop) (L : jT) (h b n : Nat) (w0 : va_W) (hw : w0[0]? = some (h, .inr (12, [.ref b, .int 0, .int 0, .int (nI n)]))) : Met l ⟨"java/lang/StringBuilder", "length", "()I"⟩ (Cond.code ⟨"java/lang/StringBuilder", "length", "()I"⟩ prog_19_method_93_code 1 (some .int) :: vm_W) ({ frames := 1, cells := 0, slots := 0, locals := 40 }) (va_Pc [.ref h] (jB dC dI CA A L w0)) (jE dC dI A (fun v ws => v = some (.int (nI n)) ∧ ws = w0)) 0 0 A := by
  refine Met.ofW (cc := prog_19_method_93_code) (maxL := 1) (ret := (some .int)) (by decide) rfl ?_
  intro p e s m args below meth c s₁ B hml hv
  obtain ⟨rfl, hK, hX, hL, hP, hD, hA⟩ := hv
  have hx := B.exec
  have hb := B.bytes
  have hr := B.returns
  have hts := vm_tsW (atoms_spec B.pre)
  have hown : s.vm.findClass "java/lang/StringBuilder" = some m.cls := findClass_of_methodNamed B.named
  have hlocks := B.notSynchronized
  have hnm : meth.name = "length" := (name_of_methodNamed B.named B.method).1
  have hS : va_S A s.heap s.heap [] := va_S.rf
  have hl := lv_entry ([.ref h]) (n := 1) (Nat.le_of_ble_eq_true rfl)
  rw [lg_entry_eq]
  generalize (lg_sl ([.ref h]) ++ List.replicate (1 - (lg_sl ([.ref h])).length) Slot.unset).toArray = ls at hl ⊢
  have hl : lv_has ls 1 [(0, .ref h)] := hl
  refine lv_aload_n hx hb (by decide +kernel : decode prog_19_method_93_code 0 = .ok (.aload_n 0, 1)) rfl (lv_at hl 0 rfl) ?_
  refine j_call (va_runSU (C := "java/lang/StringBuilder") (b := h) (As := []) (rest := []) (hK.1 12 _ jcl12).2 ⟨hx, hb, hml, hown, hts⟩ (jm_asLen l dC dI CA A L h b n w0 hw) (va_cwSU 0 hts (jgSU jk28 (vm_hw_in (i := 995) (by decide +kernel)) (vm_hw_in (i := 991) (by decide +kernel)) (vm_hw_in (i := 812) (by decide +kernel)) (vm_hw_in (i := 990) (by decide +kernel)) (vm_hw_in (i := 49) (by decide +kernel))) rfl rfl rfl (by decide +kernel) ⟨Nat.le_of_ble_eq_true rfl, Nat.le_of_ble_eq_true rfl⟩) ⟨jB.blind, va_recv hK hP jcl12 hw, fun U hU hW => ⟨rfl, jB.of hK hX hL hA hP hD hS hU hW⟩⟩ rfl rfl hl.1 rfl (lv_room (Nat.le_of_ble_eq_true rfl)) (by decide +kernel : decode prog_19_method_93_code 1 = .ok (.invokespecial 343, 3)) ⟨by show 0 + 0 ≤ 0; omega, by show 0 + 0 ≤ 0; omega⟩) hS (fun v ws H locs hR hP hD hS => ?_)
  obtain ⟨rfl, e9⟩ := hR
  refine W.widen (show (0 + 0) ≤ 0 by omega) (show (0 + 0) ≤ 0 by omega) ?_
  exact W.iret hx hb hr (fun t ht hW => ⟨_, _, ⟨rfl, e9⟩, rfl, by rw [ht]; exact hP, hD, hS.F ht⟩) hS.2.2 (by decide +kernel : decode prog_19_method_93_code 4 = .ok (.ireturn, 1))
theorem jk30 : Cond.code ⟨"java/lang/String", "<init>", "(Ljava/lang/AbstractStringBuilder;Ljava/lang/Void;)V"⟩ prog_18_method_150_code 5 none ∈ vm_W := vm_code_in (vm_in4 (List.mem_of_getElem? (i := 225) (by rfl)))
set_option maxHeartbeats 4000000 in
theorem jm_strInit2 (l : Launch) (dC : Nat → ClassId) (dI : Nat → Nat → Nat) (CA : Nat → ClassId) (A : Nat → Prop) (L : jT) (h b n a0 q0 : Nat) (f : Nat → Int32) (hn : n ≤ a0) (ha : a0 ≤ 65536) (hf : sb_Fit f) : Met l ⟨"java/lang/String", "<init>", "(Ljava/lang/AbstractStringBuilder;Ljava/lang/Void;)V"⟩ (Cond.code ⟨"java/lang/String", "<init>", "(Ljava/lang/AbstractStringBuilder;Ljava/lang/Void;)V"⟩ prog_18_method_150_code 5 none :: vm_W) ({ frames := 3, cells := 1, slots := n, locals := 120 }) (va_Pc [.ref q0, .ref h, .null] (jB dC dI CA A L ([(h, .inr (12, [.ref b, .int 0, .int 0, .int (nI n)])), (b, .inl (CA 101, a0, .inl f)), (q0, .inr (11, [.null, .int 0, .int 0, .int 0]))]))) (jE dC dI A (fun v ws => ∃ (b1 : Nat) (f1 : Nat → Int32), v = none ∧ ws = [(h, .inr (12, [.ref b, .int 0, .int 0, .int (nI n)])), (b, .inl (CA 101, a0, .inl f)), (q0, .inr (11, [.ref b1, .int 0, .int 0, .int 0])), (b1, .inl (CA 101, n, .inl f1))] ∧ sb_Fit f1 ∧ ∀ j, j < n → f1 j = f j)) 1 n A := by
  refine Met.ofW (cc := prog_18_method_150_code) (maxL := 5) (ret := none) (by decide) rfl ?_
  intro p e s m args below meth c s₁ B hml hv
  obtain ⟨rfl, hK, hX, hL, hP, hD, hA⟩ := hv
  have hx := B.exec
  have hb := B.bytes
  have hr := B.returns
  have hts := vm_tsW (atoms_spec B.pre)
  have hown : s.vm.findClass "java/lang/String" = some m.cls := findClass_of_methodNamed B.named
  have hlocks := B.notSynchronized
  have hnm : meth.name = "<init>" := (name_of_methodNamed B.named B.method).1
  have hS : va_S A s.heap s.heap [] := va_S.rf
  have hl := lv_entry ([.ref q0, .ref h, .null]) (n := 5) (Nat.le_of_ble_eq_true rfl)
  rw [lg_entry_eq]
  generalize (lg_sl ([.ref q0, .ref h, .null]) ++ List.replicate (5 - (lg_sl ([.ref q0, .ref h, .null])).length) Slot.unset).toArray = ls at hl ⊢
  have hl : lv_has ls 5 [(0, .ref q0), (1, .ref h), (2, .null)] := hl
  refine lv_aload_n hx hb (by decide +kernel : decode prog_18_method_150_code 0 = .ok (.aload_n 0, 1)) rfl (lv_at hl 0 rfl) ?_
  refine W.objInit hx hb hown (hts _ (vm_hw_in (i := 983) (by decide +kernel))) (hts _ (vm_hw_in vm_okXd)) (hts _ vm_okX_objCode) rfl (hl.1.trans hml.symm) rfl (by decide +kernel : decode prog_18_method_150_code 1 = .ok (.invokespecial 1, 3)) (Nat.le_of_ble_eq_true rfl) (Nat.le_of_ble_eq_true rfl) ?_
  show W p l e _ s m _ below meth c _ _ _ _ _ (F0 m 4 ls [])
  refine lv_aload_n hx hb (by decide +kernel : decode prog_18_method_150_code 4 = .ok (.aload_n 1, 1)) rfl (lv_at hl 1 rfl) ?_
  refine j_call (va_runU (b := h) (As := []) (rest := []) ⟨hx, hb, hml, hown, hts⟩ (jm_getValue l dC dI CA A L h b n _ rfl) (va_cwU (owner := "java/lang/AbstractStringBuilder") (x := ⟨"java/lang/AbstractStringBuilder", "getValue", "()[B"⟩) 0 hts (jgU jk27 (vm_hw_in (i := 984) (by decide +kernel)) (vm_hw_in (i := 986) (by decide +kernel)) (vm_hw_in (i := 987) (by decide +kernel)) (vm_hw_in (i := 985) (by decide +kernel)) (vm_hw_in (i := 49) (by decide +kernel))) rfl rfl rfl rfl (by decide +kernel) ⟨Nat.le_of_ble_eq_true rfl, Nat.le_of_ble_eq_true rfl⟩) ⟨jB.blind, va_recv hK hP jcl12 (show (([(h, .inr (12, [.ref b, .int 0, .int 0, .int (nI n)])), (b, .inl (CA 101, a0, .inl f)), (q0, .inr (11, [.null, .int 0, .int 0, .int 0]))] : va_W))[0]? = _ from rfl), fun U hU hW => ⟨rfl, jB.of hK hX hL hA hP hD hS hU hW⟩⟩ rfl rfl hl.1 rfl (lv_room (Nat.le_of_ble_eq_true rfl)) (by decide +kernel : decode prog_18_method_150_code 5 = .ok (.invokevirtual 552, 3)) ⟨by show 0 + 0 ≤ 1; omega, by show 0 + 0 ≤ n; omega⟩) hS (fun v ws H locs hR hP hD hS => ?_)
  obtain ⟨rfl, rfl⟩ := hR
  refine lv_astore_n (lv' := [(3, .ref b), (0, .ref q0), (1, .ref h), (2, .null)]) hx hb (by decide +kernel : decode prog_18_method_150_code 8 = .ok (.astore_n 3, 1)) rfl hl (by decide) rfl (fun ls hl => ?_)
  refine lv_aload_n hx hb (by decide +kernel : decode prog_18_method_150_code 9 = .ok (.aload_n 1, 1)) rfl (lv_at hl 2 rfl) ?_
  refine j_call (va_runU (b := h) (As := []) (rest := []) ⟨hx, hb, hml, hown, hts⟩ (jm_sbLen l dC dI CA A L h b n _ rfl) (va_cwO (owner := "java/lang/AbstractStringBuilder") (x := ⟨"java/lang/AbstractStringBuilder", "length", "()I"⟩) 0 hts (jgO jk29 (vm_hw_in (i := 989) (by decide +kernel)) (vm_hw_in (i := 991) (by decide +kernel)) (vm_hw_in (i := 990) (by decide +kernel)) (vm_hw_in (i := 992) (by decide +kernel)) (vm_hw_in (i := 993) (by decide +kernel)) (vm_hw_in (i := 50) (by decide +kernel))) rfl rfl rfl jk28 (by decide +kernel) ⟨Nat.le_of_ble_eq_true rfl, Nat.le_of_ble_eq_true rfl⟩) ⟨jB.blind, va_recv hK hP jcl12 (show (([(h, .inr (12, [.ref b, .int 0, .int 0, .int (nI n)])), (b, .inl (CA 101, a0, .inl f)), (q0, .inr (11, [.null, .int 0, .int 0, .int 0]))] : va_W))[0]? = _ from rfl), fun U hU hW => ⟨rfl, jB.of hK hX hL hA hP hD hS hU hW⟩⟩ rfl rfl hl.1 rfl (lv_room (Nat.le_of_ble_eq_true rfl)) (by decide +kernel : decode prog_18_method_150_code 10 = .ok (.invokevirtual 549, 3)) ⟨by show (0 + 0) + 0 ≤ 1; omega, by show (0 + 0) + 0 ≤ n; omega⟩) hS (fun v ws H locs hR hP hD hS => ?_)
  obtain ⟨rfl, rfl⟩ := hR
  refine lv_istore (lv' := [(4, .int (nI n)), (3, .ref b), (0, .ref q0), (1, .ref h), (2, .null)]) hx hb (by decide +kernel : decode prog_18_method_150_code 13 = .ok (.istore 4, 2)) hl (by decide) rfl (fun ls hl => ?_)
  refine lv_aload_n hx hb (by decide +kernel : decode prog_18_method_150_code 15 = .ok (.aload_n 1, 1)) rfl (lv_at hl 3 rfl) ?_
  refine j_call (va_runU (b := h) (As := []) (rest := []) ⟨hx, hb, hml, hown, hts⟩ (jm_isLat l dC dI CA A L h (.ref b) (.int (nI n)) _ rfl) (va_cwU (owner := "java/lang/AbstractStringBuilder") (x := ⟨"java/lang/AbstractStringBuilder", "isLatin1", "()Z"⟩) 0 hts (jgU jk0 (vm_hw_in (i := 997) (by decide +kernel)) (vm_hw_in (i := 848) (by decide +kernel)) (vm_hw_in (i := 849) (by decide +kernel)) (vm_hw_in (i := 847) (by decide +kernel)) (vm_hw_in (i := 49) (by decide +kernel))) rfl rfl rfl rfl (by decide +kernel) ⟨Nat.le_of_ble_eq_true rfl, Nat.le_of_ble_eq_true rfl⟩) ⟨jB.blind, va_recv hK hP jcl12 (show (([(h, .inr (12, [.ref b, .int 0, .int 0, .int (nI n)])), (b, .inl (CA 101, a0, .inl f)), (q0, .inr (11, [.null, .int 0, .int 0, .int 0]))] : va_W))[0]? = _ from rfl), fun U hU hW => ⟨rfl, jB.of hK hX hL hA hP hD hS hU hW⟩⟩ rfl rfl hl.1 rfl (lv_room (Nat.le_of_ble_eq_true rfl)) (by decide +kernel : decode prog_18_method_150_code 16 = .ok (.invokevirtual 1047, 3)) ⟨by show ((0 + 0) + 0) + 0 ≤ 1; omega, by show ((0 + 0) + 0) + 0 ≤ n; omega⟩) hS (fun v ws H locs hR hP hD hS => ?_)
  obtain ⟨rfl, rfl⟩ := hR
  refine lv_if_eq (tgt := 41) hx hb (by decide +kernel : decode prog_18_method_150_code 19 = .ok (.ifCond .eq 22, 3)) (by decide) (fun z9 => absurd z9 (by decide)) (fun _ => ?_)
  refine lv_aload_n hx hb (by decide +kernel : decode prog_18_method_150_code 22 = .ok (.aload_n 0, 1)) rfl (lv_at hl 2 rfl) ?_
  refine lv_iconst (v := 0) hx hb (by decide +kernel : decode prog_18_method_150_code 23 = .ok (.iconst 0, 1)) (by decide) ?_
  refine va_putF hx hb hts jSin jSty jSok jSnm hown hK hP hD hS 2 rfl jcl11 1 (by decide) (hts (.fieldLink "java/lang/String" 15 "java/lang/String" "coder" "B") (vm_hw_in (i := 1018) (by decide +kernel))) (fun _ h => h) rfl hnm rfl (ty := .byte) rfl rfl rfl (Nat.le_of_ble_eq_true rfl) (by decide +kernel : decode prog_18_method_150_code 24 = .ok (.putfield 15, 3)) (fun H locs hP hD hS => ?_)
  have hP : va_P (dC, dI) vm_cls ([(h, .inr (12, [.ref b, .int 0, .int 0, .int (nI n)])), (b, .inl (CA 101, a0, .inl f)), (q0, .inr (11, [.null, .int 0, .int 0, .int 0]))]) _ := hP
  have hD : va_D A ([(h, .inr (12, [.ref b, .int 0, .int 0, .int (nI n)])), (b, .inl (CA 101, a0, .inl f)), (q0, .inr (11, [.null, .int 0, .int 0, .int 0]))]) := hD
  refine lv_aload_n hx hb (by decide +kernel : decode prog_18_method_150_code 27 = .ok (.aload_n 0, 1)) rfl (lv_at hl 2 rfl) ?_
  refine lv_aload_n hx hb (by decide +kernel : decode prog_18_method_150_code 28 = .ok (.aload_n 3, 1)) rfl (lv_at hl 1 rfl) ?_
  refine lv_iconst (v := 0) hx hb (by decide +kernel : decode prog_18_method_150_code 29 = .ok (.iconst 0, 1)) (by decide) ?_
  refine lv_iload hx hb (by decide +kernel : decode prog_18_method_150_code 30 = .ok (.iload 4, 2)) (lv_at hl 0 rfl) ?_
  refine j_call (va_runS (As := [.ref b, .int 0, .int (nI n)]) (rest := [.ref q0]) ⟨hx, hb, hml, hown, hts⟩ (jm_copyR l dC dI CA A L b n a0 1 f _ hn ha (Nat.le_of_ble_eq_true rfl) rfl hf) (va_cwS 3 hts (vm_gS jk26 (vm_hw_in (i := 998) (by decide +kernel)) (vm_hw_in (i := 999) (by decide +kernel)) (vm_hw_in (i := 55) (by decide +kernel))) rfl rfl rfl (by decide +kernel) ⟨Nat.le_of_ble_eq_true rfl, Nat.le_of_ble_eq_true rfl⟩) ⟨jB.blind, fun U hU hW => ⟨rfl, jB.of hK hX hL hA hP hD hS hU hW⟩⟩ rfl rfl hl.1 rfl (lv_room (Nat.le_of_ble_eq_true rfl)) (by decide +kernel : decode prog_18_method_150_code 32 = .ok (.invokestatic 54, 3)) ⟨by show (((0 + 0) + 0) + 0) + 1 ≤ 1; omega, by show (((0 + 0) + 0) + 0) + n ≤ n; omega⟩) hS (fun v ws H locs hR hP hD hS => ?_)
  obtain ⟨q1, f1, rfl, rfl, hf1, hk1⟩ := hR
  refine va_putF hx hb hts jSin jSty jSok jSnm hown hK hP hD hS 2 rfl jcl11 0 (by decide) (hts (.fieldLink "java/lang/String" 9 "java/lang/String" "value" "[B") (vm_hw_in (i := 1017) (by decide +kernel))) (fun _ h => h) rfl hnm rfl (ty := .array .byte) rfl rfl rfl (Nat.le_of_ble_eq_true rfl) (by decide +kernel : decode prog_18_method_150_code 35 = .ok (.putfield 9, 3)) (fun H locs hP hD hS => ?_)
  have hP : va_P (dC, dI) vm_cls ([(h, .inr (12, [.ref b, .int 0, .int 0, .int (nI n)])), (b, .inl (CA 101, a0, .inl f)), (q0, .inr (11, [.ref q1, .int 0, .int 0, .int 0])), (q1, .inl (CA 101, n, .inl f1))]) _ := hP
  have hD : va_D A ([(h, .inr (12, [.ref b, .int 0, .int 0, .int (nI n)])), (b, .inl (CA 101, a0, .inl f)), (q0, .inr (11, [.ref q1, .int 0, .int 0, .int 0])), (q1, .inl (CA 101, n, .inl f1))]) := hD
  refine lv_goto (tgt := 97) hx hb (by decide +kernel : decode prog_18_method_150_code 38 = .ok (.goto 59, 3)) (by decide) ?_
  refine W.widen (show ((((0 + 0) + 0) + 0) + 1) ≤ 1 by omega) (show ((((0 + 0) + 0) + 0) + n) ≤ n by omega) ?_
  exact W.vret hx hb hr (fun t ht hW => ⟨_, _, ⟨q1, f1, rfl, rfl, hf1, hk1⟩, rfl, by rw [ht]; exact hP, hD, hS.F ht⟩) hS.2.2 (by decide +kernel : decode prog_18_method_150_code 97 = .ok (.return_, 1))
theorem jk31 : Cond.code ⟨"java/lang/String", "<init>", "(Ljava/lang/StringBuilder;)V"⟩ prog_18_method_53_code 2 none ∈ vm_W := vm_code_in (vm_in4 (List.mem_of_getElem? (i := 222) (by rfl)))
set_option maxHeartbeats 4000000 in
theorem jm_strInit1 (l : Launch) (dC : Nat → ClassId) (dI : Nat → Nat → Nat) (CA : Nat → ClassId) (A : Nat → Prop) (L : jT) (h b n a0 q0 : Nat) (f : Nat → Int32) (hn : n ≤ a0) (ha : a0 ≤ 65536) (hf : sb_Fit f) : Met l ⟨"java/lang/String", "<init>", "(Ljava/lang/StringBuilder;)V"⟩ (Cond.code ⟨"java/lang/String", "<init>", "(Ljava/lang/StringBuilder;)V"⟩ prog_18_method_53_code 2 none :: vm_W) ({ frames := 4, cells := 1, slots := n, locals := 160 }) (va_Pc [.ref q0, .ref h] (jB dC dI CA A L ([(h, .inr (12, [.ref b, .int 0, .int 0, .int (nI n)])), (b, .inl (CA 101, a0, .inl f)), (q0, .inr (11, [.null, .int 0, .int 0, .int 0]))]))) (jE dC dI A (fun v ws => ∃ (b1 : Nat) (f1 : Nat → Int32), v = none ∧ ws = [(h, .inr (12, [.ref b, .int 0, .int 0, .int (nI n)])), (b, .inl (CA 101, a0, .inl f)), (q0, .inr (11, [.ref b1, .int 0, .int 0, .int 0])), (b1, .inl (CA 101, n, .inl f1))] ∧ sb_Fit f1 ∧ ∀ j, j < n → f1 j = f j)) 1 n A := by
  refine Met.ofW (cc := prog_18_method_53_code) (maxL := 2) (ret := none) (by decide) rfl ?_
  intro p e s m args below meth c s₁ B hml hv
  obtain ⟨rfl, hK, hX, hL, hP, hD, hA⟩ := hv
  have hx := B.exec
  have hb := B.bytes
  have hr := B.returns
  have hts := vm_tsW (atoms_spec B.pre)
  have hown : s.vm.findClass "java/lang/String" = some m.cls := findClass_of_methodNamed B.named
  have hlocks := B.notSynchronized
  have hnm : meth.name = "<init>" := (name_of_methodNamed B.named B.method).1
  have hS : va_S A s.heap s.heap [] := va_S.rf
  have hl := lv_entry ([.ref q0, .ref h]) (n := 2) (Nat.le_of_ble_eq_true rfl)
  rw [lg_entry_eq]
  generalize (lg_sl ([.ref q0, .ref h]) ++ List.replicate (2 - (lg_sl ([.ref q0, .ref h])).length) Slot.unset).toArray = ls at hl ⊢
  have hl : lv_has ls 2 [(0, .ref q0), (1, .ref h)] := hl
  refine lv_aload_n hx hb (by decide +kernel : decode prog_18_method_53_code 0 = .ok (.aload_n 0, 1)) rfl (lv_at hl 0 rfl) ?_
  refine lv_aload_n hx hb (by decide +kernel : decode prog_18_method_53_code 1 = .ok (.aload_n 1, 1)) rfl (lv_at hl 1 rfl) ?_
  refine lv_null hx hb (by decide +kernel : decode prog_18_method_53_code 2 = .ok (.aconst_null, 1)) ?_
  refine j_call (va_runI (b := q0) (As := [.ref h, .null]) (rest := []) ⟨hx, hb, hml, hown, hts⟩ (jm_strInit2 l dC dI CA A L h b n a0 q0 f hn ha hf) (cwI 2 hts (vm_gi (vm_ws_in jk30)) rfl rfl rfl (hts _ (vm_hw_in (i := 51) (by decide +kernel))) (hts _ (vm_hw_in (i := 980) (by decide +kernel))) (hts _ (vm_hw_in (i := 981) (by decide +kernel))) rfl (by decide +kernel) ⟨Nat.le_of_ble_eq_true rfl, Nat.le_of_ble_eq_true rfl⟩) ⟨jB.blind, fun U hU hW => ⟨rfl, jB.of hK hX hL hA hP hD hS hU hW⟩⟩ rfl rfl hl.1 rfl (lv_room (Nat.le_of_ble_eq_true rfl)) (by decide +kernel : decode prog_18_method_53_code 3 = .ok (.invokespecial 489, 3)) ⟨by show 0 + 1 ≤ 1; omega, by show 0 + n ≤ n; omega⟩) hS (fun v ws H locs hR hP hD hS => ?_)
  obtain ⟨b1, f1, rfl, rfl, hR⟩ := hR
  refine W.widen (show (0 + 1) ≤ 1 by omega) (show (0 + n) ≤ n by omega) ?_
  exact W.vret hx hb hr (fun t ht hW => ⟨_, _, ⟨b1, f1, rfl, rfl, hR⟩, rfl, by rw [ht]; exact hP, hD, hS.F ht⟩) hS.2.2 (by decide +kernel : decode prog_18_method_53_code 6 = .ok (.return_, 1))
theorem jk32 : Cond.code ⟨"java/lang/StringBuilder", "toString", "()Ljava/lang/String;"⟩ prog_19_method_42_code 1 (some (.object "java/lang/String")) ∈ vm_W := vm_code_in (vm_in4 (List.mem_of_getElem? (i := 217) (by rfl)))
set_option maxHeartbeats 4000000 in
theorem jm_toStr (l : Launch) (dC : Nat → ClassId) (dI : Nat → Nat → Nat) (CA : Nat → ClassId) (A : Nat → Prop) (L : jT) (h b n a0 : Nat) (f : Nat → Int32) (hn : n ≤ a0) (ha : a0 ≤ 65536) (hf : sb_Fit f) : Met l ⟨"java/lang/StringBuilder", "toString", "()Ljava/lang/String;"⟩ (Cond.code ⟨"java/lang/StringBuilder", "toString", "()Ljava/lang/String;"⟩ prog_19_method_42_code 1 (some (.object "java/lang/String")) :: vm_W) ({ frames := 5, cells := 2, slots := (4 + n), locals := 200 }) (va_Pc [.ref h] (jB dC dI CA A L (jW CA h b n a0 f))) (jE dC dI A (fun v ws => ∃ (q0 b1 : Nat) (f1 : Nat → Int32), v = some (.ref q0) ∧ ws = [(h, .inr (12, [.ref b, .int 0, .int 0, .int (nI n)])), (b, .inl (CA 101, a0, .inl f)), (q0, .inr (11, [.ref b1, .int 0, .int 0, .int 0])), (b1, .inl (CA 101, n, .inl f1))] ∧ sb_Fit f1 ∧ ∀ j, j < n → f1 j = f j)) 2 ((4 + n)) A := by
  refine Met.ofW (cc := prog_19_method_42_code) (maxL := 1) (ret := (some (.object "java/lang/String"))) (by decide) rfl ?_
  intro p e s m args below meth c s₁ B hml hv
  obtain ⟨rfl, hK, hX, hL, hP, hD, hA⟩ := hv
  have hx := B.exec
  have hb := B.bytes
  have hr := B.returns
  have hts := vm_tsW (atoms_spec B.pre)
  have hown : s.vm.findClass "java/lang/StringBuilder" = some m.cls := findClass_of_methodNamed B.named
  have hlocks := B.notSynchronized
  have hnm : meth.name = "toString" := (name_of_methodNamed B.named B.method).1
  have hS : va_S A s.heap s.heap [] := va_S.rf
  have hl := lv_entry ([.ref h]) (n := 1) (Nat.le_of_ble_eq_true rfl)
  rw [lg_entry_eq]
  generalize (lg_sl ([.ref h]) ++ List.replicate (1 - (lg_sl ([.ref h])).length) Slot.unset).toArray = ls at hl ⊢
  have hl : lv_has ls 1 [(0, .ref h)] := hl
  refine va_new hx hb hts jSin jSty jSok hown (hts (.classLink "java/lang/StringBuilder" 18 "java/lang/String") (vm_hw_in (i := 975) (by decide +kernel))) (hts _ (vm_hw_in (i := 976) (by decide +kernel))) (hts _ (vm_hw_in (i := 51) (by decide +kernel))) hK hP hD hS hA jcl11 (fs := [.null, .int 0, .int 0, .int 0]) (fun j hj => jSdf hj) (by show 0 + 1 ≤ 2; omega) (by show 0 + 4 ≤ 4 + n; omega) (by decide +kernel : decode prog_19_method_42_code 0 = .ok (.new 18, 3)) (fun q0 H hP hD hS => ?_)
  have hP : va_P (dC, dI) vm_cls ([(h, .inr (12, [.ref b, .int 0, .int 0, .int (nI n)])), (b, .inl (CA 101, a0, .inl f)), (q0, .inr (11, [.null, .int 0, .int 0, .int 0]))]) _ := hP
  have hD : va_D A ([(h, .inr (12, [.ref b, .int 0, .int 0, .int (nI n)])), (b, .inl (CA 101, a0, .inl f)), (q0, .inr (11, [.null, .int 0, .int 0, .int 0]))]) := hD
  refine lv_dup hx hb (by decide +kernel : decode prog_19_method_42_code 3 = .ok (.dup, 1)) rfl ?_
  refine lv_aload_n hx hb (by decide +kernel : decode prog_19_method_42_code 4 = .ok (.aload_n 0, 1)) rfl (lv_at hl 0 rfl) ?_
  refine j_call (va_runI (b := q0) (As := [.ref h]) (rest := [.ref q0]) ⟨hx, hb, hml, hown, hts⟩ (jm_strInit1 l dC dI CA A L h b n a0 q0 f hn ha hf) (cwI 1 hts (vm_gi (vm_ws_in jk31)) rfl rfl rfl (hts _ (vm_hw_in (i := 51) (by decide +kernel))) (hts _ (vm_hw_in (i := 977) (by decide +kernel))) (hts _ (vm_hw_in (i := 978) (by decide +kernel))) rfl (by decide +kernel) ⟨Nat.le_of_ble_eq_true rfl, Nat.le_of_ble_eq_true rfl⟩) ⟨jB.blind, fun U hU hW => ⟨rfl, jB.of hK hX hL hA hP hD hS hU hW⟩⟩ rfl rfl hl.1 rfl (lv_room (Nat.le_of_ble_eq_true rfl)) (by decide +kernel : decode prog_19_method_42_code 5 = .ok (.invokespecial 137, 3)) ⟨by show (0 + 1) + 1 ≤ 2; omega, by show (0 + 4) + n ≤ (4 + n); omega⟩) hS (fun v ws H locs hR hP hD hS => ?_)
  obtain ⟨b1, f1, rfl, rfl, hf1, hk1⟩ := hR
  refine W.widen (show ((0 + 1) + 1) ≤ 2 by omega) (show ((0 + 4) + n) ≤ (4 + n) by omega) ?_
  exact W.aret hx hb hr (Or.inl ⟨_, rfl⟩) (Or.inr ⟨_, rfl⟩) (fun t ht hW => ⟨_, _, ⟨q0, b1, f1, rfl, rfl, hf1, hk1⟩, rfl, by rw [ht]; exact hP, hD, hS.F ht⟩) hS.2.2 (by decide +kernel : decode prog_19_method_42_code 8 = .ok (.areturn, 1))
