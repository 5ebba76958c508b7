/-! ===== texts: the library's own length and charAt, over constants ===== -/
def vm_ff : Nat → Prop := fun _ => False
def vm_JF (q b n : Nat) (bf : Nat → Int32) (U : State) : Prop :=
  va_O "java/lang/String" q vm_ff U U.heap ∧ va_OF "java/lang/String" "value" "[B" (.ref b) q vm_ff U U.heap ∧ va_OF "java/lang/String" "coder" "B" (.int 0) q vm_ff U U.heap ∧ va_T .byte b n (fun j => .int (bf j)) vm_ff U U.heap ∧ va_Z "java/lang/String" "COMPACT_STRINGS" "Z" (.int 1) vm_ff U U.heap ∧ va_Zq "jdk/internal/util/Preconditions" "SIOOBE_FORMATTER" "Ljava/util/function/BiFunction;" vm_ff U U.heap
theorem vm_JF.to {q b n : Nat} {bf : Nat → Int32} {u U : State} (hh : U.heap = u.heap) (hvm : u.vm.Alike U.vm) (h : vm_JF q b n bf u) : vm_JF q b n bf U := by
  obtain ⟨h1, h2, h3, h4, h5, h6⟩ := h
  unfold vm_JF
  rw [hh]
  exact ⟨h1.moved hvm, h2.moved hvm, h3.moved hvm, h4.moved hvm, h5.moved hvm, h6.moved hvm⟩
theorem vm_gi {ws : List Cond} (h : ∀ w ∈ ws, w ∈ vm_W) : GoodIn vm_W ws := fun w hw => ⟨h w hw, good_of_word (vm_W_good (h w hw))⟩
theorem vm_code_in {y : MethodName} {b : ByteArray} {n : Nat} {r : Option FieldType} (h : Cond.code y b n r ∈ lw_tbl) : Cond.code y b n r ∈ vm_W := List.mem_filter.mpr ⟨List.mem_append_left _ h, rfl⟩
theorem vm_ws_in {w0 : Cond} (h : w0 ∈ vm_W) : ∀ w ∈ w0 :: vm_W, w ∈ vm_W := fun w hw => (List.mem_cons.mp hw).elim (fun e => e ▸ h) id
abbrev vm_yLen : MethodName := ⟨"java/lang/String", "length", "()I"⟩
abbrev vm_yCod : MethodName := ⟨"java/lang/String", "coder", "()B"⟩
abbrev vm_yLat : MethodName := ⟨"java/lang/String", "isLatin1", "()Z"⟩
abbrev vm_yChr : MethodName := ⟨"java/lang/String", "charAt", "(I)C"⟩
abbrev vm_yChl : MethodName := ⟨"java/lang/StringLatin1", "charAt", "([BI)C"⟩
abbrev vm_yChk : MethodName := ⟨"java/lang/String", "checkIndex", "(II)V"⟩
abbrev vm_yPre : MethodName := ⟨"jdk/internal/util/Preconditions", "checkIndex", "(IILjava/util/function/BiFunction;)I"⟩
theorem vm_kLen : Cond.code vm_yLen prog_18_method_54_code 1 (some .int) ∈ vm_W := vm_code_in (vm_in2 (List.mem_of_getElem? (i := 137) (by rfl)))
theorem vm_kCod : Cond.code vm_yCod prog_18_method_152_code 1 (some .byte) ∈ vm_W := vm_code_in (vm_in2 (List.mem_of_getElem? (i := 141) (by rfl)))
theorem vm_kLat : Cond.code vm_yLat prog_18_method_154_code 1 (some .boolean) ∈ vm_W := vm_code_in (vm_in2 (List.mem_of_getElem? (i := 151) (by rfl)))
theorem vm_kChr : Cond.code vm_yChr prog_18_method_56_code 2 (some .char) ∈ vm_W := vm_code_in (vm_in2 (List.mem_of_getElem? (i := 147) (by rfl)))
theorem vm_kChl : Cond.code vm_yChl prog_20_method_2_code 2 (some .char) ∈ vm_W := vm_code_in (vm_in2 (List.mem_of_getElem? (i := 154) (by rfl)))
theorem vm_kChk : Cond.code vm_yChk prog_18_method_155_code 2 none ∈ vm_W := vm_code_in (vm_in2 (List.mem_of_getElem? (i := 157) (by rfl)))
theorem vm_kPre : Cond.code vm_yPre prog_25_method_11_code 3 (some .int) ∈ vm_W := vm_code_in (vm_in2 (List.mem_of_getElem? (i := 162) (by rfl)))
theorem vm_gV {own : String} {idx : Nat} {C : String} {y : MethodName} {w0 : Cond} (h0 : w0 ∈ vm_W) (h1 : Cond.methodLink own idx y ∈ vm_W) (h2 : Cond.instanceMethod y ∈ vm_W) (h3 : Cond.selects C y y ∈ vm_W) (h4 : Cond.initialized C ∈ vm_W) : GoodIn vm_W (wsV own idx C y (w0 :: vm_W)) := by
  refine vm_gi (fun w hw => ?_)
  unfold wsV at hw
  rcases List.mem_append.mp hw with hw | hw
  · simp only [List.mem_cons, List.not_mem_nil, or_false] at hw
    rcases hw with rfl | rfl | rfl | rfl <;> assumption
  · exact vm_ws_in h0 w hw
theorem vm_gS {own : String} {idx : Nat} {y : MethodName} {w0 : Cond} (h0 : w0 ∈ vm_W) (h1 : Cond.methodLink own idx y ∈ vm_W) (h2 : Cond.static y ∈ vm_W) (h4 : Cond.initialized y.cls ∈ vm_W) : GoodIn vm_W (va_wsS own idx y (w0 :: vm_W)) := by
  refine vm_gi (fun w hw => ?_)
  unfold va_wsS at hw
  rcases List.mem_append.mp hw with hw | hw
  · simp only [List.mem_cons, List.not_mem_nil, or_false] at hw
    rcases hw with rfl | rfl | rfl <;> assumption
  · exact vm_ws_in h0 w hw
theorem vm_tsW {w0 : Cond} {args : Array Value} {s : State} (h : ∀ w ∈ w0 :: vm_W, w.before args s = true) : ∀ w ∈ vm_W, w.before args s = true := fun w hw => h w (List.mem_cons_of_mem _ hw)
set_option maxHeartbeats 4000000 in
theorem vm_mCod (l : Launch) (q b n : Nat) (bf : Nat → Int32) : Met l vm_yCod (Cond.code vm_yCod prog_18_method_152_code 1 (some .byte) :: vm_W) ({ frames := 0, cells := 0, slots := 0, locals := 0 }) (va_Pc [.ref q] (vm_JF q b n bf)) (vp_Si (fun r => r = 0)) 0 0 (fun _ => False) := by
  refine Met.ofW (cc := prog_18_method_152_code) (maxL := 1) (ret := some .byte) (by decide) rfl ?_
  intro p e s m args below meth c s₁ B hml hv
  obtain ⟨rfl, h1, h2, h3, h4, h5, h6⟩ := hv
  have hx := B.exec
  have hb := B.bytes
  have hr := B.returns
  have hts := vm_tsW (atoms_spec B.pre)
  have hown : s.vm.findClass "java/lang/String" = some m.cls := findClass_of_methodNamed B.named
  have hlocks := B.notSynchronized
  have hS : va_S vm_ff s.heap s.heap [] := va_S.rf
  have hl := lv_entry ([.ref q]) (n := 1) (Nat.le_of_ble_eq_true rfl)
  rw [lg_entry_eq]
  generalize (lg_sl ([.ref q]) ++ List.replicate (1 - (lg_sl ([.ref q])).length) Slot.unset).toArray = ls at hl ⊢
  have hl : lv_has ls 1 [(0, .ref q)] := hl
  refine va_gets hx hb h5 hS hown (hts (.fieldLink "java/lang/String" 38 "java/lang/String" "COMPACT_STRINGS" "Z") (vm_hw_in (i := 419) (by decide +kernel))) (fun _ h => h) (by decide +kernel : decode prog_18_method_152_code 0 = .ok (.getstatic 38, 3)) ?_
  refine lv_if_eq (tgt := 13) hx hb (by decide +kernel : decode prog_18_method_152_code 3 = .ok (.ifCond .eq 10, 3)) (by decide) (fun q => absurd q (by decide)) (fun _ => ?_)
  refine lv_aload_n hx hb (by decide +kernel : decode prog_18_method_152_code 6 = .ok (.aload_n 0, 1)) rfl (lv_at hl 0 rfl) ?_
  refine vk_getf hx hb h3 hS hown (hts (.fieldLink "java/lang/String" 15 "java/lang/String" "coder" "B") (vm_hw_in (i := 1018) (by decide +kernel))) (fun _ h => h) (by decide +kernel : decode prog_18_method_152_code 7 = .ok (.getfield 15, 3)) ?_
  refine lv_goto (tgt := 14) hx hb (by decide +kernel : decode prog_18_method_152_code 10 = .ok (.goto 4, 3)) (by decide) ?_
  exact W.zret (v := 0) hx hb hr rfl (fun t ht hW => ⟨0, rfl, rfl, ht⟩) (fun _ h => by cases h) (by decide +kernel : decode prog_18_method_152_code 14 = .ok (.ireturn, 1))
set_option maxHeartbeats 4000000 in
theorem vm_mLat (l : Launch) (q b n : Nat) (bf : Nat → Int32) : Met l vm_yLat (Cond.code vm_yLat prog_18_method_154_code 1 (some .boolean) :: vm_W) ({ frames := 0, cells := 0, slots := 0, locals := 0 }) (va_Pc [.ref q] (vm_JF q b n bf)) (vp_Si (fun r => r = 1)) 0 0 (fun _ => False) := by
  refine Met.ofW (cc := prog_18_method_154_code) (maxL := 1) (ret := some .boolean) (by decide) rfl ?_
  intro p e s m args below meth c s₁ B hml hv
  obtain ⟨rfl, h1, h2, h3, h4, h5, h6⟩ := hv
  have hx := B.exec
  have hb := B.bytes
  have hr := B.returns
  have hts := vm_tsW (atoms_spec B.pre)
  have hown : s.vm.findClass "java/lang/String" = some m.cls := findClass_of_methodNamed B.named
  have hlocks := B.notSynchronized
  have hS : va_S vm_ff s.heap s.heap [] := va_S.rf
  have hl := lv_entry ([.ref q]) (n := 1) (Nat.le_of_ble_eq_true rfl)
  rw [lg_entry_eq]
  generalize (lg_sl ([.ref q]) ++ List.replicate (1 - (lg_sl ([.ref q])).length) Slot.unset).toArray = ls at hl ⊢
  have hl : lv_has ls 1 [(0, .ref q)] := hl
  refine va_gets hx hb h5 hS hown (hts (.fieldLink "java/lang/String" 38 "java/lang/String" "COMPACT_STRINGS" "Z") (vm_hw_in (i := 419) (by decide +kernel))) (fun _ h => h) (by decide +kernel : decode prog_18_method_154_code 0 = .ok (.getstatic 38, 3)) ?_
  refine lv_if_eq (tgt := 17) hx hb (by decide +kernel : decode prog_18_method_154_code 3 = .ok (.ifCond .eq 14, 3)) (by decide) (fun q => absurd q (by decide)) (fun _ => ?_)
  refine lv_aload_n hx hb (by decide +kernel : decode prog_18_method_154_code 6 = .ok (.aload_n 0, 1)) rfl (lv_at hl 0 rfl) ?_
  refine vk_getf hx hb h3 hS hown (hts (.fieldLink "java/lang/String" 15 "java/lang/String" "coder" "B") (vm_hw_in (i := 1018) (by decide +kernel))) (fun _ h => h) (by decide +kernel : decode prog_18_method_154_code 7 = .ok (.getfield 15, 3)) ?_
  refine lv_if_ne (tgt := 17) hx hb (by decide +kernel : decode prog_18_method_154_code 10 = .ok (.ifCond .ne 7, 3)) (by decide) (fun q => absurd rfl q) (fun _ => ?_)
  refine lv_iconst (v := 1) hx hb (by decide +kernel : decode prog_18_method_154_code 13 = .ok (.iconst 1, 1)) (by decide) ?_
  refine lv_goto (tgt := 18) hx hb (by decide +kernel : decode prog_18_method_154_code 14 = .ok (.goto 4, 3)) (by decide) ?_
  exact W.zret (v := 1) hx hb hr rfl (fun t ht hW => ⟨1, rfl, rfl, ht⟩) (fun _ h => by cases h) (by decide +kernel : decode prog_18_method_154_code 18 = .ok (.ireturn, 1))
theorem vm_JF_pre {q b n : Nat} {bf : Nat → Int32} {s : State} (h : vm_JF q b n bf s) (As : List Value) : PreV s s.heap "java/lang/String" q (va_Pc (.ref q :: As) (vm_JF q b n bf)) As := by
  refine ⟨fun a U g mk hq => ⟨hq.1, hq.2.to (u := U) (U := U.calling g mk a) rfl (Vm.Alike.refl U.vm)⟩, ?_, fun U hU hW => ⟨rfl, h.to hU hW.alike⟩⟩
  obtain ⟨⟨cell, h1, h2, h3, -⟩, -⟩ := h
  exact ⟨cell, h1, h2, h3⟩
theorem vm_JF_preS {q b n : Nat} {bf : Nat → Int32} {s : State} (h : vm_JF q b n bf s) (As : List Value) : PreS s s.heap (va_Pc As (vm_JF q b n bf)) As :=
  ⟨fun a U g mk hq => ⟨hq.1, hq.2.to (u := U) (U := U.calling g mk a) rfl (Vm.Alike.refl U.vm)⟩, fun U hU hW => ⟨rfl, h.to hU hW.alike⟩⟩
set_option maxHeartbeats 4000000 in
theorem vm_mLen (l : Launch) (q b n : Nat) (bf : Nat → Int32) : Met l vm_yLen (Cond.code vm_yLen prog_18_method_54_code 1 (some .int) :: vm_W) ({ frames := 1, cells := 0, slots := 0, locals := 30 }) (va_Pc [.ref q] (vm_JF q b n bf)) (vp_Si (fun r => r = Int32.ofNat n >>> ((0 : Int32) &&& 31))) 0 0 (fun _ => False) := by
  refine Met.ofW (cc := prog_18_method_54_code) (maxL := 1) (ret := some .int) (by decide) rfl ?_
  intro p e s m args below meth c s₁ B hml hv
  obtain ⟨rfl, hJ⟩ := hv
  obtain ⟨h1, h2, h3, h4, h5, h6⟩ := id hJ
  have hx := B.exec
  have hb := B.bytes
  have hr := B.returns
  have hts := vm_tsW (atoms_spec B.pre)
  have hown : s.vm.findClass "java/lang/String" = some m.cls := findClass_of_methodNamed B.named
  have hlocks := B.notSynchronized
  have hS : va_S vm_ff s.heap s.heap [] := va_S.rf
  have hl := lv_entry ([.ref q]) (n := 1) (Nat.le_of_ble_eq_true rfl)
  rw [lg_entry_eq]
  generalize (lg_sl ([.ref q]) ++ List.replicate (1 - (lg_sl ([.ref q])).length) Slot.unset).toArray = ls at hl ⊢
  have hl : lv_has ls 1 [(0, .ref q)] := hl
  refine lv_aload_n hx hb (by decide +kernel : decode prog_18_method_54_code 0 = .ok (.aload_n 0, 1)) rfl (lv_at hl 0 rfl) ?_
  refine vk_getf hx hb h2 hS hown (hts (.fieldLink "java/lang/String" 9 "java/lang/String" "value" "[B") (vm_hw_in (i := 1017) (by decide +kernel))) (fun _ h => h) (by decide +kernel : decode prog_18_method_54_code 1 = .ok (.getfield 9, 3)) ?_
  refine va_tlen (v := Int32.ofNat n) hx hb h4 hS rfl (by decide +kernel : decode prog_18_method_54_code 4 = .ok (.arraylength, 1)) ?_
  refine lv_aload_n hx hb (by decide +kernel : decode prog_18_method_54_code 5 = .ok (.aload_n 0, 1)) rfl (lv_at hl 0 rfl) ?_
  refine vp_callSi (W.runV (As := []) (rest := [.int (Int32.ofNat n)]) ⟨hx, hb, hml, hown, hts⟩ (vm_mCod l q b n bf) (cwV 0 hts (vm_gV vm_kCod (vm_hw_in (i := 415) (by decide +kernel)) (vm_hw_in (i := 416) (by decide +kernel)) (vm_hw_in (i := 417) (by decide +kernel)) (vm_hw_in (i := 51) (by decide +kernel))) rfl rfl rfl (by decide +kernel) ⟨Nat.le_of_ble_eq_true rfl, Nat.le_of_ble_eq_true rfl⟩) (vm_JF_pre hJ []) rfl rfl hl.1 rfl (lv_room (Nat.le_of_ble_eq_true rfl)) (by decide +kernel : decode prog_18_method_54_code 6 = .ok (.invokevirtual 335, 3)) ⟨Nat.le_refl _, Nat.le_refl _⟩) (fun r hr1 => ?_)
  subst hr1
  refine lv_ishr hx hb (by decide +kernel : decode prog_18_method_54_code 9 = .ok (.ishr, 1)) ?_
  exact W.iret hx hb hr (fun t ht hW => ⟨_, rfl, rfl, ht⟩) (fun _ h => by cases h) (by decide +kernel : decode prog_18_method_54_code 10 = .ok (.ireturn, 1))
set_option maxHeartbeats 4000000 in
theorem vm_mPre (l : Launch) (i n : Int32) (v : Value) (hv0 : v = .null ∨ ∃ a, v = .ref a) (h0 : ¬ i < 0) (h1 : i < n) : Met l vm_yPre (Cond.code vm_yPre prog_25_method_11_code 3 (some .int) :: vm_W) ({ frames := 0, cells := 0, slots := 0, locals := 0 }) (va_Pc [.int i, .int n, v] (fun _ => True)) (vp_Si (fun r => r = i)) 0 0 (fun _ => False) := by
  refine Met.ofW (cc := prog_25_method_11_code) (maxL := 3) (ret := some .int) (by decide) rfl ?_
  intro p e s m args below meth c s₁ B hml hv
  obtain ⟨rfl, -⟩ := hv
  have hx := B.exec
  have hb := B.bytes
  have hr := B.returns
  have hlocks := B.notSynchronized
  have hc : v.category = 1 := by rcases hv0 with rfl | ⟨a, rfl⟩ <;> rfl
  have hlen : (lg_sl [Value.int i, .int n, v]).length ≤ 3 := by rcases hv0 with rfl | ⟨a, rfl⟩ <;> exact Nat.le_of_ble_eq_true rfl
  have hl := lv_entry ([.int i, .int n, v]) (n := 3) hlen
  rw [lg_entry_eq]
  generalize (lg_sl ([.int i, .int n, v]) ++ List.replicate (3 - (lg_sl ([.int i, .int n, v])).length) Slot.unset).toArray = ls at hl ⊢
  have hl : lv_has ls 3 [(0, .int i), (1, .int n), (2, v)] := hl
  refine lv_iload_n hx hb (by decide +kernel : decode prog_25_method_11_code 0 = .ok (.iload_n 0, 1)) rfl (lv_at hl 0 rfl) ?_
  refine lv_if_lt (tgt := 9) hx hb (by decide +kernel : decode prog_25_method_11_code 1 = .ok (.ifCond .lt 8, 3)) (by decide) (fun q => absurd q h0) (fun _ => ?_)
  refine lv_iload_n hx hb (by decide +kernel : decode prog_25_method_11_code 4 = .ok (.iload_n 0, 1)) rfl (lv_at hl 0 rfl) ?_
  refine lv_iload_n hx hb (by decide +kernel : decode prog_25_method_11_code 5 = .ok (.iload_n 1, 1)) rfl (lv_at hl 1 rfl) ?_
  refine lv_icmp_lt (tgt := 16) hx hb (by decide +kernel : decode prog_25_method_11_code 6 = .ok (.if_icmp .lt 10, 3)) (by decide) (fun _ => ?_) (fun q => absurd h1 q)
  refine lv_iload_n hx hb (by decide +kernel : decode prog_25_method_11_code 16 = .ok (.iload_n 0, 1)) rfl (lv_at hl 0 rfl) ?_
  exact W.iret hx hb hr (fun t ht hW => ⟨_, rfl, rfl, ht⟩) (fun _ h => by cases h) (by decide +kernel : decode prog_25_method_11_code 17 = .ok (.ireturn, 1))
theorem vm_callS0 {p : Program} {l : Launch} {e : Env} {R : Room} {s : State} {m : MethodId} {args : Array Value} {below : List Frame} {meth : Method} {c : Code} {H : Heap} {locs : List Loc} {cells slots : Nat} {Q : State → Prop} {pc : Nat} {ls : Array Slot} {rest st0 : List Value}
    (hr : CallRun p l e R s m args below meth c H locs cells slots 0 0 (F0 m pc ls st0) rest (fun st oc t => oc = .returned none ∧ t.heap = st.heap) (fun _ => False)) (kk : W p l e R s m args below meth c H locs cells slots Q (F0 m (pc + 3) ls rest)) : W p l e R s m args below meth c H locs cells slots Q (F0 m pc ls st0) := by
  intro T hT X
  obtain ⟨v, st₀, t, T', L, h0, X', hL, e1, ⟨hv, hh⟩, st⟩ := hr T hT X
  cases hv
  obtain ⟨t2, a1, b1⟩ := kk T' (by rw [e1, hh, h0]) (Stand.forget X' (fun q h => (hL q h).elim))
  exact ⟨t2, st t2 a1, b1⟩
set_option maxHeartbeats 4000000 in
theorem vm_mChk (l : Launch) (q b k : Nat) (bf : Nat → Int32) (i n : Int32) (h0 : ¬ i < 0) (h1 : i < n) : Met l vm_yChk (Cond.code vm_yChk prog_18_method_155_code 2 none :: vm_W) ({ frames := 1, cells := 0, slots := 0, locals := 30 }) (va_Pc [.int i, .int n] (vm_JF q b k bf)) (fun _ st oc t => oc = .returned none ∧ t.heap = st.heap) 0 0 (fun _ => False) := by
  refine Met.ofW (cc := prog_18_method_155_code) (maxL := 2) (ret := none) (by decide) rfl ?_
  intro p e s m args below meth c s₁ B hml hv
  obtain ⟨rfl, hJ⟩ := hv
  have h6 := hJ.2.2.2.2.2
  have hx := B.exec
  have hb := B.bytes
  have hr := B.returns
  have hts := vm_tsW (atoms_spec B.pre)
  have hown : s.vm.findClass "java/lang/String" = some m.cls := findClass_of_methodNamed B.named
  have hlocks := B.notSynchronized
  have hS : va_S vm_ff s.heap s.heap [] := va_S.rf
  have hl := lv_entry ([.int i, .int n]) (n := 2) (Nat.le_of_ble_eq_true rfl)
  rw [lg_entry_eq]
  generalize (lg_sl ([.int i, .int n]) ++ List.replicate (2 - (lg_sl ([.int i, .int n])).length) Slot.unset).toArray = ls at hl ⊢
  have hl : lv_has ls 2 [(0, .int i), (1, .int n)] := hl
  refine lv_iload_n hx hb (by decide +kernel : decode prog_18_method_155_code 0 = .ok (.iload_n 0, 1)) rfl (lv_at hl 0 rfl) ?_
  refine lv_iload_n hx hb (by decide +kernel : decode prog_18_method_155_code 1 = .ok (.iload_n 1, 1)) rfl (lv_at hl 1 rfl) ?_
  have key : ∀ v : Value, (v = .null ∨ ∃ a, v = .ref a) → va_Z "jdk/internal/util/Preconditions" "SIOOBE_FORMATTER" "Ljava/util/function/BiFunction;" v vm_ff s s.heap → W p l e ({ frames := 1, cells := 0, slots := 0, locals := 30 }) s m #[.int i, .int n] below meth c s.heap [] 0 0 (MQ below (fun _ st oc t => oc = .returned none ∧ t.heap = st.heap) #[.int i, .int n] s 0 0 (fun _ => False)) (F0 m 2 ls [.int n, .int i]) := by
    intro v hv hZ
    refine va_gets hx hb hZ hS hown (hts (.fieldLink "java/lang/String" 1053 "jdk/internal/util/Preconditions" "SIOOBE_FORMATTER" "Ljava/util/function/BiFunction;") (vm_hw_in (i := 435) (by decide +kernel))) (fun _ h => h) (by decide +kernel : decode prog_18_method_155_code 2 = .ok (.getstatic 1053, 3)) ?_
    refine vp_callSi (W.runS (As := [.int i, .int n, v]) (rest := []) ⟨hx, hb, hml, hown, hts⟩ (vm_mPre l i n v hv h0 h1) (va_cwS 3 hts (vm_gS vm_kPre (vm_hw_in (i := 437) (by decide +kernel)) (vm_hw_in (i := 438) (by decide +kernel)) (vm_hw_in (i := 57) (by decide +kernel))) rfl rfl rfl (by decide +kernel) ⟨Nat.le_of_ble_eq_true rfl, Nat.le_of_ble_eq_true rfl⟩) ⟨fun a U g mk hq => ⟨hq.1, trivial⟩, fun U hU hW => ⟨rfl, trivial⟩⟩ rfl rfl hl.1 rfl (lv_room (Nat.le_of_ble_eq_true rfl)) (by decide +kernel : decode prog_18_method_155_code 5 = .ok (.invokestatic 1059, 3)) ⟨Nat.le_refl _, Nat.le_refl _⟩) (fun r hr1 => ?_)
    refine lv_pop hx hb (by decide +kernel : decode prog_18_method_155_code 8 = .ok (.pop, 1)) rfl ?_
    exact W.vret hx hb hr (fun t ht hW => ⟨rfl, ht⟩) (fun _ h => by cases h) (by decide +kernel : decode prog_18_method_155_code 9 = .ok (.return_, 1))
  rcases h6 with h6 | ⟨t, h6⟩
  · exact key _ (Or.inl rfl) h6
  · exact key _ (Or.inr ⟨t, rfl⟩) h6
def vm_chr (x : Int32) : Int32 := ((x &&& 255).toUInt32 % 65536).toInt32
theorem vm_chr_n (x : Int32) : narrow .char (.int (vm_chr x)) = .int (vm_chr x) := pk_nc _
set_option maxHeartbeats 4000000 in
theorem vm_mChl (l : Launch) (q b k : Nat) (bf : Nat → Int32) (i : Int32) (hk : k < 2147483648) (h0 : ¬ i < 0) (h1 : i < Int32.ofNat k) (hin : vp_in i k) : Met l vm_yChl (Cond.code vm_yChl prog_20_method_2_code 2 (some .char) :: vm_W) ({ frames := 2, cells := 0, slots := 0, locals := 60 }) (va_Pc [.ref b, .int i] (vm_JF q b k bf)) (vp_Si (fun r => r = vm_chr (bf i.toNatClampNeg))) 0 0 (fun _ => False) := by
  refine Met.ofW (cc := prog_20_method_2_code) (maxL := 2) (ret := some .char) (by decide) rfl ?_
  intro p e s m args below meth c s₁ B hml hv
  obtain ⟨rfl, hJ⟩ := hv
  obtain ⟨h2, h3, h4, h5, h6, h7⟩ := id hJ
  have hx := B.exec
  have hb := B.bytes
  have hr := B.returns
  have hts := vm_tsW (atoms_spec B.pre)
  have hown : s.vm.findClass "java/lang/StringLatin1" = some m.cls := findClass_of_methodNamed B.named
  have hlocks := B.notSynchronized
  have hS : va_S vm_ff s.heap s.heap [] := va_S.rf
  have hl := lv_entry ([.ref b, .int i]) (n := 2) (Nat.le_of_ble_eq_true rfl)
  rw [lg_entry_eq]
  generalize (lg_sl ([.ref b, .int i]) ++ List.replicate (2 - (lg_sl ([.ref b, .int i])).length) Slot.unset).toArray = ls at hl ⊢
  have hl : lv_has ls 2 [(0, .ref b), (1, .int i)] := hl
  refine lv_iload_n hx hb (by decide +kernel : decode prog_20_method_2_code 0 = .ok (.iload_n 1, 1)) rfl (lv_at hl 1 rfl) ?_
  refine lv_aload_n hx hb (by decide +kernel : decode prog_20_method_2_code 1 = .ok (.aload_n 0, 1)) rfl (lv_at hl 0 rfl) ?_
  refine va_tlen (v := Int32.ofNat k) hx hb h5 hS rfl (by decide +kernel : decode prog_20_method_2_code 2 = .ok (.arraylength, 1)) ?_
  refine vm_callS0 (W.runS (As := [.int i, .int (Int32.ofNat k)]) (rest := []) ⟨hx, hb, hml, hown, hts⟩ (vm_mChk l q b k bf i (Int32.ofNat k) h0 h1) (va_cwS 2 hts (vm_gS vm_kChk (vm_hw_in (i := 432) (by decide +kernel)) (vm_hw_in (i := 433) (by decide +kernel)) (vm_hw_in (i := 51) (by decide +kernel))) rfl rfl rfl (by decide +kernel) ⟨Nat.le_of_ble_eq_true rfl, Nat.le_of_ble_eq_true rfl⟩) (vm_JF_preS hJ _) rfl rfl hl.1 rfl (lv_room (Nat.le_of_ble_eq_true rfl)) (by decide +kernel : decode prog_20_method_2_code 3 = .ok (.invokestatic 9, 3)) ⟨Nat.le_refl _, Nat.le_refl _⟩) ?_
  refine lv_aload_n hx hb (by decide +kernel : decode prog_20_method_2_code 6 = .ok (.aload_n 0, 1)) rfl (lv_at hl 0 rfl) ?_
  refine lv_iload_n hx hb (by decide +kernel : decode prog_20_method_2_code 7 = .ok (.iload_n 1, 1)) rfl (lv_at hl 1 rfl) ?_
  refine va_tb hx hb h5 hS hin rfl (by decide +kernel : decode prog_20_method_2_code 8 = .ok (.baload, 1)) ?_
  refine lv_sipush (v := 255) hx hb (by decide +kernel : decode prog_20_method_2_code 9 = .ok (.sipush 255, 3)) (by decide) ?_
  refine lv_iand hx hb (by decide +kernel : decode prog_20_method_2_code 12 = .ok (.iand, 1)) ?_
  refine lv_i2c (v := vm_chr (bf i.toNatClampNeg)) hx hb (by decide +kernel : decode prog_20_method_2_code 13 = .ok (.i2c, 1)) rfl ?_
  exact W.zret hx hb hr (vm_chr_n _) (fun t ht hW => ⟨_, rfl, rfl, ht⟩) (fun _ h => by cases h) (by decide +kernel : decode prog_20_method_2_code 14 = .ok (.ireturn, 1))
set_option maxHeartbeats 4000000 in
theorem vm_mChr (l : Launch) (q b k : Nat) (bf : Nat → Int32) (i : Int32) (hk : k < 2147483648) (h0 : ¬ i < 0) (h1 : i < Int32.ofNat k) (hin : vp_in i k) : Met l vm_yChr (Cond.code vm_yChr prog_18_method_56_code 2 (some .char) :: vm_W) ({ frames := 3, cells := 0, slots := 0, locals := 90 }) (va_Pc [.ref q, .int i] (vm_JF q b k bf)) (vp_Si (fun r => r = vm_chr (bf i.toNatClampNeg))) 0 0 (fun _ => False) := by
  refine Met.ofW (cc := prog_18_method_56_code) (maxL := 2) (ret := some .char) (by decide) rfl ?_
  intro p e s m args below meth c s₁ B hml hv
  obtain ⟨rfl, hJ⟩ := hv
  obtain ⟨h2, h3, h4, h5, h6, h7⟩ := id hJ
  have hx := B.exec
  have hb := B.bytes
  have hr := B.returns
  have hts := vm_tsW (atoms_spec B.pre)
  have hown : s.vm.findClass "java/lang/String" = some m.cls := findClass_of_methodNamed B.named
  have hlocks := B.notSynchronized
  have hS : va_S vm_ff s.heap s.heap [] := va_S.rf
  have hl := lv_entry ([.ref q, .int i]) (n := 2) (Nat.le_of_ble_eq_true rfl)
  rw [lg_entry_eq]
  generalize (lg_sl ([.ref q, .int i]) ++ List.replicate (2 - (lg_sl ([.ref q, .int i])).length) Slot.unset).toArray = ls at hl ⊢
  have hl : lv_has ls 2 [(0, .ref q), (1, .int i)] := hl
  refine lv_aload_n hx hb (by decide +kernel : decode prog_18_method_56_code 0 = .ok (.aload_n 0, 1)) rfl (lv_at hl 0 rfl) ?_
  refine vp_callSi (W.runV (As := []) (rest := []) ⟨hx, hb, hml, hown, hts⟩ (vm_mLat l q b k bf) (cwV 0 hts (vm_gV vm_kLat (vm_hw_in (i := 425) (by decide +kernel)) (vm_hw_in (i := 426) (by decide +kernel)) (vm_hw_in (i := 427) (by decide +kernel)) (vm_hw_in (i := 51) (by decide +kernel))) rfl rfl rfl (by decide +kernel) ⟨Nat.le_of_ble_eq_true rfl, Nat.le_of_ble_eq_true rfl⟩) (vm_JF_pre hJ []) rfl rfl hl.1 rfl (lv_room (Nat.le_of_ble_eq_true rfl)) (by decide +kernel : decode prog_18_method_56_code 1 = .ok (.invokevirtual 492, 3)) ⟨Nat.le_refl _, Nat.le_refl _⟩) (fun r hr1 => ?_)
  subst hr1
  refine lv_if_eq (tgt := 16) hx hb (by decide +kernel : decode prog_18_method_56_code 4 = .ok (.ifCond .eq 12, 3)) (by decide) (fun q => absurd q (by decide)) (fun _ => ?_)
  refine lv_aload_n hx hb (by decide +kernel : decode prog_18_method_56_code 7 = .ok (.aload_n 0, 1)) rfl (lv_at hl 0 rfl) ?_
  refine vk_getf hx hb h3 hS hown (hts (.fieldLink "java/lang/String" 9 "java/lang/String" "value" "[B") (vm_hw_in (i := 1017) (by decide +kernel))) (fun _ h => h) (by decide +kernel : decode prog_18_method_56_code 8 = .ok (.getfield 9, 3)) ?_
  refine lv_iload_n hx hb (by decide +kernel : decode prog_18_method_56_code 11 = .ok (.iload_n 1, 1)) rfl (lv_at hl 1 rfl) ?_
  refine vp_callSi (W.runS (As := [.ref b, .int i]) (rest := []) ⟨hx, hb, hml, hown, hts⟩ (vm_mChl l q b k bf i hk h0 h1 hin) (va_cwS 2 hts (vm_gS vm_kChl (vm_hw_in (i := 429) (by decide +kernel)) (vm_hw_in (i := 430) (by decide +kernel)) (vm_hw_in (i := 58) (by decide +kernel))) rfl rfl rfl (by decide +kernel) ⟨Nat.le_of_ble_eq_true rfl, Nat.le_of_ble_eq_true rfl⟩) (vm_JF_preS hJ _) rfl rfl hl.1 rfl (lv_room (Nat.le_of_ble_eq_true rfl)) (by decide +kernel : decode prog_18_method_56_code 12 = .ok (.invokestatic 495, 3)) ⟨Nat.le_refl _, Nat.le_refl _⟩) (fun r hr1 => ?_)
  subst hr1
  exact W.zret hx hb hr (vm_chr_n _) (fun t ht hW => ⟨_, rfl, rfl, ht⟩) (fun _ h => by cases h) (by decide +kernel : decode prog_18_method_56_code 15 = .ok (.ireturn, 1))
