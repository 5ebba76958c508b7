/-! ===== the library's builders of text: the worlds that its methods are told in ===== -/
abbrev jT : Type := List (Nat × Nat × Nat × (Nat → Int32))
def jd1 (j : Nat) : Int32 := nI (48 + j % 10)
def jd2 (j : Nat) : Int32 := nI (48 + j / 10)
def jX (A : Nat → Prop) (U : State) (H : Heap) : Prop :=
  va_Z "java/lang/String" "COMPACT_STRINGS" "Z" (.int 1) A U H ∧ va_Zq "jdk/internal/util/Preconditions" "SIOOBE_FORMATTER" "Ljava/util/function/BiFunction;" A U H
  ∧ (∃ t, va_Z "java/lang/Integer" "DigitOnes" "[B" (.ref t) A U H ∧ va_T .byte t 100 (fun j => .int (jd1 j)) A U H)
  ∧ (∃ t, va_Z "java/lang/Integer" "DigitTens" "[B" (.ref t) A U H ∧ va_T .byte t 100 (fun j => .int (jd2 j)) A U H)
  ∧ va_Nw (.castable "[B" "java/lang/Cloneable") U
theorem jX.to {A : Nat → Prop} {u U : State} {H H1 : Heap} (hvm : u.vm.Alike U.vm) (hq : ∀ a : Nat, a < H.size → ¬ A a → H1[a]? = H[a]?) (hN : va_Nw (.castable "[B" "java/lang/Cloneable") u → va_Nw (.castable "[B" "java/lang/Cloneable") U) (h : jX A u H) : jX A U H1 := by
  obtain ⟨h1, h2, ⟨t, h3, h4⟩, ⟨t2, h5, h6⟩, h7⟩ := h
  exact ⟨(h1.kept hq).moved hvm, (h2.kept hq).moved hvm, ⟨t, (h3.kept hq).moved hvm, (h4.kept hq).moved hvm⟩, ⟨t2, (h5.kept hq).moved hvm, (h6.kept hq).moved hvm⟩, hN h7⟩
theorem jX.narrow {A B : Nat → Prop} {U : State} {H : Heap} (hAB : ∀ q, B q → A q) (h : jX A U H) : jX B U H := by
  obtain ⟨h1, h2, ⟨t, h3, h4⟩, ⟨t2, h5, h6⟩, h7⟩ := h
  exact ⟨h1.narrow hAB, h2.narrow hAB, ⟨t, h3.narrow hAB, h4.narrow hAB⟩, ⟨t2, h5.narrow hAB, h6.narrow hAB⟩, h7⟩
/-- a text that is only read: its address, that of its bytes, its length, its bytes -/
def jS (A : Nat → Prop) (U : State) (H : Heap) (x : Nat × Nat × Nat × (Nat → Int32)) : Prop :=
  va_O "java/lang/String" x.1 A U H ∧ va_OF "java/lang/String" "value" "[B" (.ref x.2.1) x.1 A U H ∧ va_OF "java/lang/String" "coder" "B" (.int 0) x.1 A U H ∧ va_T .byte x.2.1 x.2.2.1 (fun j => .int (x.2.2.2 j)) A U H
theorem jS.to {A : Nat → Prop} {u U : State} {H H1 : Heap} {x : Nat × Nat × Nat × (Nat → Int32)} (hvm : u.vm.Alike U.vm) (hq : ∀ a : Nat, a < H.size → ¬ A a → H1[a]? = H[a]?) (h : jS A u H x) : jS A U H1 x := by
  obtain ⟨h1, h2, h3, h4⟩ := h
  exact ⟨(h1.kept hq).moved hvm, (h2.kept hq).moved hvm, (h3.kept hq).moved hvm, (h4.kept hq).moved hvm⟩
theorem jS.narrow {A B : Nat → Prop} {U : State} {H : Heap} {x : Nat × Nat × Nat × (Nat → Int32)} (hAB : ∀ q, B q → A q) (h : jS A U H x) : jS B U H x := by
  obtain ⟨h1, h2, h3, h4⟩ := h
  exact ⟨h1.narrow hAB, h2.narrow hAB, h3.narrow hAB, h4.narrow hAB⟩
/-- a method's start -/
def jB (dC : Nat → ClassId) (dI : Nat → Nat → Nat) (CA : Nat → ClassId) (A : Nat → Prop) (L : jT) (ws : va_W) (U : State) : Prop :=
  va_K (dC, dI) vm_cls (vm_tys CA) U ∧ jX A U U.heap ∧ (∀ x ∈ L, jS A U U.heap x) ∧ va_P (dC, dI) vm_cls ws U.heap ∧ va_D A ws ∧ ∀ q, U.heap.size ≤ q → A q
theorem jB.same {dC : Nat → ClassId} {dI : Nat → Nat → Nat} {CA : Nat → ClassId} {A : Nat → Prop} {L : jT} {ws : va_W} {u U : State} (hh : U.heap = u.heap) (hv : u.vm = U.vm) (h : jB dC dI CA A L ws u) : jB dC dI CA A L ws U := by
  obtain ⟨h1, h2, h3, h4, h5, h6⟩ := h
  have ha : u.vm.Alike U.vm := by rw [hv]; exact Vm.Alike.refl _
  exact ⟨h1.moved ha, h2.to ha (fun a _ _ => by rw [hh]) (va_Nw.same rfl hv), fun x hx => (h3 x hx).to ha (fun a _ _ => by rw [hh]), by rw [hh]; exact h4, h5, by rw [hh]; exact h6⟩
theorem jB.blind {dC : Nat → ClassId} {dI : Nat → Nat → Nat} {CA : Nat → ClassId} {A : Nat → Prop} {L : jT} {ws : va_W} {av : List Value} : FrameBlind (va_Pc av (jB dC dI CA A L ws)) := fun _ U g mk h => ⟨h.1, jB.same (u := U) (U := U.calling g mk _) rfl rfl h.2⟩
/-- a method's end -/
def jE (dC : Nat → ClassId) (dI : Nat → Nat → Nat) (A : Nat → Prop) (Rr : Option Value → va_W → Prop) : Array Value → State → Outcome → State → Prop := fun _ st o t =>
  ∃ v ws, Rr v ws ∧ o = .returned v ∧ va_P (dC, dI) vm_cls ws t.heap ∧ va_D A ws ∧ va_F A st t
section JB
variable {p : Program} {l : Launch} {e : Env} {R : Room} {s : State} {m : MethodId} {args : Array Value} {below : List Frame} {meth : Method} {c : Code} {Q : State → Prop}
variable {dC : Nat → ClassId} {dI : Nat → Nat → Nat} {CA : Nat → ClassId} {A : Nat → Prop}
theorem jB.of {L : jT} {ws : va_W} {H : Heap} {locs : List Loc} {U : State} (hK : va_K (dC, dI) vm_cls (vm_tys CA) s) (hX : jX A s s.heap) (hL : ∀ x ∈ L, jS A s s.heap x) (hA : ∀ q, s.heap.size ≤ q → A q) (hP : va_P (dC, dI) vm_cls ws H) (hD : va_D A ws) (hS : va_S A s.heap H locs) (hU : U.heap = H) (hW : s.WarmedH U.vm) : jB dC dI CA A L ws U := by
  subst hU
  exact ⟨hK.moved hW.alike, hX.to hW.alike hS.2.1 (va_Nw.warmC hW), fun x hx => (hL x hx).to hW.alike hS.2.1, hP, hD, fun q hq => hA q (Nat.le_trans hS.1 hq)⟩
theorem j_call {cells slots mc ms pc : Nat} {ls : Array Slot} {H : Heap} {locs : List Loc} {Rr : Option Value → va_W → Prop} {av : Array Value} {st0 rest : List Value} (hr : va_Run p l e R s m args below meth c H locs cells slots mc ms (F0 m pc ls st0) rest (jE dC dI A Rr av) A) (hS : va_S A s.heap H locs)
    (kk : ∀ (v : Option Value) (ws : va_W) (H1 : Heap) (locs1 : List Loc), Rr v ws → va_P (dC, dI) vm_cls ws H1 → va_D A ws → va_S A s.heap H1 locs1 → W p l e R s m args below meth c H1 locs1 (cells + mc) (slots + ms) Q (F0 m (pc + 3) ls (v.toList ++ rest))) : W p l e R s m args below meth c H locs cells slots Q (F0 m pc ls st0) := by
  intro T hT X
  obtain ⟨v, st₀, t, T', L, h0, X', hL, e1, e2, ⟨v', ws', hRr, hv, hP, hD, hF⟩, st⟩ := hr T hT X
  injection hv with hv
  subst hv
  have hz : H.size ≤ T'.heap.size := by rw [e1, ← h0]; exact hF.1
  have hk : ∀ q : Nat, q < H.size → ¬ A q → T'.heap[q]? = H[q]? := fun q h1 h2 => by rw [e1, hF.2 q (by rw [h0]; exact h1) h2, h0]
  obtain ⟨t2, a1, b1⟩ := kk _ ws' T'.heap (locs ++ L) hRr (by rw [e1]; exact hP) hD ⟨Nat.le_trans hS.1 hz, fun q h1 h2 => by rw [hk q (Nat.lt_of_lt_of_le h1 hS.1) h2]; exact hS.2.1 q h1 h2, fun q hq => by
      rcases List.mem_append.mp hq with h | h
      · exact hS.2.2 q h
      · exact hL q h⟩ T' rfl X'
  refine ⟨t2, ?_, b1⟩
  cases v with
  | none => exact st t2 a1
  | some v => exact st t2 a1
theorem jtop {cells slots pc : Nat} {ls : Array Slot} {H : Heap} {locs : List Loc} {rest : List Value} {x : Int32} (y : Int32) (h : x = y) (k : W p l e R s m args below meth c H locs cells slots Q (F0 m pc ls (.int y :: rest))) : W p l e R s m args below meth c H locs cells slots Q (F0 m pc ls (.int x :: rest)) := by
  rw [h]; exact k
end JB
theorem jgU {own : String} {idx : Nat} {C owner : String} {x y : MethodName} {w0 : Cond} (h0 : w0 ∈ vm_W) (h1 : Cond.methodLink own idx x ∈ vm_W) (h2 : Cond.sameMethod x.cls owner x.name x.desc ∈ vm_W) (h3 : Cond.selects C x y ∈ vm_W) (h4 : Cond.instanceMethod y ∈ vm_W) (h5 : Cond.initialized y.cls ∈ vm_W) : GoodIn vm_W (va_wsU own idx C owner x y (w0 :: vm_W)) := by
  refine vm_gi (fun w hw => ?_)
  unfold va_wsU at hw
  rcases List.mem_append.mp hw with hw | hw
  · simp only [List.mem_cons, List.not_mem_nil, or_false] at hw
    rcases hw with rfl | rfl | rfl | rfl | rfl <;> assumption
  · exact vm_ws_in h0 w hw
theorem jgO {own : String} {idx : Nat} {C owner : String} {x y : MethodName} {w0 : Cond} (h0 : w0 ∈ vm_W) (h1 : Cond.methodLink own idx x ∈ vm_W) (h2 : Cond.sameMethod x.cls owner x.name x.desc ∈ vm_W) (h6 : Cond.instanceMethod ⟨owner, x.name, x.desc⟩ ∈ vm_W) (h3 : Cond.selects C x y ∈ vm_W) (h4 : Cond.instanceMethod y ∈ vm_W) (h5 : Cond.initialized y.cls ∈ vm_W) : GoodIn vm_W (va_wsO own idx C owner x y (w0 :: vm_W)) := by
  refine vm_gi (fun w hw => ?_)
  unfold va_wsO at hw
  rcases List.mem_append.mp hw with hw | hw
  · simp only [List.mem_cons, List.not_mem_nil, or_false] at hw
    rcases hw with rfl | rfl | rfl | rfl | rfl | rfl <;> assumption
  · exact vm_ws_in h0 w hw
theorem jgSU {own : String} {idx : Nat} {y : MethodName} {w0 : Cond} (h0 : w0 ∈ vm_W) (h1 : Cond.methodLink own idx y ∈ vm_W) (h2 : Cond.sameMethod y.cls y.cls y.name y.desc ∈ vm_W) (h3 : Cond.superclass own y.cls ∈ vm_W) (h4 : Cond.instanceMethod y ∈ vm_W) (h5 : Cond.initialized y.cls ∈ vm_W) : GoodIn vm_W (va_wsSU own idx y (w0 :: vm_W)) := by
  refine vm_gi (fun w hw => ?_)
  unfold va_wsSU at hw
  rcases List.mem_append.mp hw with hw | hw
  · simp only [List.mem_cons, List.not_mem_nil, or_false] at hw
    rcases hw with rfl | rfl | rfl | rfl | rfl <;> assumption
  · exact vm_ws_in h0 w hw
/-! classes String (11), StringBuilder (12) -/
def jSBty : Nat → FieldType := fun k => match k with
  | 0 => .array .byte
  | 1 => .byte
  | 2 => .boolean
  | _ => .int
def jSty : Nat → FieldType := fun k => match k with
  | 0 => .array .byte
  | 1 => .byte
  | 2 => .int
  | _ => .boolean
theorem jSBok : ∀ k, k < 4 → parseFieldDescriptor (vm_TB k).2.2.1 = some (jSBty k) := by decide +kernel
theorem jSok : ∀ k, k < 4 → parseFieldDescriptor (vm_TS k).2.2.1 = some (jSty k) := by decide +kernel
theorem jSBnm : ∀ a, a < 4 → ∀ b, b < 4 → a ≠ b → (vm_TB a).2.1 ≠ (vm_TB b).2.1 := by decide +kernel
theorem jSnm : ∀ a, a < 4 → ∀ b, b < 4 → a ≠ b → (vm_TS a).2.1 ≠ (vm_TS b).2.1 := by decide +kernel
theorem jcl11 : vm_cls[11]? = some ("java/lang/String", vm_TS, 4) := by rfl
theorem jcl12 : vm_cls[12]? = some ("java/lang/StringBuilder", vm_TB, 4) := by rfl
theorem jSBin : ∀ w ∈ u_ws "java/lang/StringBuilder" vm_TB 4, w ∈ vm_W := by
  intro w hw
  obtain ⟨k, hk, rfl⟩ := List.mem_map.mp hw
  have hk := List.mem_range.mp hk
  have : k = 0 ∨ k = 1 ∨ k = 2 ∨ k = 3 := by omega
  rcases this with rfl | rfl | rfl | rfl
  · exact vm_hw_in (i := 904) (by decide +kernel)
  · exact vm_hw_in (i := 906) (by decide +kernel)
  · exact vm_hw_in (i := 908) (by decide +kernel)
  · exact vm_hw_in (i := 910) (by decide +kernel)
theorem jSin : ∀ w ∈ u_ws "java/lang/String" vm_TS 4, w ∈ vm_W := by
  intro w hw
  obtain ⟨k, hk, rfl⟩ := List.mem_map.mp hw
  have hk := List.mem_range.mp hk
  have : k = 0 ∨ k = 1 ∨ k = 2 ∨ k = 3 := by omega
  rcases this with rfl | rfl | rfl | rfl
  · exact vm_hw_in (i := 1019) (by decide +kernel)
  · exact vm_hw_in (i := 1021) (by decide +kernel)
  · exact vm_hw_in (i := 1023) (by decide +kernel)
  · exact vm_hw_in (i := 1025) (by decide +kernel)
abbrev jW (CA : Nat → ClassId) (h b n m : Nat) (f : Nat → Int32) : va_W := [(h, .inr (12, [.ref b, .int 0, .int 0, .int (nI n)])), (b, .inl (CA 101, m, .inl f))]
/-- what more room costs: nothing while there is room -/
def sb_k (q a0 : Nat) : Nat := if q ≤ a0 then 0 else 1
def sb_z (q a0 : Nat) : Nat := if q ≤ a0 then 0 else sb_cap q a0
section JN
variable {p : Program} {l : Launch} {e : Env} {R : Room} {s : State} {m : MethodId} {args : Array Value} {below : List Frame} {meth : Method} {c : Code} {Q : State → Prop}
variable {dC : Nat → ClassId} {dI : Nat → Nat → Nat} {CA : Nat → ClassId} {A : Nat → Prop}
/-- a new row of bytes -/
theorem j_newb {cc : ByteArray} {cells slots pc : Nat} {ls : Array Slot} {H : Heap} {locs : List Loc} {rest : List Value} {ws : va_W} {N : Nat} (hx : p.tables.exec = Jvm.exec) (hb : c.code = cc) (hts : ∀ w ∈ vm_W, w.before args s = true) (hK : va_K (dC, dI) vm_cls (vm_tys CA) s) (hP : va_P (dC, dI) vm_cls ws H) (hD : va_D A ws) (hS : va_S A s.heap H locs) (hA : ∀ q, s.heap.size ≤ q → A q) (hN : N < 16777216) (hcells : cells + 1 ≤ R.cells) (hslots : slots + N ≤ R.slots) (hd : decode cc pc = .ok (.newarray .byte, 2))
    (kk : ∀ (q : Nat) (H1 : Heap), va_P (dC, dI) vm_cls (ws ++ [(q, .inl (CA 101, N, .inl (fun _ => 0)))]) H1 → va_D A (ws ++ [(q, .inl (CA 101, N, .inl (fun _ => 0)))]) → va_S A s.heap H1 locs → W p l e R s m args below meth c H1 locs (cells + 1) (slots + N) Q (F0 m (pc + 2) ls (.ref q :: rest))) : W p l e R s m args below meth c H locs cells slots Q (F0 m pc ls (.int (nI N) :: rest)) := by
  refine va_newa (atype := .byte) (a0 := (N, .inl (fun _ => 0))) hx hb (hts _ (vm_hw_in vm_okX2)) rfl hK hP hD hS hA (fun cA => by rw [vp_cell_i]; rfl) (nI_pos (by omega)) (nI_clamp (by omega)) (by show N * 1 ≤ 536870912; omega) hcells hslots hd (fun q cA H1 hK1 h1 h2 h3 => ?_)
  have e1 := (hK1.2 5 _ rfl).2
  have e2 := (hK.2 1 _ rfl).2
  have e : cA = CA 101 := Option.some.inj (e1.symm.trans e2)
  subst e
  exact kk q H1 h1 h2 h3
end JN
theorem jmax {a b : Nat} (ha : a < 2 ^ 31) (hb : b < 2 ^ 31) : (if nI a < nI b then nI b else nI a) = nI (if a < b then b else a) := by
  by_cases h : a < b
  · rw [if_pos h, if_pos (nI_lt h hb)]
  · rw [if_neg h, if_neg (nI_nlt (by omega) ha)]
theorem jmin {a b : Nat} (ha : a < 2 ^ 31) (hb : b < 2 ^ 31) : (if nI b < nI a then nI b else nI a) = nI (if b < a then b else a) := by
  by_cases h : b < a
  · rw [if_pos h, if_pos (nI_lt h ha)]
  · rw [if_neg h, if_neg (nI_nlt (by omega) hb)]
theorem jk0 : Cond.code ⟨"java/lang/AbstractStringBuilder", "isLatin1", "()Z"⟩ prog_14_method_68_code 1 (some .boolean) ∈ vm_W := vm_code_in (vm_in4 (List.mem_of_getElem? (i := 93) (by rfl)))
set_option maxHeartbeats 4000000 in
theorem jm_isLat (l : Launch) (dC : Nat → ClassId) (dI : Nat → Nat → Nat) (CA : Nat → ClassId) (A : Nat → Prop) (L : jT) (h : Nat) (vb vn : Value) (w0 : va_W) (hw : w0[0]? = some (h, .inr (12, [vb, .int 0, .int 0, vn]))) : Met l ⟨"java/lang/AbstractStringBuilder", "isLatin1", "()Z"⟩ (Cond.code ⟨"java/lang/AbstractStringBuilder", "isLatin1", "()Z"⟩ prog_14_method_68_code 1 (some .boolean) :: vm_W) ({ frames := 0, cells := 0, slots := 0, locals := 0 }) (va_Pc [.ref h] (jB dC dI CA A L w0)) (jE dC dI A (fun v ws => v = some (.int 1) ∧ ws = w0)) 0 0 A := by
  refine Met.ofW (cc := prog_14_method_68_code) (maxL := 1) (ret := (some .boolean)) (by decide) rfl ?_
  intro p e s m args below meth c s₁ B hml hv
  obtain ⟨rfl, hK, hX, hL, hP, hD, hA⟩ := hv
  have hx := B.exec
  have hb := B.bytes
  have hr := B.returns
  have hts := vm_tsW (atoms_spec B.pre)
  have hown : s.vm.findClass "java/lang/AbstractStringBuilder" = some m.cls := findClass_of_methodNamed B.named
  have hlocks := B.notSynchronized
  have hnm : meth.name = "isLatin1" := (name_of_methodNamed B.named B.method).1
  have hS : va_S A s.heap s.heap [] := va_S.rf
  have hl := lv_entry ([.ref h]) (n := 1) (Nat.le_of_ble_eq_true rfl)
  rw [lg_entry_eq]
  generalize (lg_sl ([.ref h]) ++ List.replicate (1 - (lg_sl ([.ref h])).length) Slot.unset).toArray = ls at hl ⊢
  have hl : lv_has ls 1 [(0, .ref h)] := hl
  refine va_gets hx hb hX.1 hS hown (hts (.fieldLink "java/lang/AbstractStringBuilder" 18 "java/lang/String" "COMPACT_STRINGS" "Z") (vm_hw_in (i := 851) (by decide +kernel))) (fun _ h => h) (by decide +kernel : decode prog_14_method_68_code 0 = .ok (.getstatic 18, 3)) ?_
  refine lv_if_eq (tgt := 17) hx hb (by decide +kernel : decode prog_14_method_68_code 3 = .ok (.ifCond .eq 14, 3)) (by decide) (fun z9 => absurd z9 (by decide)) (fun _ => ?_)
  refine lv_aload_n hx hb (by decide +kernel : decode prog_14_method_68_code 6 = .ok (.aload_n 0, 1)) rfl (lv_at hl 0 rfl) ?_
  refine va_get hx hb hts jSBin hown hK hP 0 hw jcl12 1 (by decide) (hts (.fieldLink "java/lang/AbstractStringBuilder" 22 "java/lang/AbstractStringBuilder" "coder" "B") (vm_hw_in (i := 901) (by decide +kernel))) (fun _ h => h) (v := .int 0) rfl (by decide +kernel : decode prog_14_method_68_code 7 = .ok (.getfield 22, 3)) ?_
  refine lv_if_ne (tgt := 17) hx hb (by decide +kernel : decode prog_14_method_68_code 10 = .ok (.ifCond .ne 7, 3)) (by decide) (fun z9 => absurd z9 (fun z => z rfl)) (fun _ => ?_)
  refine lv_iconst (v := 1) hx hb (by decide +kernel : decode prog_14_method_68_code 13 = .ok (.iconst 1, 1)) (by decide) ?_
  refine lv_goto (tgt := 18) hx hb (by decide +kernel : decode prog_14_method_68_code 14 = .ok (.goto 4, 3)) (by decide) ?_
  refine W.widen (show 0 ≤ 0 by omega) (show 0 ≤ 0 by omega) ?_
  exact W.zret hx hb hr (rfl) (fun t ht hW => ⟨_, _, ⟨rfl, rfl⟩, rfl, by rw [ht]; exact hP, hD, hS.F ht⟩) hS.2.2 (by decide +kernel : decode prog_14_method_68_code 18 = .ok (.ireturn, 1))
theorem jk1 : Cond.code ⟨"java/lang/StringLatin1", "canEncode", "(C)Z"⟩ prog_20_method_3_code 1 (some .boolean) ∈ vm_W := vm_code_in (vm_in4 (List.mem_of_getElem? (i := 189) (by rfl)))
set_option maxHeartbeats 4000000 in
theorem jm_canEnc (l : Launch) (dC : Nat → ClassId) (dI : Nat → Nat → Nat) (CA : Nat → ClassId) (A : Nat → Prop) (L : jT) (c0 : Nat) (w0 : va_W) (hc : c0 < 256) : Met l ⟨"java/lang/StringLatin1", "canEncode", "(C)Z"⟩ (Cond.code ⟨"java/lang/StringLatin1", "canEncode", "(C)Z"⟩ prog_20_method_3_code 1 (some .boolean) :: vm_W) ({ frames := 0, cells := 0, slots := 0, locals := 0 }) (va_Pc [.int (nI c0)] (jB dC dI CA A L w0)) (jE dC dI A (fun v ws => v = some (.int 1) ∧ ws = w0)) 0 0 A := by
  refine Met.ofW (cc := prog_20_method_3_code) (maxL := 1) (ret := (some .boolean)) (by decide) rfl ?_
  intro p e s m args below meth c s₁ B hml hv
  obtain ⟨rfl, hK, hX, hL, hP, hD, hA⟩ := hv
  have hx := B.exec
  have hb := B.bytes
  have hr := B.returns
  have hts := vm_tsW (atoms_spec B.pre)
  have hown : s.vm.findClass "java/lang/StringLatin1" = some m.cls := findClass_of_methodNamed B.named
  have hlocks := B.notSynchronized
  have hnm : meth.name = "canEncode" := (name_of_methodNamed B.named B.method).1
  have hS : va_S A s.heap s.heap [] := va_S.rf
  have hl := lv_entry ([.int (nI c0)]) (n := 1) (Nat.le_of_ble_eq_true rfl)
  rw [lg_entry_eq]
  generalize (lg_sl ([.int (nI c0)]) ++ List.replicate (1 - (lg_sl ([.int (nI c0)])).length) Slot.unset).toArray = ls at hl ⊢
  have hl : lv_has ls 1 [(0, .int (nI c0))] := hl
  refine lv_iload_n hx hb (by decide +kernel : decode prog_20_method_3_code 0 = .ok (.iload_n 0, 1)) rfl (lv_at hl 0 rfl) ?_
  refine lv_sipush (v := 255) hx hb (by decide +kernel : decode prog_20_method_3_code 1 = .ok (.sipush 255, 3)) (by decide) ?_
  refine lv_icmp_gt (tgt := 11) hx hb (by decide +kernel : decode prog_20_method_3_code 4 = .ok (.if_icmp .gt 7, 3)) (by decide) (fun z9 => absurd z9 (show ¬ nI 255 < nI c0 from nI_nlt (by omega) (by decide))) (fun _ => ?_)
  refine lv_iconst (v := 1) hx hb (by decide +kernel : decode prog_20_method_3_code 7 = .ok (.iconst 1, 1)) (by decide) ?_
  refine lv_goto (tgt := 12) hx hb (by decide +kernel : decode prog_20_method_3_code 8 = .ok (.goto 4, 3)) (by decide) ?_
  refine W.widen (show 0 ≤ 0 by omega) (show 0 ≤ 0 by omega) ?_
  exact W.zret hx hb hr (rfl) (fun t ht hW => ⟨_, _, ⟨rfl, rfl⟩, rfl, by rw [ht]; exact hP, hD, hS.F ht⟩) hS.2.2 (by decide +kernel : decode prog_20_method_3_code 12 = .ok (.ireturn, 1))
theorem jk2 : Cond.code ⟨"jdk/internal/util/ArraysSupport", "newLength", "(III)I"⟩ prog_24_method_27_code 4 (some .int) ∈ vm_W := vm_code_in (vm_in4 (List.mem_of_getElem? (i := 71) (by rfl)))
set_option maxHeartbeats 4000000 in
theorem jm_newLen (l : Launch) (dC : Nat → ClassId) (dI : Nat → Nat → Nat) (CA : Nat → ClassId) (A : Nat → Prop) (L : jT) (a0 g d : Nat) (w0 : va_W) (ha : a0 ≤ 65536) (hg : g < 2 ^ 28) (hd : d ≤ 65538) (h0 : 0 < d) : Met l ⟨"jdk/internal/util/ArraysSupport", "newLength", "(III)I"⟩ (Cond.code ⟨"jdk/internal/util/ArraysSupport", "newLength", "(III)I"⟩ prog_24_method_27_code 4 (some .int) :: vm_W) ({ frames := 1, cells := 0, slots := 0, locals := 40 }) (va_Pc [.int (nI a0), .int (nI g), .int (nI d)] (jB dC dI CA A L w0)) (jE dC dI A (fun v ws => v = some (.int (nI (a0 + (if g < d then d else g)))) ∧ ws = w0)) 0 0 A := by
  refine Met.ofW (cc := prog_24_method_27_code) (maxL := 4) (ret := (some .int)) (by decide) rfl ?_
  intro p e s m args below meth c s₁ B hml hv
  obtain ⟨rfl, hK, hX, hL, hP, hD, hA⟩ := hv
  have hx := B.exec
  have hb := B.bytes
  have hr := B.returns
  have hts := vm_tsW (atoms_spec B.pre)
  have hown : s.vm.findClass "jdk/internal/util/ArraysSupport" = some m.cls := findClass_of_methodNamed B.named
  have hlocks := B.notSynchronized
  have hnm : meth.name = "newLength" := (name_of_methodNamed B.named B.method).1
  have hS : va_S A s.heap s.heap [] := va_S.rf
  have hl := lv_entry ([.int (nI a0), .int (nI g), .int (nI d)]) (n := 4) (Nat.le_of_ble_eq_true rfl)
  rw [lg_entry_eq]
  generalize (lg_sl ([.int (nI a0), .int (nI g), .int (nI d)]) ++ List.replicate (4 - (lg_sl ([.int (nI a0), .int (nI g), .int (nI d)])).length) Slot.unset).toArray = ls at hl ⊢
  have hl : lv_has ls 4 [(0, .int (nI a0)), (1, .int (nI g)), (2, .int (nI d))] := hl
  have hb1 : 0 < a0 + (if g < d then d else g) ∧ a0 + (if g < d then d else g) < 2 ^ 30 := by split <;> omega
  refine lv_iload_n hx hb (by decide +kernel : decode prog_24_method_27_code 0 = .ok (.iload_n 0, 1)) rfl (lv_at hl 0 rfl) ?_
  refine lv_iload_n hx hb (by decide +kernel : decode prog_24_method_27_code 1 = .ok (.iload_n 1, 1)) rfl (lv_at hl 1 rfl) ?_
  refine lv_iload_n hx hb (by decide +kernel : decode prog_24_method_27_code 2 = .ok (.iload_n 2, 1)) rfl (lv_at hl 2 rfl) ?_
  refine va_mmax hx hb (hml.trans hl.1.symm) hown (hts _ (vm_hw_in (i := 829) (by decide +kernel))) (hts _ (vm_hw_in vm_okXa)) (hts _ (vm_hw_in vm_okX9)) (hts _ vm_kMax) (Nat.le_of_ble_eq_true rfl) (Nat.le_of_ble_eq_true rfl) (by show 0 ≤ 0; omega) (by show 0 ≤ 0; omega) (by decide +kernel : decode prog_24_method_27_code 3 = .ok (.invokestatic 194, 3)) ?_
  refine jtop (nI (if g < d then d else g)) (jmax (by omega) (by omega)) ?_
  refine lv_iadd hx hb (by decide +kernel : decode prog_24_method_27_code 6 = .ok (.iadd, 1)) ?_
  refine jtop (nI (a0 + (if g < d then d else g))) (nI_add _ _) ?_
  refine lv_istore_n (lv' := [(3, .int (nI (a0 + (if g < d then d else g)))), (0, .int (nI a0)), (1, .int (nI g)), (2, .int (nI d))]) hx hb (by decide +kernel : decode prog_24_method_27_code 7 = .ok (.istore_n 3, 1)) rfl hl (by decide) rfl (fun ls hl => ?_)
  refine lv_iconst (v := 0) hx hb (by decide +kernel : decode prog_24_method_27_code 8 = .ok (.iconst 0, 1)) (by decide) ?_
  refine lv_iload_n hx hb (by decide +kernel : decode prog_24_method_27_code 9 = .ok (.iload_n 3, 1)) rfl (lv_at hl 0 rfl) ?_
  refine lv_icmp_ge (tgt := 21) hx hb (by decide +kernel : decode prog_24_method_27_code 10 = .ok (.if_icmp .ge 11, 3)) (by decide) (fun z9 => absurd z9 (nI_nle hb1.1 (by omega))) (fun _ => ?_)
  refine lv_iload_n hx hb (by decide +kernel : decode prog_24_method_27_code 13 = .ok (.iload_n 3, 1)) rfl (lv_at hl 0 rfl) ?_
  refine lv_ldc (v := 2147483639) hx hb hown (hts (.constant "jdk/internal/util/ArraysSupport" 200 2147483639) (vm_hw_in (i := 830) (by decide +kernel))) (by decide +kernel : decode prog_24_method_27_code 14 = .ok (.ldc 200, 2)) ?_
  refine lv_icmp_gt (tgt := 21) hx hb (by decide +kernel : decode prog_24_method_27_code 16 = .ok (.if_icmp .gt 5, 3)) (by decide) (fun z9 => absurd z9 (show ¬ nI 2147483639 < nI _ from nI_nlt (by omega) (by decide))) (fun _ => ?_)
  refine lv_iload_n hx hb (by decide +kernel : decode prog_24_method_27_code 19 = .ok (.iload_n 3, 1)) rfl (lv_at hl 0 rfl) ?_
  refine W.widen (show 0 ≤ 0 by omega) (show 0 ≤ 0 by omega) ?_
  exact W.iret hx hb hr (fun t ht hW => ⟨_, _, ⟨rfl, rfl⟩, rfl, by rw [ht]; exact hP, hD, hS.F ht⟩) hS.2.2 (by decide +kernel : decode prog_24_method_27_code 20 = .ok (.ireturn, 1))
theorem jk3 : Cond.code ⟨"java/lang/AbstractStringBuilder", "newCapacity", "(I)I"⟩ prog_14_method_10_code 6 (some .int) ∈ vm_W := vm_code_in (vm_in4 (List.mem_of_getElem? (i := 68) (by rfl)))
set_option maxHeartbeats 4000000 in
theorem jm_newCap (l : Launch) (dC : Nat → ClassId) (dI : Nat → Nat → Nat) (CA : Nat → ClassId) (A : Nat → Prop) (L : jT) (h b n a0 q : Nat) (f : Nat → Int32) (ha : a0 ≤ 65536) (hq : q < 2 ^ 28) (hlt : a0 < q) : Met l ⟨"java/lang/AbstractStringBuilder", "newCapacity", "(I)I"⟩ (Cond.code ⟨"java/lang/AbstractStringBuilder", "newCapacity", "(I)I"⟩ prog_14_method_10_code 6 (some .int) :: vm_W) ({ frames := 2, cells := 0, slots := 0, locals := 80 }) (va_Pc [.ref h, .int (nI q)] (jB dC dI CA A L (jW CA h b n a0 f))) (jE dC dI A (fun v ws => v = some (.int (nI (sb_cap q a0))) ∧ ws = jW CA h b n a0 f)) 0 0 A := by
  refine Met.ofW (cc := prog_14_method_10_code) (maxL := 6) (ret := (some .int)) (by decide) rfl ?_
  intro p e s m args below meth c s₁ B hml hv
  obtain ⟨rfl, hK, hX, hL, hP, hD, hA⟩ := hv
  have hx := B.exec
  have hb := B.bytes
  have hr := B.returns
  have hts := vm_tsW (atoms_spec B.pre)
  have hown : s.vm.findClass "java/lang/AbstractStringBuilder" = some m.cls := findClass_of_methodNamed B.named
  have hlocks := B.notSynchronized
  have hnm : meth.name = "newCapacity" := (name_of_methodNamed B.named B.method).1
  have hS : va_S A s.heap s.heap [] := va_S.rf
  have hl := lv_entry ([.ref h, .int (nI q)]) (n := 6) (Nat.le_of_ble_eq_true rfl)
  rw [lg_entry_eq]
  generalize (lg_sl ([.ref h, .int (nI q)]) ++ List.replicate (6 - (lg_sl ([.ref h, .int (nI q)])).length) Slot.unset).toArray = ls at hl ⊢
  have hl : lv_has ls 6 [(0, .ref h), (1, .int (nI q))] := hl
  have hc : sb_cap q a0 = a0 + (if q - a0 < a0 + 2 then a0 + 2 else q - a0) := by unfold sb_cap; rw [if_neg (by omega)]; split <;> split <;> omega
  have hcb : sb_cap q a0 < 2 ^ 30 := by rw [hc]; split <;> omega
  refine lv_aload_n hx hb (by decide +kernel : decode prog_14_method_10_code 0 = .ok (.aload_n 0, 1)) rfl (lv_at hl 0 rfl) ?_
  refine va_get hx hb hts jSBin hown hK hP 0 rfl jcl12 0 (by decide) (hts (.fieldLink "java/lang/AbstractStringBuilder" 15 "java/lang/AbstractStringBuilder" "value" "[B") (vm_hw_in (i := 900) (by decide +kernel))) (fun _ h => h) (v := .ref b) rfl (by decide +kernel : decode prog_14_method_10_code 1 = .ok (.getfield 15, 3)) ?_
  refine va_alen hx hb hK hP 1 1 rfl rfl (v := nI a0) rfl (by decide +kernel : decode prog_14_method_10_code 4 = .ok (.arraylength, 1)) ?_
  refine lv_istore_n (lv' := [(2, .int (nI a0)), (0, .ref h), (1, .int (nI q))]) hx hb (by decide +kernel : decode prog_14_method_10_code 5 = .ok (.istore_n 2, 1)) rfl hl (by decide) rfl (fun ls hl => ?_)
  refine lv_iload_n hx hb (by decide +kernel : decode prog_14_method_10_code 6 = .ok (.iload_n 1, 1)) rfl (lv_at hl 2 rfl) ?_
  refine lv_aload_n hx hb (by decide +kernel : decode prog_14_method_10_code 7 = .ok (.aload_n 0, 1)) rfl (lv_at hl 1 rfl) ?_
  refine va_get hx hb hts jSBin hown hK hP 0 rfl jcl12 1 (by decide) (hts (.fieldLink "java/lang/AbstractStringBuilder" 22 "java/lang/AbstractStringBuilder" "coder" "B") (vm_hw_in (i := 901) (by decide +kernel))) (fun _ h => h) (v := .int 0) rfl (by decide +kernel : decode prog_14_method_10_code 8 = .ok (.getfield 22, 3)) ?_
  refine lv_ishl hx hb (by decide +kernel : decode prog_14_method_10_code 11 = .ok (.ishl, 1)) ?_
  refine jtop (nI q) (sb_shl0 _) ?_
  refine lv_istore_n (lv' := [(3, .int (nI q)), (2, .int (nI a0)), (0, .ref h), (1, .int (nI q))]) hx hb (by decide +kernel : decode prog_14_method_10_code 12 = .ok (.istore_n 3, 1)) rfl hl (by decide) rfl (fun ls hl => ?_)
  refine lv_iload_n hx hb (by decide +kernel : decode prog_14_method_10_code 13 = .ok (.iload_n 3, 1)) rfl (lv_at hl 0 rfl) ?_
  refine lv_iload_n hx hb (by decide +kernel : decode prog_14_method_10_code 14 = .ok (.iload_n 2, 1)) rfl (lv_at hl 1 rfl) ?_
  refine lv_isub hx hb (by decide +kernel : decode prog_14_method_10_code 15 = .ok (.isub, 1)) ?_
  refine jtop (nI (q - a0)) (pk_sub (by omega)) ?_
  refine lv_istore (lv' := [(4, .int (nI (q - a0))), (3, .int (nI q)), (2, .int (nI a0)), (0, .ref h), (1, .int (nI q))]) hx hb (by decide +kernel : decode prog_14_method_10_code 16 = .ok (.istore 4, 2)) hl (by decide) rfl (fun ls hl => ?_)
  refine lv_iload_n hx hb (by decide +kernel : decode prog_14_method_10_code 18 = .ok (.iload_n 2, 1)) rfl (lv_at hl 2 rfl) ?_
  refine lv_iload hx hb (by decide +kernel : decode prog_14_method_10_code 19 = .ok (.iload 4, 2)) (lv_at hl 0 rfl) ?_
  refine lv_iload_n hx hb (by decide +kernel : decode prog_14_method_10_code 21 = .ok (.iload_n 2, 1)) rfl (lv_at hl 2 rfl) ?_
  refine lv_iconst (v := 2) hx hb (by decide +kernel : decode prog_14_method_10_code 22 = .ok (.iconst 2, 1)) (by decide) ?_
  refine lv_aload_n hx hb (by decide +kernel : decode prog_14_method_10_code 23 = .ok (.aload_n 0, 1)) rfl (lv_at hl 3 rfl) ?_
  refine va_get hx hb hts jSBin hown hK hP 0 rfl jcl12 1 (by decide) (hts (.fieldLink "java/lang/AbstractStringBuilder" 22 "java/lang/AbstractStringBuilder" "coder" "B") (vm_hw_in (i := 901) (by decide +kernel))) (fun _ h => h) (v := .int 0) rfl (by decide +kernel : decode prog_14_method_10_code 24 = .ok (.getfield 22, 3)) ?_
  refine lv_ishl hx hb (by decide +kernel : decode prog_14_method_10_code 27 = .ok (.ishl, 1)) ?_
  refine jtop (nI 2) (sb_shl0 _) ?_
  refine lv_iadd hx hb (by decide +kernel : decode prog_14_method_10_code 28 = .ok (.iadd, 1)) ?_
  refine jtop (nI (a0 + 2)) (nI_add _ _) ?_
  refine j_call (va_runS (As := [.int (nI a0), .int (nI (q - a0)), .int (nI (a0 + 2))]) (rest := []) ⟨hx, hb, hml, hown, hts⟩ (jm_newLen l dC dI CA A L a0 (q - a0) (a0 + 2) _ ha (by omega) (by omega) (by omega)) (va_cwS 3 hts (vm_gS jk2 (vm_hw_in (i := 826) (by decide +kernel)) (vm_hw_in (i := 827) (by decide +kernel)) (vm_hw_in (i := 53) (by decide +kernel))) rfl rfl rfl (by decide +kernel) ⟨Nat.le_of_ble_eq_true rfl, Nat.le_of_ble_eq_true rfl⟩) ⟨jB.blind, fun U hU hW => ⟨rfl, jB.of hK hX hL hA hP hD hS hU hW⟩⟩ rfl rfl hl.1 rfl (lv_room (Nat.le_of_ble_eq_true rfl)) (by decide +kernel : decode prog_14_method_10_code 29 = .ok (.invokestatic 114, 3)) ⟨by show 0 + 0 ≤ 0; omega, by show 0 + 0 ≤ 0; omega⟩) hS (fun v ws H locs hR hP hD hS => ?_)
  obtain ⟨rfl, rfl⟩ := hR
  rw [← hc]
  refine lv_istore (lv' := [(5, .int (nI (sb_cap q a0))), (4, .int (nI (q - a0))), (3, .int (nI q)), (2, .int (nI a0)), (0, .ref h), (1, .int (nI q))]) hx hb (by decide +kernel : decode prog_14_method_10_code 32 = .ok (.istore 5, 2)) hl (by decide) rfl (fun ls hl => ?_)
  refine lv_iload hx hb (by decide +kernel : decode prog_14_method_10_code 34 = .ok (.iload 5, 2)) (lv_at hl 0 rfl) ?_
  refine lv_ldc (v := 2147483647) hx hb hown (hts (.constant "java/lang/AbstractStringBuilder" 39 2147483647) (vm_hw_in (i := 792) (by decide +kernel))) (by decide +kernel : decode prog_14_method_10_code 36 = .ok (.ldc 39, 2)) ?_
  refine lv_icmp_ne (tgt := 51) hx hb (by decide +kernel : decode prog_14_method_10_code 38 = .ok (.if_icmp .ne 13, 3)) (by decide) (fun _ => ?_) (fun z9 => absurd z9 (show ¬ nI (sb_cap q a0) = nI 2147483647 from fun z => by have := (nI_eq (by omega) (by decide)).mp z; omega))
  refine lv_iload hx hb (by decide +kernel : decode prog_14_method_10_code 51 = .ok (.iload 5, 2)) (lv_at hl 0 rfl) ?_
  refine lv_aload_n hx hb (by decide +kernel : decode prog_14_method_10_code 53 = .ok (.aload_n 0, 1)) rfl (lv_at hl 4 rfl) ?_
  refine va_get hx hb hts jSBin hown hK hP 0 rfl jcl12 1 (by decide) (hts (.fieldLink "java/lang/AbstractStringBuilder" 22 "java/lang/AbstractStringBuilder" "coder" "B") (vm_hw_in (i := 901) (by decide +kernel))) (fun _ h => h) (v := .int 0) rfl (by decide +kernel : decode prog_14_method_10_code 54 = .ok (.getfield 22, 3)) ?_
  refine lv_ishr hx hb (by decide +kernel : decode prog_14_method_10_code 57 = .ok (.ishr, 1)) ?_
  refine jtop (nI (sb_cap q a0)) (sb_shr0 _) ?_
  refine W.widen (show (0 + 0) ≤ 0 by omega) (show (0 + 0) ≤ 0 by omega) ?_
  exact W.iret hx hb hr (fun t ht hW => ⟨_, _, ⟨rfl, rfl⟩, rfl, by rw [ht]; exact hP, hD, hS.F ht⟩) hS.2.2 (by decide +kernel : decode prog_14_method_10_code 58 = .ok (.ireturn, 1))
theorem jk4 : Cond.code ⟨"java/util/Arrays", "copyOf", "([BI)[B"⟩ prog_23_method_121_code 3 (some (.array .byte)) ∈ vm_W := vm_code_in (vm_in4 (List.mem_of_getElem? (i := 79) (by rfl)))
set_option maxHeartbeats 4000000 in
theorem jm_copyOf (l : Launch) (dC : Nat → ClassId) (dI : Nat → Nat → Nat) (CA : Nat → ClassId) (A : Nat → Prop) (L : jT) (b a0 q i : Nat) (f : Nat → Int32) (w0 : va_W) (ha : a0 ≤ 65536) (hq : q ≤ 131074) (hlt : a0 < q) (hi : i < w0.length) (hw : w0[i]? = some (b, .inl (CA 101, a0, .inl f))) (hf : sb_Fit f) : Met l ⟨"java/util/Arrays", "copyOf", "([BI)[B"⟩ (Cond.code ⟨"java/util/Arrays", "copyOf", "([BI)[B"⟩ prog_23_method_121_code 3 (some (.array .byte)) :: vm_W) ({ frames := 1, cells := 1, slots := q, locals := 40 }) (va_Pc [.ref b, .int (nI q)] (jB dC dI CA A L w0)) (jE dC dI A (fun v ws => ∃ q9 : Nat, v = some (.ref q9) ∧ ws = w0 ++ [(q9, .inl (CA 101, q, .inl (va_cpy f (fun _ => 0) 0 0 a0)))])) 1 q A := by
  refine Met.ofW (cc := prog_23_method_121_code) (maxL := 3) (ret := (some (.array .byte))) (by decide) rfl ?_
  intro p e s m args below meth c s₁ B hml hv
  obtain ⟨rfl, hK, hX, hL, hP, hD, hA⟩ := hv
  have hx := B.exec
  have hb := B.bytes
  have hr := B.returns
  have hts := vm_tsW (atoms_spec B.pre)
  have hown : s.vm.findClass "java/util/Arrays" = some m.cls := findClass_of_methodNamed B.named
  have hlocks := B.notSynchronized
  have hnm : meth.name = "copyOf" := (name_of_methodNamed B.named B.method).1
  have hS : va_S A s.heap s.heap [] := va_S.rf
  have hl := lv_entry ([.ref b, .int (nI q)]) (n := 3) (Nat.le_of_ble_eq_true rfl)
  rw [lg_entry_eq]
  generalize (lg_sl ([.ref b, .int (nI q)]) ++ List.replicate (3 - (lg_sl ([.ref b, .int (nI q)])).length) Slot.unset).toArray = ls at hl ⊢
  have hl : lv_has ls 3 [(0, .ref b), (1, .int (nI q))] := hl
  have hw1 : ∀ z, (w0 ++ [z])[i]? = some (b, .inl (CA 101, a0, .inl f)) := fun z => by rw [List.getElem?_append_left hi]; exact hw
  have hw2 : ∀ z, (w0 ++ [z])[w0.length]? = some z := fun z => by rw [List.getElem?_append_right (Nat.le_refl _), Nat.sub_self]; rfl
  refine lv_iload_n hx hb (by decide +kernel : decode prog_23_method_121_code 0 = .ok (.iload_n 1, 1)) rfl (lv_at hl 1 rfl) ?_
  refine lv_aload_n hx hb (by decide +kernel : decode prog_23_method_121_code 1 = .ok (.aload_n 0, 1)) rfl (lv_at hl 0 rfl) ?_
  refine va_alen hx hb hK hP i 1 hw rfl (v := nI a0) rfl (by decide +kernel : decode prog_23_method_121_code 2 = .ok (.arraylength, 1)) ?_
  refine lv_icmp_ne (tgt := 14) hx hb (by decide +kernel : decode prog_23_method_121_code 3 = .ok (.if_icmp .ne 11, 3)) (by decide) (fun _ => ?_) (fun z9 => absurd z9 (fun z => by have := (nI_eq (by omega) (by omega)).mp z; omega))
  refine lv_iload_n hx hb (by decide +kernel : decode prog_23_method_121_code 14 = .ok (.iload_n 1, 1)) rfl (lv_at hl 1 rfl) ?_
  refine j_newb (N := q) hx hb hts hK hP hD hS hA (by omega) (by show 0 + 1 ≤ 1; omega) (by show 0 + q ≤ q; omega) (by decide +kernel : decode prog_23_method_121_code 15 = .ok (.newarray .byte, 2)) (fun q9 H hP hD hS => ?_)
  refine lv_astore_n (lv' := [(2, .ref q9), (0, .ref b), (1, .int (nI q))]) hx hb (by decide +kernel : decode prog_23_method_121_code 17 = .ok (.astore_n 2, 1)) rfl hl (by decide) rfl (fun ls hl => ?_)
  refine lv_aload_n hx hb (by decide +kernel : decode prog_23_method_121_code 18 = .ok (.aload_n 0, 1)) rfl (lv_at hl 1 rfl) ?_
  refine lv_iconst (v := 0) hx hb (by decide +kernel : decode prog_23_method_121_code 19 = .ok (.iconst 0, 1)) (by decide) ?_
  refine lv_aload_n hx hb (by decide +kernel : decode prog_23_method_121_code 20 = .ok (.aload_n 2, 1)) rfl (lv_at hl 0 rfl) ?_
  refine lv_iconst (v := 0) hx hb (by decide +kernel : decode prog_23_method_121_code 21 = .ok (.iconst 0, 1)) (by decide) ?_
  refine lv_aload_n hx hb (by decide +kernel : decode prog_23_method_121_code 22 = .ok (.aload_n 0, 1)) rfl (lv_at hl 1 rfl) ?_
  refine va_alen hx hb hK hP i 1 (hw1 _) rfl (v := nI a0) rfl (by decide +kernel : decode prog_23_method_121_code 23 = .ok (.arraylength, 1)) ?_
  refine lv_iload_n hx hb (by decide +kernel : decode prog_23_method_121_code 24 = .ok (.iload_n 1, 1)) rfl (lv_at hl 2 rfl) ?_
  refine va_mmin hx hb (hml.trans hl.1.symm) hown (hts _ (vm_hw_in (i := 844) (by decide +kernel))) (hts _ (vm_hw_in vm_okXb)) (hts _ (vm_hw_in vm_okX9)) (hts _ vm_kMin) (Nat.le_of_ble_eq_true rfl) (Nat.le_of_ble_eq_true rfl) (by show (0 + 1) ≤ 1; omega) (by show (0 + q) ≤ q; omega) (by decide +kernel : decode prog_23_method_121_code 25 = .ok (.invokestatic 304, 3)) ?_
  refine jtop (nI (if q < a0 then q else a0)) (jmin (by omega) (by omega)) ?_
  rw [if_neg (show ¬ q < a0 by omega)]
  refine va_copyi hx hb (hml.trans hl.1.symm) hown (hts _ (vm_hw_in (i := 845) (by decide +kernel))) (hts _ (vm_hw_in vm_okX6)) (hts _ (vm_hw_in vm_okX7)) (hts _ (vm_hw_in vm_okX8)) hK hP hD hS i w0.length 1 1 (hw1 _) (hw2 _) rfl rfl rfl (sp := 0) (dp := 0) (by decide) (by decide) (nI_pos (by omega)) (by rw [sb_cl0, nI_clamp (by omega)]; omega) (by rw [sb_cl0, nI_clamp (by omega)]; omega) (fun j _ => hf _) (Nat.le_of_ble_eq_true rfl) (Nat.le_of_ble_eq_true rfl) (by decide +kernel : decode prog_23_method_121_code 28 = .ok (.invokestatic 150, 3)) (fun H locs hP hD hS => ?_)
  rw [sb_cl0, nI_clamp (by omega), List.set_append_right _ _ (Nat.le_refl _), Nat.sub_self] at hP hD
  refine lv_aload_n hx hb (by decide +kernel : decode prog_23_method_121_code 31 = .ok (.aload_n 2, 1)) rfl (lv_at hl 0 rfl) ?_
  refine W.widen (show (0 + 1) ≤ 1 by omega) (show (0 + q) ≤ q by omega) ?_
  exact W.aret hx hb hr (Or.inr ⟨_, rfl⟩) (Or.inr ⟨_, rfl⟩) (fun t ht hW => ⟨_, _, ⟨_, rfl, rfl⟩, rfl, by rw [ht]; exact hP, hD, hS.F ht⟩) hS.2.2 (by decide +kernel : decode prog_23_method_121_code 32 = .ok (.areturn, 1))
theorem jk5 : Cond.code ⟨"java/lang/AbstractStringBuilder", "ensureCapacityInternal", "(I)V"⟩ prog_14_method_9_code 3 none ∈ vm_W := vm_code_in (vm_in4 (List.mem_of_getElem? (i := 64) (by rfl)))
set_option maxHeartbeats 4000000 in
theorem jm_ensure (l : Launch) (dC : Nat → ClassId) (dI : Nat → Nat → Nat) (CA : Nat → ClassId) (A : Nat → Prop) (L : jT) (h b n a0 q : Nat) (f : Nat → Int32) (ha : a0 ≤ 65536) (hq : q ≤ 65536) (hf : sb_Fit f) : Met l ⟨"java/lang/AbstractStringBuilder", "ensureCapacityInternal", "(I)V"⟩ (Cond.code ⟨"java/lang/AbstractStringBuilder", "ensureCapacityInternal", "(I)V"⟩ prog_14_method_9_code 3 none :: vm_W) ({ frames := 3, cells := (sb_k q a0), slots := (sb_z q a0), locals := 120 }) (va_Pc [.ref h, .int (nI q)] (jB dC dI CA A L (jW CA h b n a0 f))) (jE dC dI A (fun v ws => ∃ (b1 : Nat) (f1 : Nat → Int32), v = none ∧ ws = jW CA h b1 n (sb_cap q a0) f1 ∧ sb_Fit f1 ∧ ∀ j, j < a0 → f1 j = f j)) ((sb_k q a0)) ((sb_z q a0)) A := by
  refine Met.ofW (cc := prog_14_method_9_code) (maxL := 3) (ret := none) (by decide) rfl ?_
  intro p e s m args below meth c s₁ B hml hv
  obtain ⟨rfl, hK, hX, hL, hP, hD, hA⟩ := hv
  have hx := B.exec
  have hb := B.bytes
  have hr := B.returns
  have hts := vm_tsW (atoms_spec B.pre)
  have hown : s.vm.findClass "java/lang/AbstractStringBuilder" = some m.cls := findClass_of_methodNamed B.named
  have hlocks := B.notSynchronized
  have hnm : meth.name = "ensureCapacityInternal" := (name_of_methodNamed B.named B.method).1
  have hS : va_S A s.heap s.heap [] := va_S.rf
  have hl := lv_entry ([.ref h, .int (nI q)]) (n := 3) (Nat.le_of_ble_eq_true rfl)
  rw [lg_entry_eq]
  generalize (lg_sl ([.ref h, .int (nI q)]) ++ List.replicate (3 - (lg_sl ([.ref h, .int (nI q)])).length) Slot.unset).toArray = ls at hl ⊢
  have hl : lv_has ls 3 [(0, .ref h), (1, .int (nI q))] := hl
  have e1 : (nI q - nI a0).toInt = (q : Int) - a0 := pk_sub_toInt (by omega) (by omega)
  refine lv_aload_n hx hb (by decide +kernel : decode prog_14_method_9_code 0 = .ok (.aload_n 0, 1)) rfl (lv_at hl 0 rfl) ?_
  refine va_get hx hb hts jSBin hown hK hP 0 rfl jcl12 0 (by decide) (hts (.fieldLink "java/lang/AbstractStringBuilder" 15 "java/lang/AbstractStringBuilder" "value" "[B") (vm_hw_in (i := 900) (by decide +kernel))) (fun _ h => h) (v := .ref b) rfl (by decide +kernel : decode prog_14_method_9_code 1 = .ok (.getfield 15, 3)) ?_
  refine va_alen hx hb hK hP 1 1 rfl rfl (v := nI a0) rfl (by decide +kernel : decode prog_14_method_9_code 4 = .ok (.arraylength, 1)) ?_
  refine lv_aload_n hx hb (by decide +kernel : decode prog_14_method_9_code 5 = .ok (.aload_n 0, 1)) rfl (lv_at hl 0 rfl) ?_
  refine va_get hx hb hts jSBin hown hK hP 0 rfl jcl12 1 (by decide) (hts (.fieldLink "java/lang/AbstractStringBuilder" 22 "java/lang/AbstractStringBuilder" "coder" "B") (vm_hw_in (i := 901) (by decide +kernel))) (fun _ h => h) (v := .int 0) rfl (by decide +kernel : decode prog_14_method_9_code 6 = .ok (.getfield 22, 3)) ?_
  refine lv_ishr hx hb (by decide +kernel : decode prog_14_method_9_code 9 = .ok (.ishr, 1)) ?_
  refine jtop (nI a0) (sb_shr0 _) ?_
  refine lv_istore_n (lv' := [(2, .int (nI a0)), (0, .ref h), (1, .int (nI q))]) hx hb (by decide +kernel : decode prog_14_method_9_code 10 = .ok (.istore_n 2, 1)) rfl hl (by decide) rfl (fun ls hl => ?_)
  refine lv_iload_n hx hb (by decide +kernel : decode prog_14_method_9_code 11 = .ok (.iload_n 1, 1)) rfl (lv_at hl 2 rfl) ?_
  refine lv_iload_n hx hb (by decide +kernel : decode prog_14_method_9_code 12 = .ok (.iload_n 2, 1)) rfl (lv_at hl 0 rfl) ?_
  refine lv_isub hx hb (by decide +kernel : decode prog_14_method_9_code 13 = .ok (.isub, 1)) ?_
  by_cases hqa : q ≤ a0
  · skip
    refine lv_if_le (tgt := 38) hx hb (by decide +kernel : decode prog_14_method_9_code 14 = .ok (.ifCond .le 24, 3)) (by decide) (fun _ => ?_) (fun z9 => absurd (by rw [Int32.le_iff_toInt_le, e1, Int32.toInt_zero]; omega) z9)
    refine W.widen (show 0 ≤ (sb_k q a0) by omega) (show 0 ≤ (sb_z q a0) by omega) ?_
    exact W.vret hx hb hr (fun t ht hW => ⟨_, _, ⟨b, f, rfl, by unfold sb_cap; rw [if_pos hqa], hf, fun _ _ => rfl⟩, rfl, by rw [ht]; exact hP, hD, hS.F ht⟩) hS.2.2 (by decide +kernel : decode prog_14_method_9_code 38 = .ok (.return_, 1))
  · skip
    have hcb : a0 < sb_cap q a0 ∧ sb_cap q a0 ≤ 131074 := by unfold sb_cap; rw [if_neg hqa]; split <;> omega
    have hkk : sb_k q a0 = 1 := by unfold sb_k; rw [if_neg hqa]
    have hzz : sb_z q a0 = sb_cap q a0 := by unfold sb_z; rw [if_neg hqa]
    refine lv_if_le (tgt := 38) hx hb (by decide +kernel : decode prog_14_method_9_code 14 = .ok (.ifCond .le 24, 3)) (by decide) (fun z9 => absurd z9 (fun z => by rw [Int32.le_iff_toInt_le, e1, Int32.toInt_zero] at z; omega)) (fun _ => ?_)
    refine lv_aload_n hx hb (by decide +kernel : decode prog_14_method_9_code 17 = .ok (.aload_n 0, 1)) rfl (lv_at hl 1 rfl) ?_
    refine lv_aload_n hx hb (by decide +kernel : decode prog_14_method_9_code 18 = .ok (.aload_n 0, 1)) rfl (lv_at hl 1 rfl) ?_
    refine va_get hx hb hts jSBin hown hK hP 0 rfl jcl12 0 (by decide) (hts (.fieldLink "java/lang/AbstractStringBuilder" 15 "java/lang/AbstractStringBuilder" "value" "[B") (vm_hw_in (i := 900) (by decide +kernel))) (fun _ h => h) (v := .ref b) rfl (by decide +kernel : decode prog_14_method_9_code 19 = .ok (.getfield 15, 3)) ?_
    refine lv_aload_n hx hb (by decide +kernel : decode prog_14_method_9_code 22 = .ok (.aload_n 0, 1)) rfl (lv_at hl 1 rfl) ?_
    refine lv_iload_n hx hb (by decide +kernel : decode prog_14_method_9_code 23 = .ok (.iload_n 1, 1)) rfl (lv_at hl 2 rfl) ?_
    refine j_call (va_runU (b := h) (As := [.int (nI q)]) (rest := [.ref b, .ref h]) ⟨hx, hb, hml, hown, hts⟩ (jm_newCap l dC dI CA A L h b n a0 q f ha (by omega) (by omega)) (va_cwU (owner := "java/lang/AbstractStringBuilder") (x := ⟨"java/lang/AbstractStringBuilder", "newCapacity", "(I)I"⟩) 1 hts (jgU jk3 (vm_hw_in (i := 822) (by decide +kernel)) (vm_hw_in (i := 1387) (by decide +kernel)) (vm_hw_in (i := 1394) (by decide +kernel)) (vm_hw_in (i := 824) (by decide +kernel)) (vm_hw_in (i := 49) (by decide +kernel))) rfl rfl rfl rfl (by decide +kernel) ⟨Nat.le_of_ble_eq_true rfl, Nat.le_of_ble_eq_true rfl⟩) ⟨jB.blind, va_recv hK hP jcl12 (show ((jW CA h b n a0 f : va_W))[0]? = _ from rfl), fun U hU hW => ⟨rfl, jB.of hK hX hL hA hP hD hS hU hW⟩⟩ rfl rfl hl.1 rfl (lv_room (Nat.le_of_ble_eq_true rfl)) (by decide +kernel : decode prog_14_method_9_code 24 = .ok (.invokevirtual 104, 3)) ⟨by show 0 + 0 ≤ (sb_k q a0); omega, by show 0 + 0 ≤ (sb_z q a0); omega⟩) hS (fun v ws H locs hR hP hD hS => ?_)
    obtain ⟨rfl, rfl⟩ := hR
    refine lv_aload_n hx hb (by decide +kernel : decode prog_14_method_9_code 27 = .ok (.aload_n 0, 1)) rfl (lv_at hl 1 rfl) ?_
    refine va_get hx hb hts jSBin hown hK hP 0 rfl jcl12 1 (by decide) (hts (.fieldLink "java/lang/AbstractStringBuilder" 22 "java/lang/AbstractStringBuilder" "coder" "B") (vm_hw_in (i := 901) (by decide +kernel))) (fun _ h => h) (v := .int 0) rfl (by decide +kernel : decode prog_14_method_9_code 28 = .ok (.getfield 22, 3)) ?_
    refine lv_ishl hx hb (by decide +kernel : decode prog_14_method_9_code 31 = .ok (.ishl, 1)) ?_
    refine jtop (nI (sb_cap q a0)) (sb_shl0 _) ?_
    refine j_call (va_runS (As := [.ref b, .int (nI (sb_cap q a0))]) (rest := [.ref h]) ⟨hx, hb, hml, hown, hts⟩ (jm_copyOf l dC dI CA A L b a0 (sb_cap q a0) 1 f _ ha hcb.2 hcb.1 (Nat.le_of_ble_eq_true rfl) rfl hf) (va_cwS 2 hts (vm_gS jk4 (vm_hw_in (i := 834) (by decide +kernel)) (vm_hw_in (i := 835) (by decide +kernel)) (vm_hw_in (i := 55) (by decide +kernel))) rfl rfl rfl (by decide +kernel) ⟨Nat.le_of_ble_eq_true rfl, Nat.le_of_ble_eq_true rfl⟩) ⟨jB.blind, fun U hU hW => ⟨rfl, jB.of hK hX hL hA hP hD hS hU hW⟩⟩ rfl rfl hl.1 rfl (lv_room (Nat.le_of_ble_eq_true rfl)) (by decide +kernel : decode prog_14_method_9_code 32 = .ok (.invokestatic 108, 3)) ⟨by show (0 + 0) + 1 ≤ (sb_k q a0); omega, by show (0 + 0) + sb_cap q a0 ≤ (sb_z q a0); omega⟩) hS (fun v ws H locs hR hP hD hS => ?_)
    obtain ⟨q1, rfl, rfl⟩ := hR
    refine va_put hx hb hts jSBin jSBty jSBok jSBnm hown hK hP hD hS 0 rfl jcl12 0 (by decide) (hts (.fieldLink "java/lang/AbstractStringBuilder" 15 "java/lang/AbstractStringBuilder" "value" "[B") (vm_hw_in (i := 900) (by decide +kernel))) (fun _ h => h) rfl (ty := .array .byte) rfl rfl rfl (Nat.le_of_ble_eq_true rfl) (by decide +kernel : decode prog_14_method_9_code 35 = .ok (.putfield 15, 3)) (fun H locs hP hD hS => ?_)
    have hP : va_P (dC, dI) vm_cls ([(h, .inr (12, [.ref q1, .int 0, .int 0, .int (nI n)])), (b, .inl (CA 101, a0, .inl f)), (q1, .inl (CA 101, sb_cap q a0, .inl (va_cpy f (fun _ => 0) 0 0 a0)))]) _ := hP
    have hD : va_D A ([(h, .inr (12, [.ref q1, .int 0, .int 0, .int (nI n)])), (b, .inl (CA 101, a0, .inl f)), (q1, .inl (CA 101, sb_cap q a0, .inl (va_cpy f (fun _ => 0) 0 0 a0)))]) := hD
    have hP : va_P (dC, dI) vm_cls (jW CA h q1 n (sb_cap q a0) (va_cpy f (fun _ => 0) 0 0 a0)) H := hP.sub [0, 2] rfl
    have hD : va_D A (jW CA h q1 n (sb_cap q a0) (va_cpy f (fun _ => 0) 0 0 a0)) := hD.sub [0, 2] rfl rfl
    refine W.widen (show ((0 + 0) + 1) ≤ (sb_k q a0) by omega) (show ((0 + 0) + sb_cap q a0) ≤ (sb_z q a0) by omega) ?_
    exact W.vret hx hb hr (fun t ht hW => ⟨_, _, ⟨q1, _, rfl, rfl, sb_fitC hf sb_fit0, fun j hj => sb_cpy0 hj⟩, rfl, by rw [ht]; exact hP, hD, hS.F ht⟩) hS.2.2 (by decide +kernel : decode prog_14_method_9_code 38 = .ok (.return_, 1))
