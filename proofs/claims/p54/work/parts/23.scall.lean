/-! ===== calls of methods of ours ===== -/
theorem vm_NW_cases {w : Cond} (hw : w ∈ vm_NW) : (∃ a i x, w = .methodLinkNest a i x "BoardLetters") ∨ (∃ a i n, w = .fieldLinkNest a i "BoardLetters" n "[I" "BoardLetters") ∨ w = .arrayOver (.object (vm_cn 4)) := by
  unfold vm_NW at hw
  rcases List.mem_append.mp hw with hw | hw
  · rcases List.mem_append.mp hw with hw | hw
    · obtain ⟨e, -, rfl⟩ := List.mem_map.mp hw
      exact Or.inl ⟨_, _, _, rfl⟩
    · obtain ⟨e, he, rfl⟩ := List.mem_map.mp hw
      have h1 := (List.mem_filter.mp he).2
      refine Or.inr (Or.inl ⟨vm_cn e.1, e.2.1, vm_snm e.2.2.1, ?_⟩)
      unfold vm_wdT
      cases hh : (e.1 == 10) with
      | true =>
        have h2 : e.1 = 10 := by simpa using hh
        rw [h2] at h1
        exact absurd h1 (by decide)
      | false =>
        rfl
  · exact Or.inr (Or.inr (List.mem_singleton.mp hw))
theorem vm_Nw_warm {w : Cond} (hw : w ∈ vm_NW) {s U : State} (hW : s.WarmedH U.vm) (h : va_Nw w s) : va_Nw w U := by
  rcases vm_NW_cases hw with ⟨a, i, x, rfl⟩ | ⟨a, i, n, rfl⟩ | rfl
  · exact va_Nw.warmM hW h
  · exact va_Nw.warmF hW h
  · exact va_AO.moved hW.alike h
theorem vm_Nw_same {w : Cond} (hw : w ∈ vm_NW) {u U : State} (hv : u.vm = U.vm) (h : va_Nw w u) : va_Nw w U := by
  rcases vm_NW_cases hw with ⟨a, i, x, rfl⟩ | ⟨a, i, n, rfl⟩ | rfl
  · exact va_Nw.same rfl hv h
  · exact va_Nw.same rfl hv h
  · exact va_AO.moved (by rw [hv]; exact Vm.Alike.refl _) h
theorem vm_Ext.to {ad : Nat → Nat} {A : Nat → Prop} {m0 : vm_M} {u U : State} {H H1 : Heap} (hvm : u.vm.Alike U.vm) (hq : ∀ a : Nat, a < H.size → ¬ A a → H1[a]? = H[a]?) (hN : ∀ w ∈ vm_NW, va_Nw w u → va_Nw w U) (hR : ∀ own k tx a, vk_R own k tx a u → vk_R own k tx a U) (h : vm_Ext ad A m0 u H) : vm_Ext ad A m0 U H1 := by
  obtain ⟨h1, h2, h3, h4, h5, h6, h7, h8, h9⟩ := h
  refine ⟨(h1.kept hq).moved hvm, (h2.kept hq).moved hvm, (h3.kept hq).moved hvm, (h4.kept hq).moved hvm, fun w hw => hN w hw (h5 w hw), fun e he => hR _ _ _ _ (h6 e he), fun k hk => ?_, (h8.kept hq).moved hvm, (h9.kept hq).moved hvm⟩
  obtain ⟨g1, b, g2, g3, g4⟩ := h7 k hk
  exact ⟨(g1.kept hq).moved hvm, b, (g2.kept hq).moved hvm, (g3.kept hq).moved hvm, (g4.kept hq).moved hvm⟩
/-- a method's start -/
def vm_Bg (dC : Nat → ClassId) (dI : Nat → Nat → Nat) (ad : Nat → Nat) (CA : Nat → ClassId) (A : Nat → Prop) (ph : Bool) (m0 mem : vm_M) (U : State) : Prop :=
  va_K (dC, dI) vm_cls (vm_tys CA) U ∧ vm_Ext ad A m0 U U.heap ∧ va_P (dC, dI) vm_cls (vm_ws ad CA ph mem (vm_n ph mem)) U.heap ∧ va_D A (vm_ws ad CA ph mem (vm_n ph mem)) ∧ (∀ q, U.heap.size ≤ q → A q) ∧ (ph = true → 0 ≤ mem 990 0 ∧ mem 990 0 ≤ 96 ∧ ∀ k, k < 900 → ad k + vm_n ph mem = k + U.heap.size)
theorem vm_Bg.same {dC : Nat → ClassId} {dI : Nat → Nat → Nat} {ad : Nat → Nat} {CA : Nat → ClassId} {A : Nat → Prop} {ph : Bool} {m0 mem : vm_M} {u U : State} (hh : U.heap = u.heap) (hv : u.vm = U.vm) (h : vm_Bg dC dI ad CA A ph m0 mem u) : vm_Bg dC dI ad CA A ph m0 mem U := by
  obtain ⟨h1, h2, h3, h4, h5, h6⟩ := h
  have ha : u.vm.Alike U.vm := by rw [hv]; exact Vm.Alike.refl _
  refine ⟨h1.moved ha, h2.to ha (fun a _ _ => by rw [hh]) (fun w hw => vm_Nw_same hw hv) (fun _ _ _ _ => vk_R.same hv.symm), by rw [hh]; exact h3, h4, by rw [hh]; exact h5, by rw [hh]; exact h6⟩
theorem vm_Bg.blind {dC : Nat → ClassId} {dI : Nat → Nat → Nat} {ad : Nat → Nat} {CA : Nat → ClassId} {A : Nat → Prop} {ph : Bool} {m0 mem : vm_M} {av : List Value} : FrameBlind (va_Pc av (vm_Bg dC dI ad CA A ph m0 mem)) := fun _ U g mk h => ⟨h.1, vm_Bg.same (u := U) (U := U.calling g mk _) rfl rfl h.2⟩
/-- a method's end -/
def vm_Qg (dC : Nat → ClassId) (dI : Nat → Nat → Nat) (ad : Nat → Nat) (CA : Nat → ClassId) (A : Nat → Prop) (ph : Bool) (m0 : vm_M) (n1 : Nat) (r : Option vm_V) (m1 : vm_M) : Array Value → State → Outcome → State → Prop := fun _ st o t =>
  o = .returned (r.map (vm_v ad)) ∧ va_P (dC, dI) vm_cls (vm_ws ad CA ph m1 (vm_n ph m1)) t.heap ∧ va_D A (vm_ws ad CA ph m1 (vm_n ph m1)) ∧ va_F A st t ∧ (ph = true → vm_n ph m1 = n1 ∧ 0 ≤ m1 990 0 ∧ m1 990 0 ≤ 96) ∧ (∀ v, r = some v → vm_ov v) ∧ vm_om m1 ∧ vm_ox m0 m1
abbrev vm_cd (f : Nat) : Cond := Cond.code (vm_mn f) (vm_cb f) (vm_mx f) (vm_ret f)
def vm_rm (f d : Nat) : Room := { frames := d, cells := vm_mc f, slots := vm_ms f, locals := 30 * d + 60 }
/-- method f, called with av at mem, comes to r and m1 -/
def vm_Mt (l : Launch) (dC : Nat → ClassId) (dI : Nat → Nat → Nat) (ad : Nat → Nat) (CA : Nat → ClassId) (A : Nat → Prop) (ph : Bool) (m0 : vm_M) (f d : Nat) (av : List vm_V) (mem : vm_M) (r : Option vm_V) (m1 : vm_M) : Prop :=
  Met l (vm_mn f) (vm_cd f :: vm_W) (vm_rm f d) (va_Pc (av.map (vm_v ad)) (vm_Bg dC dI ad CA A ph m0 mem)) (vm_Qg dC dI ad CA A ph m0 (vm_n ph mem + vm_mc f) r m1) (vm_mc f) (vm_ms f) A
theorem vm_mok_at {g : Nat} (h : vm_pr g = true) : vm_mok g = true := vm_pr_all vm_mok_all h
theorem vm_mo_lt : ∀ g, vm_pr g = true → vm_mo g < 11 := by
  have h : (List.range 163).all (fun g => Nat.blt (vm_mo g) 11) = true := by decide +kernel
  exact fun g hg => vm_blt (List.all_eq_true.mp h g (List.mem_range.mpr (vm_pr_lt hg)))
theorem vm_mok_st {g : Nat} (h : vm_pr g = true) (hs : vm_sta g = true) : Cond.static (vm_mn g) ∈ vm_W := by
  have hm := vm_mok_at h
  unfold vm_mok at hm
  rw [hs] at hm
  simp only [Bool.and_eq_true, cond_true] at hm
  exact vm_hw_in hm.1.1.1.1.1.1.2
theorem vm_mok_in {g : Nat} (h : vm_pr g = true) (hs : vm_sta g = false) : Cond.instanceMethod (vm_mn g) ∈ vm_W ∧ ((vm_mn g).name = "<init>" ∨ Cond.selects (vm_cn (vm_mo g)) (vm_mn g) (vm_mn g) ∈ vm_W) := by
  have hm := vm_mok_at h
  unfold vm_mok at hm
  rw [hs] at hm
  simp only [Bool.and_eq_true, cond_false, Bool.or_eq_true, decide_eq_true_eq] at hm
  obtain ⟨h1, h2⟩ := hm.1.1.1.1.1.1.2
  exact ⟨vm_hw_in h1, h2.imp id vm_hw_in⟩
theorem vm_mok_0 {g : Nat} (h : vm_pr g = true) : Cond.initialized (vm_cn (vm_mo g)) ∈ vm_W ∧ (parseMethodDescriptor (vm_mn g).desc).map (fun d => d.parameters.length) = some (vm_na g - bif vm_sta g then 0 else 1) ∧ plainName (vm_mn g).cls = true ∧ (vm_mn g).cls ≠ "java/lang/invoke/MethodHandle" ∧ (vm_mn g).cls ≠ "java/lang/invoke/VarHandle" ∧ vm_mx g ≤ 9 ∧ (1 ≤ vm_na g ∨ vm_sta g = true) := by
  have hm := vm_mok_at h
  unfold vm_mok at hm
  simp only [Bool.and_eq_true, decide_eq_true_eq] at hm
  obtain ⟨⟨⟨⟨⟨⟨⟨h1, -⟩, h3⟩, h4⟩, h5⟩, h6⟩, h7⟩, h8⟩ := hm
  exact ⟨vm_hw_in h1, h3, h4, h5, h6, Nat.le_of_ble_eq_true h7, h8⟩
theorem vm_hasM_in {own idx g : Nat} (h : vm_hasM own idx g = true) : Cond.methodLink (vm_cn own) idx (vm_mn g) ∈ vm_W := by
  unfold vm_hasM at h
  obtain ⟨e, he, h1⟩ := List.any_eq_true.mp h
  simp only [Bool.and_eq_true] at h1
  obtain ⟨⟨g1, g2⟩, g3⟩ := h1
  have := vm_hw_in (List.all_eq_true.mp vm_okM e he)
  unfold vm_wdM at this
  rw [vm_beq g1, vm_beq g2, vm_beq g3] at this
  exact this
theorem vm_hasN_in {own idx g : Nat} (h : vm_hasN own idx g = true) : Cond.methodLinkNest (vm_cn own) idx (vm_mn g) "BoardLetters" ∈ vm_NW := by
  unfold vm_hasN at h
  obtain ⟨e, he, h1⟩ := List.any_eq_true.mp h
  simp only [Bool.and_eq_true] at h1
  obtain ⟨⟨g1, g2⟩, g3⟩ := h1
  have : vm_wdN (e.1, e.2.1, e.2.2.1) ∈ vm_NW := List.mem_append_left _ (List.mem_append_left _ (List.mem_map.mpr ⟨e, he, rfl⟩))
  unfold vm_wdN at this
  rw [vm_beq g1, vm_beq g2, vm_beq g3] at this
  exact this
section VMS6
variable {p : Program} {l : Launch} {e : Env} {R : Room} {s : State} {m : MethodId} {args : Array Value} {below : List Frame} {meth : Method} {c : Code} {cells slots : Nat} {Q : State → Prop}
variable {dC : Nat → ClassId} {dI : Nat → Nat → Nat} {ad : Nat → Nat} {CA : Nat → ClassId} {A : Nat → Prop} {ph : Bool} {f d : Nat} {m0 : vm_M} {n0 : Nat}
/-- while objects are made, the heap grows by the cells that are counted -/
theorem vm_At.size {mem : vm_M} {H : Heap} {locs : List Loc} {T : State} (C : vm_Cx p R s m args meth c dC dI ad CA A f d m0 ph n0) (hat : vm_At s dC dI ad CA A ph mem cells n0 H locs) (hT : T.heap = H) (X : Stand p l e R s m args below meth c T locs cells slots) : ph = true → H.size = s.heap.size + cells := by
  intro hp
  have hn : vm_n ph mem ≤ 96 := by
    have h9 := (hat.2.2.2 hp).2
    subst hp
    show (mem 990 0).toNat ≤ 96
    omega
  have h1 := X.heapSize
  rw [hT] at h1
  have h2 := hat.2.2.1.1
  have h3 := (hat.2.2.2 hp).1
  have h4 := C.2.2.2.2.2.2.2.2.2.2.2.2.2.2.2.2 hp
  by_cases h5 : cells = 0
  · omega
  · have h6 := (hat.1 (vm_n ph mem - 1) _ (vm_ws_at (by omega))).lt
    have h7 := h4 (vm_n ph mem - 1) (by omega)
    dsimp only at h6
    omega
theorem vm_Bg.of {mem : vm_M} {H : Heap} {locs : List Loc} {U : State} (C : vm_Cx p R s m args meth c dC dI ad CA A f d m0 ph n0) (hat : vm_At s dC dI ad CA A ph mem cells n0 H locs) (hsz : ph = true → H.size = s.heap.size + cells) (hU : U.heap = H) (hW : s.WarmedH U.vm) : vm_Bg dC dI ad CA A ph m0 mem U := by
  have hE : vm_Ext ad A m0 s s.heap := C.2.2.2.2.2.2.2.1
  subst hU
  refine ⟨C.2.2.2.2.2.1.moved hW.alike, hE.to hW.alike hat.2.2.1.2.1 (fun w hw => vm_Nw_warm hw hW) (fun _ _ _ _ => vk_R.warm hW), hat.1, hat.2.1, fun q hq => C.2.2.2.2.2.2.1 q (Nat.le_trans hat.2.2.1.1 hq), fun hp => ⟨(hat.2.2.2 hp).2.1, (hat.2.2.2 hp).2.2, fun k hk => ?_⟩⟩
  have h3 := (hat.2.2.2 hp).1
  have h4 := C.2.2.2.2.2.2.2.2.2.2.2.2.2.2.2.2 hp k hk
  have h5 := hsz hp
  omega
theorem vm_call_end {pc g : Nat} {ls : vm_L} {rest : List vm_V} {mem m1 : vm_M} {r : Option vm_V} {H : Heap} {locs : List Loc} {lsa : Array Slot} {st0 : List Value} {av : Array Value} (hr : va_Run p l e R s m args below meth c H locs cells slots (vm_mc g) (vm_ms g) (F0 m pc lsa st0) (rest.map (vm_v ad)) (vm_Qg dC dI ad CA A ph m0 (vm_n ph mem + vm_mc g) r m1 av) A) (hat : vm_At s dC dI ad CA A ph mem cells n0 H locs) (hol : vm_ol ls) (hos : vm_os rest) (hl : lv_has lsa (vm_mx f) (vm_lv ad 0 ls)) (K : vm_Wx p l e R s m args below meth c (cells + vm_mc g) (slots + vm_ms g) Q dC dI ad CA A ph f m0 n0 (pc + 3) ls (r.toList ++ rest) m1) : W p l e R s m args below meth c H locs cells slots Q (F0 m pc lsa st0) := by
  intro T hT X
  obtain ⟨v, st₀, t, T', L, h0, X', hL, e1, e2, ⟨hv, hP, hD, hF, hn, hov, hom1, hox1⟩, st⟩ := hr T hT X
  injection hv with hv
  subst hv
  have hS := hat.2.2.1
  have hz : H.size ≤ T'.heap.size := by rw [e1, ← h0]; exact hF.1
  have hk : ∀ q : Nat, q < H.size → ¬ A q → T'.heap[q]? = H[q]? := fun q h1 h2 => by rw [e1, hF.2 q (by rw [h0]; exact h1) h2, h0]
  obtain ⟨t2, a1, b1⟩ := K T'.heap (locs ++ L) lsa ⟨by rw [e1]; exact hP, hD, ⟨Nat.le_trans hS.1 hz, fun q h1 h2 => by rw [hk q (Nat.lt_of_lt_of_le h1 hS.1) h2]; exact hS.2.1 q h1 h2, fun q hq => by
      rcases List.mem_append.mp hq with h | h
      · exact hS.2.2 q h
      · exact hL q h⟩, fun hp => ⟨by have := (hn hp).1; have := (hat.2.2.2 hp).1; omega, (hn hp).2⟩⟩ hol (by
      cases r with
      | none => exact hos
      | some v => exact hos.c (hov v rfl)) hom1 hox1 hl T' rfl X'
  refine ⟨t2, ?_, b1⟩
  cases r with
  | none => exact st t2 a1
  | some v => exact st t2 a1
theorem vm_s_callV (C : vm_Cx p R s m args meth c dC dI ad CA A f (d + 1) m0 ph n0) {pc g k idx : Nat} {ls : vm_L} {as rest : List vm_V} {mem m1 : vm_M} {r : Option vm_V} (hg : vm_pr g = true) (hs : vm_sta g = false) (hi : ¬ (vm_mt g).1 = "<init>") (hk : vm_is k (vm_mo g) = true) (hna : as.length + 1 = vm_na g) (hc : vm_cats rest ≤ 8) (hcs : cells + vm_mc g ≤ R.cells ∧ slots + vm_ms g ≤ R.slots) (hpre : vm_pre ph (as.reverse ++ vm_r k :: rest) mem = true) (hM : vm_Mt l dC dI ad CA A ph m0 g d (vm_r k :: as) mem r m1) (hw : vm_hasM (vm_mo f) idx g = true) (hd : decode (vm_cb f) pc = .ok (.invokevirtual idx, 3)) (K : vm_Wx p l e R s m args below meth c (cells + vm_mc g) (slots + vm_ms g) Q dC dI ad CA A ph f m0 n0 (pc + 3) ls (r.toList ++ rest) m1) : vm_Wx p l e R s m args below meth c cells slots Q dC dI ad CA A ph f m0 n0 pc ls (as.reverse ++ vm_r k :: rest) mem := by
  intro H locs lsa hat hol hos hom hox hl
  have hR1 : d + 1 ≤ R.frames := C.2.2.2.2.2.2.2.2.2.2.1
  have hR2 : 30 * (d + 1) + 60 ≤ R.locals := C.2.2.2.2.2.2.2.2.2.2.2.1
  obtain ⟨w1, w2, w3, w4, w5, w6, w7⟩ := vm_mok_0 hg
  obtain ⟨w8, w9⟩ := vm_mok_in hg hs
  have w10 : Cond.selects (vm_cn (vm_mo g)) (vm_mn g) (vm_mn g) ∈ vm_W := w9.resolve_left hi
  have hcl := vm_is_cl hk
  have hmo := vm_mo_lt g hg
  have hkn : k < vm_n ph mem := vm_in_n (by omega) hpre (List.mem_append_right _ List.mem_cons_self)
  have hat1 := vm_ws_at (ad := ad) (CA := CA) (ph := ph) (m := mem) hkn
  rw [vm_ce_o hcl hmo] at hat1
  intro T hT X
  have hsz := vm_At.size C hat hT X
  rw [hs] at w2
  refine vm_call_end (g := g) (va_runV (As := as.map (vm_v ad)) (b := ad k) (rest := rest.map (vm_v ad)) ⟨C.1, C.2.1, C.2.2.1, C.2.2.2.1, C.2.2.2.2.1⟩ hM (cwV (vm_na g - 1) C.2.2.2.2.1 (vm_gV (C := vm_cn (vm_mo g)) (vm_code_in (vm_cwall g hg)) (vm_hasM_in hw) w8 w10 w1) rfl rfl rfl ⟨rfl, w4, w5, w2⟩ ⟨by show d + 1 ≤ R.frames; omega, by show 8 + (vm_mx g + 11) + (30 * d + 60) ≤ R.locals; omega⟩) ⟨vm_Bg.blind, va_recv C.2.2.2.2.2.1 hat.1 (vm_cls_at hmo) hat1, fun U hU hW => ⟨rfl, vm_Bg.of C hat hsz hU hW⟩⟩ rfl (by rw [List.length_map]; omega) hl.1 (by show ((as.reverse ++ vm_r k :: rest).map (vm_v ad)) = _; rw [List.map_append, List.map_reverse]; rfl) (lv_room (by rw [vm_v_cats]; exact hc)) hd hcs) hat hol ?_ hl K T hT X
  exact fun v hv => hos v (List.mem_append_right _ (List.mem_cons_of_mem _ hv))
theorem vm_s_callS (C : vm_Cx p R s m args meth c dC dI ad CA A f (d + 1) m0 ph n0) {pc g idx : Nat} {ls : vm_L} {as rest : List vm_V} {mem m1 : vm_M} {r : Option vm_V} (hg : vm_pr g = true) (hs : vm_sta g = true) (hna : as.length = vm_na g) (hc : vm_cats rest ≤ 8) (hcs : cells + vm_mc g ≤ R.cells ∧ slots + vm_ms g ≤ R.slots) (hM : vm_Mt l dC dI ad CA A ph m0 g d as mem r m1) (hw : vm_hasM (vm_mo f) idx g = true) (hd : decode (vm_cb f) pc = .ok (.invokestatic idx, 3)) (K : vm_Wx p l e R s m args below meth c (cells + vm_mc g) (slots + vm_ms g) Q dC dI ad CA A ph f m0 n0 (pc + 3) ls (r.toList ++ rest) m1) : vm_Wx p l e R s m args below meth c cells slots Q dC dI ad CA A ph f m0 n0 pc ls (as.reverse ++ rest) mem := by
  intro H locs lsa hat hol hos hom hox hl
  have hR1 : d + 1 ≤ R.frames := C.2.2.2.2.2.2.2.2.2.2.1
  have hR2 : 30 * (d + 1) + 60 ≤ R.locals := C.2.2.2.2.2.2.2.2.2.2.2.1
  obtain ⟨w1, w2, w3, w4, w5, w6, w7⟩ := vm_mok_0 hg
  have w8 := vm_mok_st hg hs
  intro T hT X
  have hsz := vm_At.size C hat hT X
  rw [hs] at w2
  refine vm_call_end (g := g) (va_runS (As := as.map (vm_v ad)) (rest := rest.map (vm_v ad)) ⟨C.1, C.2.1, C.2.2.1, C.2.2.2.1, C.2.2.2.2.1⟩ hM (va_cwS (vm_na g) C.2.2.2.2.1 (vm_gS (vm_code_in (vm_cwall g hg)) (vm_hasM_in hw) w8 w1) rfl rfl rfl ⟨w4, w5, w2⟩ ⟨by show d + 1 ≤ R.frames; omega, by show 8 + (vm_mx g + 11) + (30 * d + 60) ≤ R.locals; omega⟩) ⟨vm_Bg.blind, fun U hU hW => ⟨rfl, vm_Bg.of C hat hsz hU hW⟩⟩ rfl (by rw [List.length_map]; omega) hl.1 (by show ((as.reverse ++ rest).map (vm_v ad)) = _; rw [List.map_append, List.map_reverse]) (lv_room (by rw [vm_v_cats]; exact hc)) hd hcs) hat hol ?_ hl K T hT X
  exact fun v hv => hos v (List.mem_append_right _ hv)
theorem vm_s_callI (C : vm_Cx p R s m args meth c dC dI ad CA A f (d + 1) m0 ph n0) {pc g k idx : Nat} {ls : vm_L} {as rest : List vm_V} {mem m1 : vm_M} {r : Option vm_V} (hg : vm_pr g = true) (hs : vm_sta g = false) (hi : (vm_mt g).1 = "<init>") (hret : vm_ret g = none) (hna : as.length + 1 = vm_na g) (hc : vm_cats rest ≤ 8) (hcs : cells + vm_mc g ≤ R.cells ∧ slots + vm_ms g ≤ R.slots) (hM : vm_Mt l dC dI ad CA A ph m0 g d (vm_r k :: as) mem r m1) (hw : vm_hasM (vm_mo f) idx g = true ∨ vm_hasN (vm_mo f) idx g = true) (hd : decode (vm_cb f) pc = .ok (.invokespecial idx, 3)) (K : vm_Wx p l e R s m args below meth c (cells + vm_mc g) (slots + vm_ms g) Q dC dI ad CA A ph f m0 n0 (pc + 3) ls (r.toList ++ rest) m1) : vm_Wx p l e R s m args below meth c cells slots Q dC dI ad CA A ph f m0 n0 pc ls (as.reverse ++ vm_r k :: rest) mem := by
  intro H locs lsa hat hol hos hom hox hl
  have hR1 : d + 1 ≤ R.frames := C.2.2.2.2.2.2.2.2.2.2.1
  have hR2 : 30 * (d + 1) + 60 ≤ R.locals := C.2.2.2.2.2.2.2.2.2.2.2.1
  obtain ⟨w1, w2, w3, w4, w5, w6, w7⟩ := vm_mok_0 hg
  obtain ⟨w8, -⟩ := vm_mok_in hg hs
  have hts : ∀ w ∈ vm_W, w.before args s = true := C.2.2.2.2.1
  have hE : vm_Ext ad A m0 s s.heap := C.2.2.2.2.2.2.2.1
  intro T hT X
  have hsz := vm_At.size C hat hT X
  rw [hs] at w2
  have hos1 : vm_os rest := fun v hv => hos v (List.mem_append_right _ (List.mem_cons_of_mem _ hv))
  have hcd : vm_cd g = Cond.code (vm_mn g) (vm_cb g) (vm_mx g) none := by unfold vm_cd; rw [hret]
  have hgood : GoodIn vm_W (vm_cd g :: vm_W) := vm_gi (vm_ws_in (vm_code_in (vm_cwall g hg)))
  have hroom : (vm_rm g d).frames + 1 ≤ R.frames ∧ 8 + (vm_mx g + 11) + (vm_rm g d).locals ≤ R.locals := ⟨by show d + 1 ≤ R.frames; omega, by show 8 + (vm_mx g + 11) + (30 * d + 60) ≤ R.locals; omega⟩
  have hst : (F0 m pc lsa ((as.reverse ++ vm_r k :: rest).map (vm_v ad))).stack = (as.map (vm_v ad)).reverse ++ .ref (ad k) :: rest.map (vm_v ad) := by
    show ((as.reverse ++ vm_r k :: rest).map (vm_v ad)) = _
    rw [List.map_append, List.map_reverse]; rfl
  rcases hw with hw | hw
  · exact vm_call_end (g := g) (va_runI (As := as.map (vm_v ad)) (b := ad k) (rest := rest.map (vm_v ad)) ⟨C.1, C.2.1, C.2.2.1, C.2.2.2.1, hts⟩ hM (cwI (vm_na g - 1) hts hgood (by rw [hcd]) rfl rfl (hts _ w1) (hts _ (vm_hasM_in hw)) (hts _ w8) hi ⟨w4, w5, w2⟩ hroom) ⟨vm_Bg.blind, fun U hU hW => ⟨rfl, vm_Bg.of C hat hsz hU hW⟩⟩ rfl (by rw [List.length_map]; omega) hl.1 hst (lv_room (by rw [vm_v_cats]; exact hc)) hd hcs) hat hol hos1 hl K T hT X
  · exact vm_call_end (g := g) (va_runIN (As := as.map (vm_v ad)) (b := ad k) (host := "BoardLetters") (rest := rest.map (vm_v ad)) ⟨C.1, C.2.1, C.2.2.1, C.2.2.2.1, hts⟩ hM ⟨va_cnB (vm_na g - 1) hts hgood (by rw [hcd]) rfl rfl (hE.2.2.2.2.1 _ (vm_hasN_in hw)) (hts _ w1) ⟨w4, w5, w2⟩ hroom, hi, hts _ w8⟩ ⟨vm_Bg.blind, fun U hU hW => ⟨rfl, vm_Bg.of C hat hsz hU hW⟩⟩ rfl (by rw [List.length_map]; omega) hl.1 hst (lv_room (by rw [vm_v_cats]; exact hc)) hd hcs) hat hol hos1 hl K T hT X
end VMS6
