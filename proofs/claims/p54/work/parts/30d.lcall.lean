/-! ===== the law's calls ===== -/
theorem lBg_aux {AD : Nat → Nat} {base : Nat} {s U : State} {H : Heap} {locs : List Loc} (hE : vm_Ext AD (fun q => base ≤ q) vm_mZ s s.heap) (hS : va_S (fun q => base ≤ q) s.heap H locs) (hU : U.heap = H) (hW : s.WarmedH U.vm) : vm_Ext AD (fun q => base ≤ q) vm_mZ U U.heap := by
  subst hU
  exact hE.to hW.alike hS.2.1 (fun w hw => vm_Nw_warm hw hW) (fun _ _ _ _ => vk_R.warm hW)
theorem lad_lo {AD : Nat → Nat} {a k : Nat} (h : k < 900) : lad AD a k = a + k := if_pos h
theorem lad_D {AD : Nat → Nat} {CA : Nat → ClassId} {A : Nat → Prop} {a n : Nat} {ph : Bool} {m : vm_M} (hn : n ≤ 96) (hA : ∀ q, a ≤ q → q < a + n → A q) : va_D A (vm_ws (lad AD a) CA ph m n) := by
  refine ⟨fun i j p q hp hq hpq => ?_, fun k q hq => ?_⟩
  · have hi := vm_ws_len hp
    have hj := vm_ws_len hq
    rw [vm_ws_at hi] at hp
    rw [vm_ws_at hj] at hq
    cases hp
    cases hq
    have hpq : lad AD a i = lad AD a j := hpq
    rw [lad_lo (by omega), lad_lo (by omega)] at hpq
    omega
  · have hk := vm_ws_len hq
    rw [vm_ws_at hk] at hq
    cases hq
    show A (lad AD a k)
    rw [lad_lo (by omega)]
    exact hA _ (by omega) (by omega)
theorem lad_ints {AD : Nat → Nat} {a : Nat} (as : List Int) : (as.map vm_i).map (vm_v (lad AD a)) = (as.map vm_i).map (vm_v (lvd AD)) := by
  rw [List.map_map, List.map_map]
  rfl
theorem lea_ints : ∀ as : List Int, (vm_ea (as.map vm_i)).length = as.length
  | [] => rfl
  | z :: r => by
    show (vm_ea (r.map vm_i)).length + 1 = r.length + 1
    rw [lea_ints r]
theorem lre_ref {i : vm_I} {st : List vm_V} {r : Option vm_V} {k : Nat} (h : vm_re i st = some (r, true)) : r ≠ some (vm_r k) := by
  intro hr
  subst hr
  unfold vm_re at h
  split at h <;> (try split at h) <;> first | (cases h; done) | (simp at h)
theorem lwp_ref2 {ph : Bool} : ∀ (n : Nat) {d f kc ks pc : Nat} {ls : vm_L} {st : List vm_V} {m : vm_M} {r : Option vm_V} {m1 : vm_M}, (∀ Q' : Option vm_V → vm_M → Prop, Q' r m1 → vm_wp ph n d f kc ks pc ls st m Q') → ∀ k, r ≠ some (vm_r k) := by
  intro n
  induction n with
  | zero => intro d f kc ks pc ls st m r m1 h; exact (h (fun _ _ => True) trivial).elim
  | succ n ih =>
    intro d f kc ks pc ls st m r m1 h
    unfold vm_wp at h
    cases ha : vm_at f pc with
    | none => rw [ha] at h; exact (h (fun _ _ => True) trivial).elim
    | some q =>
      obtain ⟨i, len⟩ := q
      rw [ha] at h
      dsimp only at h
      generalize vm_kd i = kd at h
      rcases kd with _ | _ | _ | _ | kd
      · try dsimp only at h
        cases hx : vm_x ph i ls st m true with
        | none => rw [hx] at h; exact (h (fun _ _ => True) trivial).elim
        | some s => rw [hx] at h; exact ih (fun Q' q => (h Q' q).2)
      · try dsimp only at h
        cases hx : vm_jmp i (pc + len) st with
        | none => rw [hx] at h; exact (h (fun _ _ => True) trivial).elim
        | some s => rw [hx] at h; exact ih h
      · try dsimp only at h
        cases hx : vm_re i st with
        | none => rw [hx] at h; exact (h (fun _ _ => True) trivial).elim
        | some s =>
          rw [hx] at h
          have h1 := h (fun r' m' => r' = r ∧ m' = m1) ⟨rfl, rfl⟩
          obtain ⟨v, ob⟩ := s
          dsimp only at h1
          obtain ⟨⟨g1, -⟩, g2, -⟩ := h1
          subst g1
          subst g2
          exact fun k => lre_ref hx
      · try dsimp only at h
        cases d with
        | zero => exact (h (fun _ _ => True) trivial).elim
        | succ d =>
          dsimp only at h
          obtain ⟨r1, m2, h3, h4⟩ := vm_wp_out n (h (fun r' m' => r' = r ∧ m' = m1) ⟨rfl, rfl⟩).2
          refine ih (r := r) (m1 := m1) (fun Q' q => vm_wp_mono n (Nat.le_refl _) (Nat.le_refl _) (fun r' m' hh => ?_) h3)
          rw [hh.1, hh.2]
          exact q
      · try dsimp only at h
        cases ph with
        | false => exact (h (fun _ _ => True) trivial).elim
        | true =>
          dsimp only [cond] at h
          cases hx : vm_mk i st m with
          | none => rw [hx] at h; exact (h (fun _ _ => True) trivial).elim
          | some s => rw [hx] at h; exact ih (fun Q' q => (h Q' q).2.2.2)
theorem lNoRef {n d g kc ks : Nat} {av : List vm_V} {mem : vm_M} {r : Option vm_V} {m1 : vm_M} (hg : vm_pr g = true) (h : vm_wp false n d g kc ks 0 (vm_en g av) [] mem (fun r' m' => r' = r ∧ m' = m1)) : ∀ k, r ≠ some (vm_r k) := lwp_ref2 n (fun Q' q => vm_wp_mono n (Nat.le_refl _) (Nat.le_refl _) (fun r' m' h => by rw [h.1, h.2]; exact q) h)
/-! a call of a method of the class, on an object of the world -/
section LC1
variable {K : lwK} {S : lwS} {Qp : Option vm_V → lwS → Prop}
/-- what the rule wants to know of method g -/
def lCls (g : Nat) (n : Nat) : Bool := vm_pr g && !vm_sta g && !decide ((vm_mt g).1 = "<init>") && Nat.beq (vm_mo g) 10 && Nat.beq (vm_na g) (n + 1) && Nat.ble (n + 1) (vm_mx g) && Nat.ble (vm_ht g) 9 && Nat.beq (vm_mc g) 0 && Nat.beq (vm_ms g) 0
set_option maxHeartbeats 4000000 in
theorem lg_cls {pc idx o : Nat} (g : Nat) (as : List Int) {ls : vm_L} {mem : vm_M} {rest : List vm_V} (hg9 : lCls g as.length = true) (hc8 : vm_cats rest ≤ 8) (hw : Cond.methodLink "BoardLettersLaw" idx (vm_mn g) ∈ vm_W) (hd : decode K.2.1 pc = .ok (.invokevirtual idx, 3)) (hm : S.1 o = some (lbI mem)) (kk : vm_C g (vm_r 0 :: as.map vm_i) mem (fun r m' => lG K (pc + 3) ls (r.toList ++ rest) (lup S.1 o (lbI m'), S.2) Qp)) : lG K pc ls ((as.map vm_i).reverse ++ vm_r o :: rest) S Qp := by
  unfold lCls at hg9
  simp only [Bool.and_eq_true, Bool.not_eq_true', decide_eq_false_iff_not] at hg9
  obtain ⟨⟨⟨⟨⟨⟨⟨⟨hg, hs⟩, hi⟩, hmo⟩, hna⟩, hea⟩, hht⟩, hmc⟩, hms0⟩ := hg9
  have hmo := vm_beq hmo
  have hna := vm_beq hna
  have hea := Nat.le_of_ble_eq_true hea
  have hht := Nat.le_of_ble_eq_true hht
  have hmc := vm_beq hmc
  have hms0 := vm_beq hms0
  intro p l9 e R s m args below meth cc dC dI CA AD base mcB msB Z C hZ
  intro H locs lsa cells slots hat hol hos hlv
  obtain ⟨hW, hS, hk1, hk2⟩ := hat
  have C9 := C
  obtain ⟨hx, hbc, hml, hown, hts, hK, hbs, hE, hX, hfr, hlo, hmcB, hmsB, -, -, -⟩ := C
  have hbH : base ≤ H.size := Nat.le_trans hbs hS.1
  obtain ⟨n, hn⟩ := kk
  obtain ⟨r, m1, hG, hq⟩ := vm_wp_out n hn
  have hw1 := hq (fun r' m' => r' = r ∧ m' = m1) ⟨rfl, rfl⟩
  obtain ⟨g1, b, ⟨hP, hom, hox⟩, gq, gx, gc⟩ := lW_use hW hm
  have hea9 : (vm_ea (vm_r 0 :: as.map vm_i)).length ≤ vm_mx g := by
    show (vm_ea (as.map vm_i)).length + 1 ≤ _
    rw [lea_ints]; exact hea
  have hos1 : vm_os (vm_r 0 :: as.map vm_i) := by
    intro v hv
    rcases List.mem_cons.mp hv with hv | hv
    · rw [hv]; exact (trivial : vm_ov (vm_r 0))
    · exact hos v (List.mem_append_left _ (List.mem_reverse.mpr hv))
  have hosr : vm_os rest := fun v hv => hos v (List.mem_append_right _ (List.mem_cons_of_mem _ hv))
  have hM : vm_Mt l9 dC dI (lad AD (o - 100)) CA (fun q => lfp (o - 100) b (lbI mem) q ∨ H.size ≤ q) false vm_mZ g (vm_ht g) (vm_r 0 :: as.map vm_i) mem r m1 :=
    vm_all l9 dC dI _ CA _ vm_mZ (vm_ht g) false g hg (Nat.le_refl _) n _ mem r m1 (by show (vm_sta g || vm_is 0 (vm_mo g)) = true; rw [hmo]; exact Bool.or_eq_true_iff.mpr (Or.inr (by decide))) (by rw [List.length_cons, List.length_map, hna]) hea9 (fun _ => Or.inr trivial) hos1 hom hox (by rw [hmc, hms0]; exact hw1)
  have hAA : ∀ q, (lfp (o - 100) b (lbI mem) q ∨ H.size ≤ q) → base ≤ q := fun q h => h.elim (gq q) (fun h => Nat.le_trans hbH h)
  have hD : va_D (fun q => lfp (o - 100) b (lbI mem) q ∨ H.size ≤ q) (vm_ws (lad AD (o - 100)) CA false mem 96) := lad_D (Nat.le_refl _) (fun q h1 h2 => Or.inl ⟨h1, h2⟩)
  obtain ⟨w1, w2, w3, w4, w5, w6, w7⟩ := vm_mok_0 hg
  obtain ⟨w8, w9⟩ := vm_mok_in hg hs
  have w10 : Cond.selects (vm_cn (vm_mo g)) (vm_mn g) (vm_mn g) ∈ vm_W := w9.resolve_left hi
  have hmo2 := vm_mo_lt g hg
  have hat1 := vm_ws_at (ad := lad AD (o - 100)) (CA := CA) (ph := false) (m := mem) (n := 96) (k := 0) (by decide)
  rw [vm_ce_o (show vm_cl 0 = vm_mo g by rw [hmo]; rfl) hmo2] at hat1
  rw [hs] at w2
  have eb : lvd AD o = o - 100 := if_neg (by omega)
  have eb2 : lad AD (o - 100) 0 = o - 100 := lad_lo (by decide)
  have hpre := va_recv hK hP (vm_cls_at hmo2) hat1
  intro T hT X
  have hr := va_runV (l := l9) (e := e) (below := below) (meth := meth) (rest := rest.map (vm_v (lvd AD))) (As := (as.map vm_i).map (vm_v (lad AD (o - 100)))) (b := lad AD (o - 100) 0) (g := F0 m pc lsa (((as.map vm_i).reverse ++ vm_r o :: rest).map (vm_v (lvd AD)))) (H := H) (cells := cells) (slots := slots) (locs := locs) ⟨hx, hbc, hml, hown, hts⟩ hM (cwV (vm_na g - 1) hts (vm_gV (C := vm_cn (vm_mo g)) (vm_code_in (vm_cwall g hg)) hw w8 w10 w1) rfl rfl rfl ⟨rfl, w4, w5, w2⟩ ⟨by show vm_ht g + 1 ≤ R.frames; omega, by show 8 + (vm_mx g + 11) + (30 * vm_ht g + 60) ≤ R.locals; omega⟩) ⟨vm_Bg.blind, hpre, fun U hU hW2 => ⟨rfl, hK.moved hW2.alike, ((lBg_aux hE hS hU hW2).narrow hAA).congr (fun k hk => (if_neg (by omega)).symm), by rw [hU]; exact hP, hD, fun q hq => Or.inr (by rw [← hU]; exact hq), fun h => by cases h⟩⟩ rfl (by rw [List.length_map, List.length_map]; omega) hlv.1 (by show (((as.map vm_i).reverse ++ vm_r o :: rest).map (vm_v (lvd AD))) = _; rw [List.map_append, List.map_reverse, lad_ints, List.map_cons, eb2]; show _ ++ Value.ref (lvd AD o) :: _ = _; rw [eb]) (lv_room (by rw [vm_v_cats]; exact hc8)) hd ⟨by rw [hmc]; omega, by rw [hms0]; omega⟩
  obtain ⟨v, st₀, t, T', L, h0, X', hL, e1, e2, ⟨hv, hP2, hD2, hF, -, hov, hom1, hox1⟩, st⟩ := hr T hT X
  injection hv with hv
  subst hv
  have hz : H.size ≤ T'.heap.size := by rw [e1, ← h0]; exact hF.1
  have hkp : ∀ q : Nat, q < H.size → ¬ (lfp (o - 100) b (lbI mem) q ∨ H.size ≤ q) → T'.heap[q]? = H[q]? := fun q h1 h2 => by rw [e1, hF.2 q (by rw [h0]; exact h1) h2, h0]
  have hlw := gc T'.heap b (lbI m1) hz (fun q h1 h2 => hkp q h1 (fun h => h.elim h2 (fun h => by omega))) (show lH dC dI CA AD T'.heap (o - 100) b (lbI m1) from ⟨by rw [e1]; exact hP2, hom1, hox1⟩) (fun q hq => Or.inl hq) hbH
  have hSS : va_S (fun q => base ≤ q) s.heap T'.heap (locs ++ L) := ⟨Nat.le_trans hS.1 hz, fun q h1 h2 => by rw [hkp q (Nat.lt_of_lt_of_le h1 hS.1) (fun h => h2 (hAA q h))]; exact hS.2.1 q h1 h2, fun q hq => by
      rcases List.mem_append.mp hq with h | h
      · exact hS.2.2 q h
      · exact hAA _ (hL q h)⟩
  rw [hmc, hms0] at X'
  have hnr : ∀ k, r ≠ some (vm_r k) := lNoRef hg hw1
  have k9 := hG p l9 e R s m args below meth cc dC dI CA AD base mcB msB Z C9 hZ T'.heap (locs ++ L) lsa cells slots ⟨hlw, hSS, hk1, hk2⟩ hol (by
      cases r with
      | none => exact hosr
      | some v => exact hosr.c (hov v rfl)) hlv T' rfl X'
  obtain ⟨t2, a1, b1⟩ := k9
  refine ⟨t2, ?_, b1⟩
  cases r with
  | none => exact st t2 a1
  | some v =>
    have ev : vm_v (lad AD (o - 100)) v = vm_v (lvd AD) v := by
      rcases v with z | z | (_ | k) | b | b
      · rfl
      · rfl
      · rfl
      · exact absurd rfl (hnr k)
      · rfl
      · rfl
    have st2 := st t2
    rw [show (some v).map (vm_v (lad AD (o - 100))) = some (vm_v (lad AD (o - 100)) v) from rfl, ev] at st2
    exact st2 a1
end LC1
/-! a call of a method of the law -/
def lEn (K : lwK) (as : List vm_V) : vm_L := vm_ea as ++ List.replicate (K.2.2.1 - (vm_ea as).length) none
def lBg (dC : Nat → ClassId) (dI : Nat → Nat → Nat) (CA : Nat → ClassId) (AD : Nat → Nat) (base : Nat) (M : lwM) (U : State) : Prop :=
  va_K (dC, dI) vm_cls (vm_tys CA) U ∧ vm_Ext AD (fun q => base ≤ q) vm_mZ U U.heap ∧ jX (fun q => base ≤ q) U U.heap ∧ lW dC dI CA AD base M U.heap ∧ base ≤ U.heap.size
theorem lBg.same {dC : Nat → ClassId} {dI : Nat → Nat → Nat} {CA : Nat → ClassId} {AD : Nat → Nat} {base : Nat} {M : lwM} {u U : State} (hh : U.heap = u.heap) (hv : u.vm = U.vm) (h : lBg dC dI CA AD base M u) : lBg dC dI CA AD base M U := by
  obtain ⟨h1, h2, h3, h4, h5⟩ := h
  have ha : u.vm.Alike U.vm := by rw [hv]; exact Vm.Alike.refl _
  exact ⟨h1.moved ha, h2.to ha (fun a _ _ => by rw [hh]) (fun w hw => vm_Nw_same hw hv) (fun _ _ _ _ => vk_R.same hv.symm), h3.to ha (fun a _ _ => by rw [hh]) (va_Nw.same rfl hv), by rw [hh]; exact h4, by rw [hh]; exact h5⟩
theorem lBg.blind {dC : Nat → ClassId} {dI : Nat → Nat → Nat} {CA : Nat → ClassId} {AD : Nat → Nat} {base : Nat} {M : lwM} {av : List Value} : FrameBlind (va_Pc av (lBg dC dI CA AD base M)) := fun _ U g mk h => ⟨h.1, lBg.same (u := U) (U := U.calling g mk _) rfl rfl h.2⟩
def lQg (dC : Nat → ClassId) (dI : Nat → Nat → Nat) (CA : Nat → ClassId) (AD : Nat → Nat) (base : Nat) (Qc : Option vm_V → lwS → Prop) : Array Value → State → Outcome → State → Prop := fun _ st o t =>
  ∃ r S', Qc r S' ∧ o = .returned (r.map (vm_v (lvd AD))) ∧ lW dC dI CA AD base S'.1 t.heap ∧ va_F (fun q => base ≤ q) st t ∧ ∀ v, r = some v → vm_ov v
/-- what a call wants to know of a method of the law -/
def lOK (K : lwK) (n : Nat) : Prop := K.1.cls = "BoardLettersLaw" ∧ Cond.code K.1 K.2.1 K.2.2.1 K.2.2.2.1 ∈ vm_W ∧ Cond.static K.1 ∈ vm_W ∧ Cond.initialized K.1.cls ∈ vm_W ∧ (parseMethodDescriptor K.1.desc).map (fun d => d.parameters.length) = some n ∧ K.2.2.1 ≤ 26 ∧ K.2.2.2.2.1 ≠ 4
theorem lMet {K : lwK} {n : Nat} (l : Launch) (dC : Nat → ClassId) (dI : Nat → Nat → Nat) (CA : Nat → ClassId) (AD : Nat → Nat) (base : Nat) (as : List vm_V) (M : lwM) (cB zB : Nat) (Qc : Option vm_V → lwS → Prop) (hok : lOK K n) (hG : lG K 0 (lEn K as) [] (M, cB, zB) Qc) (hos : vm_os as) (hea : (vm_ea as).length ≤ K.2.2.1) : Met l K.1 (Cond.code K.1 K.2.1 K.2.2.1 K.2.2.2.1 :: vm_W) { frames := 10 + K.2.2.2.2.1, cells := cB, slots := zB, locals := 400 + 45 * K.2.2.2.2.1 } (va_Pc (as.map (vm_v (lvd AD))) (lBg dC dI CA AD base M)) (lQg dC dI CA AD base Qc) cB zB (fun q => base ≤ q) := by
  obtain ⟨o1, o2, o3, o4, o5, o6, o7⟩ := hok
  refine Met.ofW (cc := K.2.1) (maxL := K.2.2.1) (ret := K.2.2.2.1) (by rw [o1]; decide) rfl ?_
  intro p e s m args below meth c s₁ B hml hv
  obtain ⟨rfl, b1, b2, b3, b4, b5⟩ := hv
  have hts0 := atoms_spec B.pre
  have hts : ∀ w ∈ vm_W, w.before (as.map (vm_v (lvd AD))).toArray s = true := fun w hw => hts0 w (List.mem_cons_of_mem _ hw)
  have hown : s.vm.findClass "BoardLettersLaw" = some m.cls := by have := findClass_of_methodNamed B.named; rwa [o1] at this
  have C : lCx p { frames := 10 + K.2.2.2.2.1, cells := cB, slots := zB, locals := 400 + 45 * K.2.2.2.2.1 } s m (as.map (vm_v (lvd AD))).toArray meth c dC dI CA AD base K cB zB :=
    ⟨B.exec, B.bytes, hml, hown, hts, b1, b5, b2, b3, Nat.le_refl _, Nat.le_refl _, Nat.le_refl _, Nat.le_refl _, B.returns, B.notSynchronized, fun h => absurd h o7⟩
  rw [lg_entry_eq]
  refine hG p l e _ s m _ below meth c dC dI CA AD base cB zB _ C ?_ s.heap [] _ 0 0 ⟨b4, va_S.rf, by show 0 + cB ≤ cB; omega, by show 0 + zB ≤ zB; omega⟩ ?_ (fun v hv => by cases hv) ?_
  · intro pcr ls' st' S' r hre hq H locs lsa cells slots hat hol hos hl
    obtain ⟨hW, hS, h1, h2⟩ := hat
    refine W.widen (k := cB) (n := zB) (by omega) (by omega) ?_
    rcases hre with ⟨z, hd, ht, rfl, rfl⟩ | ⟨a, hd, ht, rfl, rfl⟩ | ⟨hd, ht, rfl, rfl⟩
    · rcases ht with ht | ⟨ht, hz⟩
      · exact W.iret B.exec B.bytes (B.returns.trans ht) (fun t e1 e2 => ⟨some (vm_i z), S', hq, rfl, by rw [e1]; exact hW, hS.F e1, fun v hv => by cases hv; exact hos.h⟩) hS.2.2 hd B.notSynchronized
      · exact W.zret B.exec B.bytes (B.returns.trans ht) (by rcases hz with rfl | rfl <;> rfl) (fun t e1 e2 => ⟨some (vm_i z), S', hq, rfl, by rw [e1]; exact hW, hS.F e1, fun v hv => by cases hv; exact hos.h⟩) hS.2.2 hd B.notSynchronized
    · exact W.aret B.exec B.bytes (B.returns.trans ht) (Or.inl ⟨_, rfl⟩) (Or.inr ⟨_, rfl⟩) (fun t e1 e2 => ⟨some (vm_r a), S', hq, rfl, by rw [e1]; exact hW, hS.F e1, fun v hv => by cases hv; exact trivial⟩) hS.2.2 hd B.notSynchronized
    · exact W.vret B.exec B.bytes (B.returns.trans ht) (fun t e1 e2 => ⟨none, S', hq, rfl, by rw [e1]; exact hW, hS.F e1, fun v hv => by cases hv⟩) hS.2.2 hd B.notSynchronized
  · intro k v hk
    have h1 := vm_gl_mem hk
    unfold lEn at h1
    rcases List.mem_append.mp h1 with h2 | h2
    · exact hos v (vm_ea_mem (fun _ => 0) h2)
    · have := List.eq_of_mem_replicate h2
      cases this
  · unfold lEn
    rw [vm_lv_ea]
    exact lv_entry _ (by rw [vm_ea_len]; exact hea)
section LC2
variable {K : lwK} {S : lwS} {Qp : Option vm_V → lwS → Prop}
set_option maxHeartbeats 4000000 in
theorem lg_call {K2 : lwK} {n pc idx : Nat} (cB zB : Nat) {ls : vm_L} (as : List vm_V) {rest : List vm_V} (hok : lOK K2 n) (hna : as.length = n) (hlev : K2.2.2.2.2.1 < K.2.2.2.2.1) (hw : Cond.methodLink "BoardLettersLaw" idx K2.1 ∈ vm_W) (hd : decode K.2.1 pc = .ok (.invokestatic idx, 3)) (hc8 : vm_cats rest ≤ 8) (hb : cB ≤ S.2.1 ∧ zB ≤ S.2.2) (hea : (vm_ea as).length ≤ K2.2.2.1) (hG : lG K2 0 (lEn K2 as) [] (S.1, cB, zB) (fun r S' => lG K (pc + 3) ls (r.toList ++ rest) (S'.1, S.2.1 - cB, S.2.2 - zB) Qp)) : lG K pc ls (as.reverse ++ rest) S Qp := by
  intro p l9 e R s m args below meth cc dC dI CA AD base mcB msB Z C hZ
  intro H locs lsa cells slots hat hol hos hlv
  obtain ⟨hW, hS, hk1, hk2⟩ := hat
  have C9 := C
  obtain ⟨hx, hbc, hml, hown, hts, hK, hbs, hE, hX, hfr, hlo, hmcB, hmsB, -, -, -⟩ := C
  have hbH : base ≤ H.size := Nat.le_trans hbs hS.1
  have hos1 : vm_os as := fun v hv => hos v (List.mem_append_left _ (List.mem_reverse.mpr hv))
  have hosr : vm_os rest := fun v hv => hos v (List.mem_append_right _ hv)
  have hM := lMet l9 dC dI CA AD base as S.1 cB zB _ hok hG hos1 hea
  obtain ⟨o1, o2, o3, o4, o5, o6, o7⟩ := hok
  have hr := va_runS (l := l9) (e := e) (below := below) (meth := meth) (H := H) (locs := locs) (cells := cells) (slots := slots) (As := as.map (vm_v (lvd AD))) (rest := rest.map (vm_v (lvd AD))) (g := F0 m pc lsa ((as.reverse ++ rest).map (vm_v (lvd AD)))) ⟨hx, hbc, hml, hown, hts⟩ hM (va_cwS n hts (vm_gS o2 hw o3 o4) rfl rfl rfl ⟨by rw [o1]; decide, by rw [o1]; decide, o5⟩ ⟨by show 10 + K2.2.2.2.2.1 + 1 ≤ R.frames; omega, by show 8 + (K2.2.2.1 + 11) + (400 + 45 * K2.2.2.2.2.1) ≤ R.locals; omega⟩) ⟨lBg.blind, fun U hU hW2 => ⟨rfl, hK.moved hW2.alike, lBg_aux hE hS hU hW2, (by rw [hU]; exact hX.to hW2.alike hS.2.1 (va_Nw.warmC hW2)), (by rw [hU]; exact hW), (by rw [hU]; exact hbH)⟩⟩ rfl (by rw [List.length_map, hna]) hlv.1 (by show (as.reverse ++ rest).map (vm_v (lvd AD)) = _; rw [List.map_append, List.map_reverse]) (lv_room (by rw [vm_v_cats]; exact hc8)) hd ⟨by omega, by omega⟩
  intro T hT X
  obtain ⟨v, st₀, t, T', L, h0, X', hL, e1, e2, ⟨r, S', hQ, hv, hlw, hF, hov⟩, st⟩ := hr T hT X
  injection hv with hv
  subst hv
  have hz : H.size ≤ T'.heap.size := by rw [e1, ← h0]; exact hF.1
  have hkp : ∀ q : Nat, q < H.size → ¬ base ≤ q → T'.heap[q]? = H[q]? := fun q h1 h2 => by rw [e1, hF.2 q (by rw [h0]; exact h1) h2, h0]
  have hSS : va_S (fun q => base ≤ q) s.heap T'.heap (locs ++ L) := ⟨Nat.le_trans hS.1 hz, fun q h1 h2 => by rw [hkp q (Nat.lt_of_lt_of_le h1 hS.1) h2]; exact hS.2.1 q h1 h2, fun q hq => by
      rcases List.mem_append.mp hq with h | h
      · exact hS.2.2 q h
      · exact hL q h⟩
  have k9 := hQ p l9 e R s m args below meth cc dC dI CA AD base mcB msB Z C9 hZ T'.heap (locs ++ L) lsa (cells + cB) (slots + zB) ⟨by rw [e1]; exact hlw, hSS, by show cells + cB + (S.2.1 - cB) ≤ mcB; omega, by show slots + zB + (S.2.2 - zB) ≤ msB; omega⟩ hol (by
      cases r with
      | none => exact hosr
      | some v => exact hosr.c (hov v rfl)) hlv T' rfl X'
  obtain ⟨t2, a1, b1⟩ := k9
  refine ⟨t2, ?_, b1⟩
  cases r with
  | none => exact st t2 a1
  | some v => exact st t2 a1
/-- an object of the class is made -/
theorem lZ1 : vm_n true (vm_nm vm_mZ) = 1 ∧ vm_nm vm_mZ 990 0 = 1 ∧ (vm_mZ 990 0).toNat = 0 := by decide
set_option maxHeartbeats 4000000 in
theorem lg_newX0 {m1 : vm_M} (e1 : vm_wp true 3000 12 100 (vm_mc 100) (vm_ms 100) 0 (vm_en 100 [vm_r 0]) [] (vm_nm vm_mZ) (fun r m' => r = none ∧ m' = m1)) (h1 : (m1 990 0).toNat = 96) (hbf : ∀ k f : Nat, k < 96 → vm_cl k < 100 → f < vm_nf (vm_cl k) → vm_fk (vm_cl k) f = 2 → m1 k (f : Int) = 1) (hba : ∀ k j : Nat, k < 96 → vm_cl k = 104 → j < vm_ln k → m1 k (j : Int) = 1) (h3 : 3 ≤ K.2.2.2.2.1) {pc idx idx2 : Nat} {ls : vm_L} {r : List vm_V} (hw : Cond.classLink "BoardLettersLaw" idx "BoardLetters" ∈ vm_W) (hw2 : Cond.methodLink "BoardLettersLaw" idx2 (vm_mn 100) ∈ vm_W) (hd : decode K.2.1 pc = .ok (.new idx, 3)) (hd2 : decode K.2.1 (pc + 3) = .ok (.dup, 1)) (hd3 : decode K.2.1 (pc + 4) = .ok (.invokespecial idx2, 3)) (hc8 : vm_cats r + 1 ≤ 8) (hb : 1 + vm_mc 100 ≤ S.2.1 ∧ vm_nf 10 + vm_ms 100 ≤ S.2.2) (kk : ∀ a, 100 ≤ a → S.1 a = none → lG K (pc + 7) ls (vm_r a :: r) (lup S.1 a (lbI m1), S.2.1 - (1 + vm_mc 100), S.2.2 - (vm_nf 10 + vm_ms 100)) Qp) : lG K pc ls r S Qp := by
  intro p l9 e R s m args below meth cc dC dI CA AD base mcB msB Z C hZ
  intro H locs lsa cells slots hat hol hos hlv
  obtain ⟨hW, hS, hk1, hk2⟩ := hat
  have C9 := C
  obtain ⟨hx, hbc, hml, hown, hts, hK, hbs, hE, hX, hfr, hlo, hmcB, hmsB, -, -, -⟩ := C
  have hbH : base ≤ H.size := Nat.le_trans hbs hS.1
  have ha : 10 < 11 := by decide
  have hKn := hK.1 10 _ (vm_cls_at ha)
  obtain ⟨c1, c2, c3, c4, c5⟩ := vm_cok_1 ha
  obtain ⟨z1, z2, z3⟩ := lZ1
  refine W.newcK hx hbc hown (hts _ hw) (hts _ c4) (hts _ c5) rfl hd (show cells + 1 ≤ R.cells by omega) (show slots + vm_nf 10 ≤ R.slots by omega) hKn.2.1 rfl (fun H1 kC hkC e4 y1 o1 => ?_)
  have he : va_at (dC, dI) vm_cls (H.size, vm_ce (lad AD H.size) CA true 0 (fun _ => 0)) H1 := by
    rw [vm_ce_o (show vm_cl 0 = 10 from rfl) ha]
    refine ⟨_, vm_cls_at ha, (u_born (vm_ty 10) hts c1 hKn hkC e4 c2).to (fun j hj => ?_)⟩
    rw [vm_df (ad := lad AD H.size) ha hj 0]
    unfold vp_V
    simp [List.getElem?_range hj, hj]
  have hP1 : va_P (dC, dI) vm_cls (vm_ws (lad AD H.size) CA true (vm_nm vm_mZ) (vm_n true (vm_nm vm_mZ))) H1 := by
    rw [z1]
    intro k q hq
    have hk := vm_ws_len hq
    obtain rfl : k = 0 := by omega
    rw [vm_ws_at hk] at hq
    cases hq
    have e3 : vm_nm vm_mZ 0 = fun _ => 0 := by
      have := vm_nm_own (mem := vm_mZ) (by rw [z3]; decide)
      rwa [z3] at this
    rw [e3, lad_lo (by decide), Nat.add_zero]
    exact he
  have hD1 : va_D (fun q => H.size ≤ q) (vm_ws (lad AD H.size) CA true (vm_nm vm_mZ) (vm_n true (vm_nm vm_mZ))) := by
    rw [z1]
    exact lad_D (by decide) (fun q h1 _ => h1)
  refine lv_dup hx hbc hd2 (show (Value.ref H.size).category = 1 from rfl) ?_
  have hAA : ∀ q, H.size ≤ q → base ≤ q := fun q h => Nat.le_trans hbH h
  have hS1 : va_S (fun q => base ≤ q) s.heap H1 locs := ⟨Nat.le_trans hS.1 (by omega), fun x h1 h2 => (o1 x (Nat.lt_of_lt_of_le h1 hS.1)).trans (hS.2.1 x h1 h2), hS.2.2⟩
  have hM : vm_Mt l9 dC dI (lad AD H.size) CA (fun q => H.size ≤ q) true vm_mZ 100 12 [vm_r 0] (vm_nm vm_mZ) none m1 :=
    vm_all l9 dC dI _ CA _ vm_mZ 12 true 100 (by decide +kernel) (by decide +kernel) 3000 [vm_r 0] (vm_nm vm_mZ) none m1 (by decide +kernel) (by decide +kernel) (by decide +kernel) (fun _ => Or.inr trivial) (fun v hv => by rw [List.mem_singleton.mp hv]; exact trivial) (vm_nm_om (by decide) vm_mZ_om) (vm_nm_ox (by decide) (fun _ _ _ => rfl)) e1
  obtain ⟨w1, w2, w3, w4, w5, w6, w7⟩ := vm_mok_0 (g := 100) (by decide +kernel)
  obtain ⟨w8, -⟩ := vm_mok_in (g := 100) (by decide +kernel) (by decide +kernel)
  have hx9 : vm_mx 100 ≤ 9 := w6
  have hroom : ∀ q, q ≤ 9 → 8 + (q + 11) + (30 * 12 + 60) ≤ R.locals := fun q hq => by omega
  have hr := va_runI (l := l9) (e := e) (below := below) (meth := meth) (H := H1) (locs := locs) (cells := cells + 1) (slots := slots + vm_nf 10) (As := []) (b := H.size) (rest := .ref H.size :: r.map (vm_v (lvd AD))) (g := F0 m (pc + 3 + 1) lsa (.ref H.size :: .ref H.size :: r.map (vm_v (lvd AD)))) (index := idx2) ⟨hx, hbc, hml, hown, hts⟩ hM (cwI 0 hts (by rw [show vm_cd 100 = Cond.code (vm_mn 100) (vm_cb 100) (vm_mx 100) none from by unfold vm_cd; rw [show vm_ret 100 = none by rfl]]; exact vm_gi (vm_ws_in (vm_code_in (vm_cwall 100 (by decide +kernel))))) (by unfold vm_cd; rw [show vm_ret 100 = none by rfl]) rfl rfl (hts _ w1) (hts _ hw2) (hts _ w8) (by decide +kernel) ⟨w4, w5, by decide +kernel⟩ ⟨by show 12 + 1 ≤ R.frames; omega, hroom _ hx9⟩) ⟨vm_Bg.blind, fun U hU hW2 => ⟨congrArg List.toArray (show [Value.ref H.size] = [Value.ref (lad AD H.size 0)] by rw [lad_lo (by decide), Nat.add_zero]), hK.moved hW2.alike, ((lBg_aux hE hS1 hU hW2).narrow hAA).congr (fun k hk => (if_neg (by omega)).symm), by rw [hU]; exact hP1, hD1, fun q hq => (by rw [hU, y1] at hq; omega), fun _ => ⟨by rw [z2]; decide, by rw [z2]; decide, fun k hk => by rw [lad_lo hk, z1, hU, y1]; omega⟩⟩⟩ rfl rfl hlv.1 rfl (lv_room (by show 1 + ((r.map (vm_v (lvd AD))).map fun v => v.category).sum ≤ 8; rw [vm_v_cats]; omega)) hd3 ⟨by show cells + 1 + vm_mc 100 ≤ R.cells; omega, by show slots + vm_nf 10 + vm_ms 100 ≤ R.slots; omega⟩
  intro T hT X
  obtain ⟨v, st₀, t, T', L, h0, X', hL, e3, e2, ⟨hv, hP2, hD2, hF, -, hov, hom1, hox1⟩, st⟩ := hr T hT X
  injection hv with hv
  subst hv
  rw [show vm_n true m1 = 96 from h1] at hP2 hD2
  obtain ⟨hP3, hD3⟩ := vm_ws_turn hbf hba hP2 hD2
  have hz : H1.size ≤ T'.heap.size := by rw [e3, ← h0]; exact hF.1
  have hkp : ∀ q : Nat, q < H.size → T'.heap[q]? = H[q]? := fun q h1 => by rw [e3, hF.2 q (by rw [h0, y1]; omega) (by omega), h0]; exact o1 q h1
  obtain ⟨g1, g2⟩ := lW_add (a := H.size) (b := 0) (B := lbI m1) hW (by omega) hkp ⟨by rw [e3]; exact hP3, hom1, hox1⟩ (fun q hq => hq.1) hbH
  have hSS : va_S (fun q => base ≤ q) s.heap T'.heap (locs ++ L) := ⟨by have := hS.1; omega, fun q h1 h2 => by rw [hkp q (Nat.lt_of_lt_of_le h1 hS.1)]; exact hS.2.1 q h1 h2, fun q hq => by
      rcases List.mem_append.mp hq with h | h
      · exact hS.2.2 q h
      · exact hAA _ (hL q h)⟩
  have eb : lvd AD (H.size + 100) = H.size := if_neg (by omega)
  have k9 := kk (H.size + 100) (by omega) g1 p l9 e R s m args below meth cc dC dI CA AD base mcB msB Z C9 hZ T'.heap (locs ++ L) lsa (cells + 1 + vm_mc 100) (slots + vm_nf 10 + vm_ms 100) ⟨g2, hSS, by show cells + 1 + vm_mc 100 + (S.2.1 - (1 + vm_mc 100)) ≤ mcB; omega, by show slots + vm_nf 10 + vm_ms 100 + (S.2.2 - (vm_nf 10 + vm_ms 100)) ≤ msB; omega⟩ hol (hos.c (v := vm_r (H.size + 100)) trivial) hlv
  have e9 : (vm_r (H.size + 100) :: r).map (vm_v (lvd AD)) = .ref H.size :: r.map (vm_v (lvd AD)) := by show Value.ref (lvd AD (H.size + 100)) :: _ = _; rw [eb]
  rw [e9] at k9
  obtain ⟨t2, a1, b1⟩ := k9 T' rfl X'
  exact ⟨t2, st t2 a1, b1⟩
theorem lg_newX (h3 : 3 ≤ K.2.2.2.2.1) {pc idx idx2 : Nat} {ls : vm_L} {r : List vm_V} (hw : Cond.classLink "BoardLettersLaw" idx "BoardLetters" ∈ vm_W) (hw2 : Cond.methodLink "BoardLettersLaw" idx2 (vm_mn 100) ∈ vm_W) (hd : decode K.2.1 pc = .ok (.new idx, 3)) (hd2 : decode K.2.1 (pc + 3) = .ok (.dup, 1)) (hd3 : decode K.2.1 (pc + 4) = .ok (.invokespecial idx2, 3)) (hc8 : vm_cats r + 1 ≤ 8) (hb : 1 + vm_mc 100 ≤ S.2.1 ∧ vm_nf 10 + vm_ms 100 ≤ S.2.2) (kk : ∀ a, 100 ≤ a → S.1 a = none → lG K (pc + 7) ls (vm_r a :: r) (lup S.1 a (lbI vm_m1), S.2.1 - (1 + vm_mc 100), S.2.2 - (vm_nf 10 + vm_ms 100)) Qp) : lG K pc ls r S Qp :=
  lg_newX0 vm_e1_wp vm_m1_96 (fun _ _ => vm_bits_f) (fun _ _ => vm_bits_a) h3 hw hw2 hd hd2 hd3 hc8 hb kk
end LC2
