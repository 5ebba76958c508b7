/-! ===== the law: from its entry to its loop; the machine of numbers' run of the rest is all that is left to show ===== -/
/-- the memory when both objects stand -/
def vm_mS (mF : vm_M) (L : Nat) (xs : Nat → Int32) : vm_M := fun k i => if k = 902 then (xs i.toNat).toInt else if k = 903 then (L : Int) else if 900 ≤ k ∧ k < 990 then vm_mZ k i else mF k i
def vm_lsS : vm_L := [some (vm_r 902), some (vm_r 0), some (vm_r 96), none, none, none, none, none]
theorem vm_code_law : code = vm_cb 301 := by rfl
theorem vm_bits_f {k f : Nat} (hk : k < 117) (hc : vm_cl k < 100) (hf : f < vm_nf (vm_cl k)) (h2 : vm_fk (vm_cl k) f = 2) : vm_mF k (f : Int) = 1 := by
  have h := List.all_eq_true.mp vm_bits_all k (List.mem_range.mpr hk)
  unfold vm_bits at h
  rw [vm_blt' hc] at h
  have h3 := List.all_eq_true.mp h f (List.mem_range.mpr hf)
  simp only [Bool.or_eq_true, Bool.not_eq_true', decide_eq_true_eq] at h3
  rcases h3 with h3 | h3
  · rw [h2] at h3; cases h3
  · exact h3
theorem vm_bits_a {k j : Nat} (hk : k < 117) (hc : vm_cl k = 104) (hj : j < vm_ln k) : vm_mF k (j : Int) = 1 := by
  have h := List.all_eq_true.mp vm_bits_all k (List.mem_range.mpr hk)
  unfold vm_bits at h
  rw [hc] at h
  exact of_decide_eq_true (List.all_eq_true.mp h j (List.mem_range.mpr hj))
theorem vm_m1_96 : (vm_m1 990 0).toNat = 96 := by
  have h := vm_e2_ok
  simp only [Bool.and_eq_true, decide_eq_true_eq] at h
  rw [h.1.2]; rfl
theorem vm_mF_117 : (vm_mF 990 0).toNat = 117 := by
  have h := vm_e2_ok
  simp only [Bool.and_eq_true, decide_eq_true_eq] at h
  rw [h.2]; rfl
theorem vm_mS_lo {mF : vm_M} {L : Nat} {xs : Nat → Int32} {k : Nat} (h : k < 900) : vm_mS mF L xs k = mF k := by
  funext i
  unfold vm_mS
  rw [if_neg (by omega), if_neg (by omega), if_neg (by omega)]
theorem vm_arrV_cg {cI : ClassId} {N : Nat} {f g : Nat → Value} (h : ∀ j, j < N → f j = g j) : arrV cI N f = arrV cI N g := by
  unfold arrV
  congr 1
  congr 1
  funext j
  exact h j.1 j.2
theorem vm_ws_len {ad : Nat → Nat} {CA : Nat → ClassId} {ph : Bool} {m : vm_M} {n k : Nat} {q : Nat × va_E} (h : (vm_ws ad CA ph m n)[k]? = some q) : k < n := by
  have := (List.getElem?_eq_some_iff.mp h).1
  simpa [vm_ws] using this
/-- nothing tells the making's world from the other one, once all is laid -/
theorem vm_ws_turn {dC : Nat → ClassId} {dI : Nat → Nat → Nat} {ad : Nat → Nat} {CA : Nat → ClassId} {A : Nat → Prop} {H : Heap} {mF : vm_M} {L : Nat} {xs : Nat → Int32} (hbf : ∀ k f : Nat, k < 117 → vm_cl k < 100 → f < vm_nf (vm_cl k) → vm_fk (vm_cl k) f = 2 → mF k (f : Int) = 1) (hba : ∀ k j : Nat, k < 117 → vm_cl k = 104 → j < vm_ln k → mF k (j : Int) = 1) (hP : va_P (dC, dI) vm_cls (vm_ws ad CA true mF 117) H) (hD : va_D A (vm_ws ad CA true mF 117)) : va_P (dC, dI) vm_cls (vm_ws ad CA false (vm_mS mF L xs) 117) H ∧ va_D A (vm_ws ad CA false (vm_mS mF L xs) 117) := by
  refine ⟨fun k q hq => ?_, fun i j p q hp hq hpq => ?_, fun k q hq => ?_⟩
  · have hk := vm_ws_len hq
    have h1 := hP k _ (vm_ws_at hk)
    rw [vm_ws_at hk] at hq
    cases hq
    rw [vm_mS_lo (by omega)]
    by_cases hc : vm_cl k < 100
    · rcases Nat.lt_or_ge (vm_cl k) 12 with hc2 | hc2
      · rw [vm_ce_o rfl hc2] at h1 ⊢
        obtain ⟨r, h2, h3⟩ := h1
        refine ⟨r, h2, h3.to (fun j hj => ?_)⟩
        rw [vm_cls_at hc2] at h2
        cases h2
        have hj : j < vm_nf (vm_cl k) := hj
        unfold vp_V
        simp only [List.getD_eq_getElem?_getD]
        rw [vm_fs_at hj, vm_fs_at hj]
        show vm_fv ad true (vm_cl k) k (mF k) j = vm_fv ad false (vm_cl k) k (mF k) j
        by_cases h2 : vm_fk (vm_cl k) j = 2
        · rw [vm_fv_r h2 (fun _ => hbf _ _ hk hc hj h2), vm_fv_r h2 (fun h => by cases h)]
        · unfold vm_fv
          split
          · rfl
          · rename_i h4; exact absurd h4 h2
          · rfl
      · exact absurd (show vm_cl k < 12 ∨ 100 ≤ vm_cl k by
          have h5 : (List.range 117).all (fun k => Nat.blt (vm_cl k) 12 || Nat.ble 100 (vm_cl k)) = true := by decide +kernel
          have h6 := List.all_eq_true.mp h5 k (List.mem_range.mpr hk)
          simp only [Bool.or_eq_true] at h6
          exact h6.imp vm_blt Nat.le_of_ble_eq_true) (by omega)
    · by_cases h4 : vm_cl k = 104
      · rw [vm_ce_q h4] at h1 ⊢
        have h1 : H[ad k]? = some (vp_cell (CA 104) _) := h1
        show H[ad k]? = some (vp_cell (CA 104) _)
        rw [h1, vp_cell_q, vp_cell_q]
        congr 1
        refine vm_arrV_cg (fun j hj => ?_)
        rw [if_neg (fun q => q.2 (hba _ _ hk h4 hj)), if_neg (fun q => absurd q.1 (by decide))]
      · have h5 : vm_ce ad CA false k (mF k) = vm_ce ad CA true k (mF k) := by
          unfold vm_ce
          have h6 : Nat.blt (vm_cl k) 100 = false := Bool.eq_false_iff.mpr (fun q => hc (vm_blt q))
          have h7 : Nat.beq (vm_cl k) 104 = false := Bool.eq_false_iff.mpr (fun q => h4 (vm_beq q))
          rw [h6, h7]; rfl
        rw [h5]
        exact h1
  · have hi := vm_ws_len hp
    have hj := vm_ws_len hq
    rw [vm_ws_at hi] at hp
    rw [vm_ws_at hj] at hq
    cases hp
    cases hq
    exact hD.1 i j _ _ (vm_ws_at hi) (vm_ws_at hj) hpq
  · have hk := vm_ws_len hq
    rw [vm_ws_at hk] at hq
    cases hq
    exact hD.2 k (ad k, vm_ce ad CA true k (mF k)) (vm_ws_at hk)
theorem vm_mZ_om : vm_om vm_mZ := by
  intro k i
  have h4 : ∀ k, k = 900 ∨ k = 901 → vm_32 ((vm_lst k).getD i.toNat 0) := by
    intro k hk
    have h5 : ∀ j, vm_32 ((vm_lst k).getD j 0) := by
      intro j
      rcases Nat.lt_or_ge j 6 with hj | hj
      · have h6 : ∀ j, j < 6 → (vm_32 ((vm_lst 900).getD j 0) ∧ vm_32 ((vm_lst 901).getD j 0)) := by decide +kernel
        rcases hk with rfl | rfl
        · exact (h6 j hj).1
        · exact (h6 j hj).2
      · have h7 : (vm_lst k).getD j 0 = 0 := by
          rw [List.getD_eq_getElem?_getD, List.getElem?_eq_none (by rcases hk with rfl | rfl <;> exact hj)]; rfl
        rw [h7]; exact vm_z32
    exact h5 _
  unfold vm_mZ
  by_cases h9 : k = 900
  · subst h9; exact h4 900 (Or.inl rfl)
  by_cases h10 : k = 901
  · subst h10; exact h4 901 (Or.inr rfl)
  by_cases h11 : k = 903
  · subst h11; show vm_32 (-1); decide
  · rw [if_neg h9, if_neg h10, if_neg h11]
    split
    · exact ⟨by decide, by decide⟩
    · exact ⟨by decide, by decide⟩
theorem vm_mS_om {mF : vm_M} {L : Nat} {xs : Nat → Int32} (hL : L ≤ 3072) (h : vm_om mF) : vm_om (vm_mS mF L xs) := by
  intro k i
  have h1 := h k i
  have hz : vm_om vm_mZ := vm_mZ_om
  have h2 := hz k i
  unfold vm_mS
  by_cases h9 : k = 902
  · subst h9; exact vm_32t _
  by_cases h10 : k = 903
  · subst h10
    have h3 : vm_lg 903 i = false := rfl
    rw [h3, if_neg h9, if_pos rfl]
    exact ⟨by omega, by omega⟩
  · rw [if_neg h9, if_neg h10]
    by_cases h11 : 900 ≤ k ∧ k < 990
    · rw [if_pos h11]; exact h2
    · rw [if_neg h11]; exact h1
theorem vm_re_1 {i : vm_I} {st : List vm_V} {ins : Instr} {pc len own f : Nat} (hr1 : vm_re i st = some (some (vm_i 1), true)) (htr : vm_tr own f pc ins len i = true) : st = [vm_i 1] ∧ ins = .ireturn ∧ len = 1 := by
  obtain ⟨kd, a, b1, t⟩ := i
  unfold vm_re at hr1
  unfold vm_tr at htr
  cases kd with
  | ireturn =>
    dsimp only at hr1 htr
    simp only [Bool.and_eq_true, decide_eq_true_eq] at htr
    split at hr1
    · split at hr1
      · cases hr1; exact ⟨rfl, htr.1.1.1, vm_beq htr.1.1.2⟩
      · simp only [Option.some.injEq, Prod.mk.injEq, vm_i, Sum.inl.injEq] at hr1
        exact ⟨by rw [hr1.1], htr.1.1.1, vm_beq htr.1.1.2⟩
      · cases hr1
    all_goals first | (cases hr1; done) | contradiction
  | lreturn => dsimp only at hr1; split at hr1 <;> first | (cases hr1; done) | contradiction
  | freturn => dsimp only at hr1; split at hr1 <;> first | (cases hr1; done) | contradiction
  | dreturn => dsimp only at hr1; split at hr1 <;> first | (cases hr1; done) | contradiction
  | return_ => dsimp only at hr1; split at hr1 <;> first | (cases hr1; done) | contradiction
  | _ => cases hr1
set_option maxHeartbeats 4000000 in
theorem vm_law_start0 {m1 mF : vm_M} (e1 : vm_wp true 3000 12 100 (vm_mc 100) (vm_ms 100) 0 (vm_en 100 [vm_r 0]) [] (vm_nm vm_mZ) (fun r m' => r = none ∧ m' = m1)) (h1 : (m1 990 0).toNat = 96) (e2 : vm_wp true 3000 12 163 (vm_mc 163) (vm_ms 163) 0 (vm_en 163 [vm_r 96]) [] (vm_nm m1) (fun r m' => r = none ∧ m' = mF)) (h2 : (mF 990 0).toNat = 117) (hbf : ∀ k f : Nat, k < 117 → vm_cl k < 100 → f < vm_nf (vm_cl k) → vm_fk (vm_cl k) f = 2 → mF k (f : Int) = 1) (hba : ∀ k j : Nat, k < 117 → vm_cl k = 104 → j < vm_ln k → mF k (j : Int) = 1) {p : Program} {e : Env} {s : State} {m : MethodId} {below : List Frame} {meth : Method} {c : Code} (l : Launch) {b L : Nat} {xs : Nat → Int32} (hL : L ≤ 3072) (C0 : lw_At p s m meth c b L xs) (hrun : vm_G 301 16 vm_lsS [] (vm_mS mF L xs) (fun r _ => r = some (vm_i 1))) : W p l e room_1 s m #[Value.ref b] below meth c s.heap [] 0 0 (lw_Z below #[Value.ref b] s) (entryFrame m ([Value.ref b] : List Value).toArray 8) := by
  obtain ⟨hx, hb, hr, hml, hown, hts, hX, hbl, hlk, hgv⟩ := C0
  obtain ⟨dC, dI, CA, ad, hK, hE, had, had2⟩ := vm_enter hts hgv vm_mZ (fun k hk j hj => by rcases hk with rfl | rfl <;> (show (vm_lst _).getD (j : Int).toNat 0 = _; rw [Int.toNat_natCast]))
  have htw : ∀ w ∈ vm_W, w.before #[Value.ref b] s = true := fun w hw => hts w (List.mem_filter.mp hw).1
  have hb2 : c.code = vm_cb 301 := hb.trans vm_code_law
  have C1 : vm_Cx p room_1 s m #[Value.ref b] meth c dC dI ad CA (fun q => s.heap.size ≤ q) 301 13 vm_mZ true 0 :=
    ⟨hx, hb2, hml, hown, htw, hK, fun q hq => hq, hE, by decide, fun h => absurd h (by decide), by decide, by decide, by decide, fun _ h => absurd rfl h, hr, hlk, fun _ k hk => by rw [had k hk]; omega⟩
  have hE2 : vm_Ext ad (fun q => s.heap.size ≤ q) (vm_mS mF L xs) s s.heap := hE
  have C2 : vm_Cx p room_1 s m #[Value.ref b] meth c dC dI ad CA (fun q => s.heap.size ≤ q) 301 13 (vm_mS mF L xs) false 0 :=
    ⟨hx, hb2, hml, hown, htw, hK, fun q hq => hq, hE2, by decide, fun h => absurd h (by decide), by decide, by decide, by decide, fun _ _ => ⟨L, by
      rw [had2]
      obtain ⟨scr, g1, g2, g3, g4, g5⟩ := hX
      refine ⟨scr, g1, g2, g3, g4, fun j hj => ?_⟩
      rw [g5 j hj]
      show some (Value.int (xs j)) = some (Value.int (Int32.ofInt (xs (j : Int).toNat).toInt))
      rw [Int.toNat_natCast, Int32.ofInt_toInt], by rw [had2]; exact hbl, by rw [had2]; exact Nat.not_le.mpr hbl, rfl, by omega⟩, hr, hlk, fun h => by cases h⟩
  have hIH : ∀ (m0 : vm_M) d, vm_OK l dC dI ad CA (fun q => s.heap.size ≤ q) m0 d := fun m0 d => vm_all l dC dI ad CA _ m0 d
  obtain ⟨n, hw⟩ := hrun
  have hret : ∀ {pc len : Nat} {i : vm_I} {ls : vm_L} {st : List vm_V} {mem : vm_M} {cells slots : Nat} {v : Option vm_V}, vm_at 301 pc = some (i, len) → vm_re i st = some (v, true) → v = some (vm_i 1) → (false = true → cells = 0) → cells ≤ room_1.cells → slots ≤ room_1.slots → vm_Wx p l e room_1 s m #[Value.ref b] below meth c cells slots (lw_Z below #[Value.ref b] s) dC dI ad CA (fun q => s.heap.size ≤ q) false 301 (vm_mS mF L xs) 0 pc ls st mem := by
    intro pc len i ls st mem cells slots v hi hr1 hv _ h1 h2 H locs lsa hat hol hos hom hox hl
    subst hv
    obtain ⟨ins, hd, htr⟩ := vm_dec (by decide : 301 < 302) hi
    have hst := vm_re_1 (len := len) (pc := pc) hr1 htr
    obtain ⟨rfl, rfl, rfl⟩ := hst
    refine W.widen (k := 600000) (n := 7302250) h1 h2 ?_
    refine va_forget hat.2.2.1.2.2 ?_
    refine W.base ?_
    exact lw_ret (Drawn.sameBut.refl s.drawn lw_cs) hx hb hr hlk (by rw [vm_code_law]; exact hd)
  have hrest : vm_Wx p l e room_1 s m #[Value.ref b] below meth c (0 + 1 + vm_mc 100 + 1 + vm_mc 163) (0 + vm_nf 10 + vm_ms 100 + vm_nf 11 + vm_ms 163) (lw_Z below #[Value.ref b] s) dC dI ad CA (fun q => s.heap.size ≤ q) true 301 vm_mZ 0 16 vm_lsS [] mF := by
    intro H locs lsa hat hol hos hom hox hl
    obtain ⟨hP, hD, hS, hc⟩ := hat
    have hF : vm_n true mF = 117 := h2
    rw [hF] at hP hD
    obtain ⟨hP2, hD2⟩ := vm_ws_turn (L := L) (xs := xs) hbf hba hP hD
    exact vm_body (Q := lw_Z below #[Value.ref b] s) C2 (fun _ => by show ((L : Int)) ≠ -1; omega) (fun d' _ => hIH _ d') (Qv := fun r _ => r = some (vm_i 1)) (K0 := 0) hret n hw rfl (by decide) (by decide) (fun h => by cases h) H locs lsa ⟨hP2, hD2, hS, fun h => by cases h⟩ hol hos (vm_mS_om hL hom) (fun k _ _ => rfl) hl
  have h0 : (vm_mZ 990 0).toNat = 0 := by decide
  have l1 : vm_s1 [some (vm_r 902), none, none, none, none, none, none, none] 1 (vm_r 0) = some [some (vm_r 902), some (vm_r 0), none, none, none, none, none, none] := rfl
  have l2 : vm_s1 [some (vm_r 902), some (vm_r 0), none, none, none, none, none, none] 2 (vm_r 96) = some vm_lsS := rfl
  have hM1 : vm_Mt l dC dI ad CA (fun q => s.heap.size ≤ q) true vm_mZ 100 12 [vm_r 0] (vm_nm vm_mZ) none m1 :=
    hIH vm_mZ 12 true 100 (by decide) (by decide) 3000 [vm_r 0] (vm_nm vm_mZ) none m1 (by decide) (by decide) (by decide) (fun _ => Or.inr trivial) (fun v hv => by rw [List.mem_singleton.mp hv]; exact trivial) (vm_nm_om (by decide) vm_mZ_om) (vm_nm_ox (by decide) (fun _ _ _ => rfl)) e1
  have s5 : vm_Wx p l e room_1 s m #[Value.ref b] below meth c (0 + 1 + vm_mc 100) (0 + vm_nf 10 + vm_ms 100) (lw_Z below #[Value.ref b] s) dC dI ad CA (fun q => s.heap.size ≤ q) true 301 vm_mZ 0 8 [some (vm_r 902), some (vm_r 0), none, none, none, none, none, none] [] m1 := by
    intro H locs lsa hat hol hos hom hox hl
    have hM2 : vm_Mt l dC dI ad CA (fun q => s.heap.size ≤ q) true vm_mZ 163 12 [vm_r 96] (vm_nm m1) none mF :=
      hIH vm_mZ 12 true 163 (by decide) (by decide) 3000 [vm_r 96] (vm_nm m1) none mF (by decide) (by decide) (by decide) (fun _ => Or.inr trivial) (fun v hv => by rw [List.mem_singleton.mp hv]; exact trivial) (vm_nm_om (by omega) hom) (vm_nm_ox (by omega) hox) e2
    have s8 := vm_s_astore_n C1 (pc := 15) (j := 2) rfl l2 (by decide) (by decide +kernel : decode (vm_cb 301) 15 = .ok (.astore_n 2, 1)) hrest
    have s7 := vm_s_callI (d := 12) C1 (pc := 12) (k := 96) (as := []) (rest := [vm_r 96]) (by decide) (by decide) (by decide) (by decide) (by decide) (by decide) (by decide) hM2 (Or.inl (by decide)) (by decide +kernel : decode (vm_cb 301) 12 = .ok (.invokespecial 12, 3)) s8
    have s6 := vm_s_dup C1 (pc := 11) (v := vm_r 96) (r := []) rfl (by decide +kernel : decode (vm_cb 301) 11 = .ok (.dup, 1)) s7
    have s5 := vm_s_new (cells := 0 + 1 + vm_mc 100) (slots := 0 + vm_nf 10 + vm_ms 100) C1 (pc := 8) (a := 11) (mem := m1) (st := []) (by rw [h1]; decide) (by decide) (by decide) (by decide) (by decide +kernel : decode (vm_cb 301) 8 = .ok (.new 10, 3)) (by rw [h1]; exact s6)
    exact s5 H locs lsa hat hol hos hom hox hl
  have s4 := vm_s_astore_n C1 (pc := 7) (j := 1) rfl l1 (by decide) (by decide +kernel : decode (vm_cb 301) 7 = .ok (.astore_n 1, 1)) s5
  have s3 := vm_s_callI (d := 12) C1 (pc := 4) (k := 0) (as := []) (rest := [vm_r 0]) (by decide) (by decide) (by decide) (by decide) (by decide) (by decide) (by decide) hM1 (Or.inl (by decide)) (by decide +kernel : decode (vm_cb 301) 4 = .ok (.invokespecial 9, 3)) s4
  have s2 := vm_s_dup C1 (pc := 3) (v := vm_r 0) (r := []) rfl (by decide +kernel : decode (vm_cb 301) 3 = .ok (.dup, 1)) s3
  have s1 := vm_s_new (cells := 0) (slots := 0) C1 (pc := 0) (a := 10) (mem := vm_mZ) (st := []) (by decide) (by decide) (by decide) (by decide) (by decide +kernel : decode (vm_cb 301) 0 = .ok (.new 7, 3)) s2
  have hent := vm_lv_en (ad := ad) (g := 301) (av := [vm_r 902]) (by decide)
  have hav : ([vm_r 902] : List vm_V).map (vm_v ad) = [Value.ref b] := by show [Value.ref (ad 902)] = _; rw [had2]
  have hen : vm_en 301 [vm_r 902] = [some (vm_r 902), none, none, none, none, none, none, none] := by rfl
  have hol0 : vm_ol (vm_en 301 [vm_r 902]) := vm_ol_en (fun v hv => by rw [List.mem_singleton.mp hv]; exact (trivial : vm_ov (vm_r 902)))
  rw [hen] at hol0
  rw [hav, hen] at hent
  have hz0 : vm_n true vm_mZ = 0 := by decide
  rw [lg_entry_eq]
  refine s1 s.heap [] _ ⟨fun k q hq => ?_, ⟨fun i j p q hp _ _ => ?_, fun k q hq => ?_⟩, va_S.rf, fun _ => ⟨by decide, by decide, by decide⟩⟩ hol0 (fun v hv => by cases hv) vm_mZ_om (fun _ _ _ => rfl) hent
  · have := vm_ws_len hq; omega
  · have := vm_ws_len hp; omega
  · have := vm_ws_len hq; omega
theorem vm_law_start {p : Program} {e : Env} {s : State} {m : MethodId} {below : List Frame} {meth : Method} {c : Code} (l : Launch) {b L : Nat} {xs : Nat → Int32} (hL : L ≤ 3072) (C0 : lw_At p s m meth c b L xs) (hrun : vm_G 301 16 vm_lsS [] (vm_mS vm_mF L xs) (fun r _ => r = some (vm_i 1))) : W p l e room_1 s m #[Value.ref b] below meth c s.heap [] 0 0 (lw_Z below #[Value.ref b] s) (entryFrame m ([Value.ref b] : List Value).toArray 8) :=
  vm_law_start0 vm_e1_wp vm_m1_96 vm_e2_wp vm_mF_117 (fun _ _ => vm_bits_f) (fun _ _ => vm_bits_a) l hL C0 hrun
