/-! ===== the law's steps on texts, rows of ints, the script ===== -/
theorem lChr {z : Int} (h : 0 ≤ z ∧ z < 128) : vm_chr (Int32.ofInt z) = Int32.ofInt z := by
  have h1 : ∀ n : Nat, n < 128 → vm_chr (Int32.ofInt (n : Int)) = Int32.ofInt (n : Int) := by decide +kernel
  have := h1 z.toNat (by omega)
  rwa [show ((z.toNat : Nat) : Int) = z by omega] at this
section LM3
variable {K : lwK} {S : lwS} {Qp : Option vm_V → lwS → Prop}
set_option maxHeartbeats 4000000 in
theorem lg_newB {pc idx : Nat} {ls : vm_L} {r : List vm_V} (hw : Cond.classLink "BoardLettersLaw" idx "java/lang/StringBuilder" ∈ vm_W) (hd : decode K.2.1 pc = .ok (.new idx, 3)) (hb : 1 ≤ S.2.1 ∧ 4 ≤ S.2.2) (kk : ∀ a, 100 ≤ a → S.1 a = none → lG K (pc + 3) ls (vm_r a :: r) (lup S.1 a (lbB [] 0), S.2.1 - 1, S.2.2 - 4) Qp) : lG K pc ls r S Qp := by
  intro p l9 e R s m args below meth cc dC dI CA AD base mcB msB Z C hZ
  have K9 := fun S9 ls9 st9 (kk : lG K (pc + 3) ls9 st9 S9 Qp) => kk p l9 e R s m args below meth cc dC dI CA AD base mcB msB Z C hZ
  intro H locs lsa cells slots hat hol hos hlv
  obtain ⟨hW, hS, hk1, hk2⟩ := hat
  obtain ⟨hx, hbc, hml, hown, hts, hK, hbs, hE, hX, hfr, hlo, hmc, hms, -, -, -⟩ := C
  have hbH : base ≤ H.size := Nat.le_trans hbs hS.1
  have hKn := hK.1 12 _ jcl12
  refine W.newcK hx hbc hown (hts _ hw) (hts (Cond.instantiable "java/lang/StringBuilder" 4) (vm_hw_in (i := 781) (by decide +kernel))) (hts (Cond.initialized "java/lang/StringBuilder") (vm_hw_in (i := 50) (by decide +kernel))) rfl hd (show cells + 1 ≤ R.cells by omega) (show slots + 4 ≤ R.slots by omega) hKn.2.1 rfl (fun H1 kC hkC e1 z1 o1 => ?_)
  have hP : va_P (dC, dI) vm_cls [(H.size, .inr (12, [.null, .int 0, .int 0, .int 0]))] H1 := by
    intro k q hq
    rcases k with _ | k
    · cases hq
      exact ⟨_, jcl12, (u_born jSBty hts jSBin hKn hkC e1 jSBok).to (fun j hj => jSBdf hj)⟩
    · cases hq
  have hn : lH dC dI CA AD H1 H.size H.size (lbB [] 0) := by
    unfold lH
    dsimp only
    rw [if_pos rfl]
    exact ⟨rfl, rfl, hP⟩
  obtain ⟨g1, g2⟩ := lW_add hW (by rw [z1]; omega) o1 hn (fun q hq => by rcases hq with hq | hq <;> (rw [hq]; exact Nat.le_refl _)) hbH
  have k9 := K9 _ _ _ (kk (H.size + 100) (by omega) g1) H1 locs lsa (cells + 1) (slots + 4) ⟨g2, ⟨Nat.le_trans hS.1 (by omega), fun x h1 h2 => (o1 x (Nat.lt_of_lt_of_le h1 hS.1)).trans (hS.2.1 x h1 h2), hS.2.2⟩, by show cells + 1 + (S.2.1 - 1) ≤ mcB; omega, by show slots + 4 + (S.2.2 - 4) ≤ msB; omega⟩ hol (hos.c (v := vm_r (H.size + 100)) trivial) hlv
  have eb : lvd AD (H.size + 100) = H.size := if_neg (by omega)
  have e2 : (vm_r (H.size + 100) :: r).map (vm_v (lvd AD)) = .ref H.size :: r.map (vm_v (lvd AD)) := by show Value.ref (lvd AD (H.size + 100)) :: _ = _; rw [eb]
  rw [e2] at k9
  exact k9
set_option maxHeartbeats 4000000 in
theorem lg_initB {pc idx b0 : Nat} {ls : vm_L} {r : List vm_V} (hw : Cond.methodLink "BoardLettersLaw" idx ⟨"java/lang/StringBuilder", "<init>", "()V"⟩ ∈ vm_W) (hd : decode K.2.1 pc = .ok (.invokespecial idx, 3)) (hc8 : vm_cats r ≤ 8) (hm : S.1 b0 = some (lbB [] 0)) (hb : 1 ≤ S.2.1 ∧ 16 ≤ S.2.2) (kk : lG K (pc + 3) ls r (lup S.1 b0 (lbB [] (16)), S.2.1 - 1, S.2.2 - (16)) Qp) : lG K pc ls (vm_r b0 :: r) S Qp := by
  intro p l9 e R s m args below meth cc dC dI CA AD base mcB msB Z C hZ
  have K9 := fun S9 ls9 st9 (kk : lG K (pc + 3) ls9 st9 S9 Qp) => kk p l9 e R s m args below meth cc dC dI CA AD base mcB msB Z C hZ
  intro H locs lsa cells slots hat hol hos hlv
  obtain ⟨hW, hS, hk1, hk2⟩ := hat
  obtain ⟨hx, hbc, hml, hown, hts, hK, hbs, hE, hX, hfr, hlo, hmc, hms, -, -, -⟩ := C
  have hbH : base ≤ H.size := Nat.le_trans hbs hS.1
  obtain ⟨g1, b, gB, gq, gx, gc⟩ := lW_use hW hm
  unfold lH at gB
  dsimp only at gB
  rw [if_pos rfl] at gB
  obtain ⟨-, hab, hP⟩ := gB
  have hAA : ∀ q, (lfp (b0 - 100) b (lbB [] 0) q ∨ H.size ≤ q) → base ≤ q := fun q h => h.elim (gq q) (fun h => Nat.le_trans hbH h)
  have hD : va_D (fun q => lfp (b0 - 100) b (lbB [] 0) q ∨ H.size ≤ q) [(b0 - 100, .inr (12, [.null, .int 0, .int 0, .int 0]))] := va_D1 (Or.inl (Or.inl rfl))
  have eb : lvd AD b0 = b0 - 100 := if_neg (by omega)
  refine j_callF (A := fun q => base ≤ q) (A' := fun q => lfp (b0 - 100) b (lbB [] 0) q ∨ H.size ≤ q) (va_runI (b := b0 - 100) (As := []) (rest := r.map (vm_v (lvd AD))) ⟨hx, hbc, hml, hown, hts⟩ (jm_sbInit l9 dC dI CA _ [] (b0 - 100)) (cwI 0 hts (vm_gi (vm_ws_in jk21)) rfl rfl rfl (hts _ (vm_hw_in (i := 50) (by decide +kernel))) (hts _ hw) (hts _ (vm_hw_in (i := 965) (by decide +kernel))) rfl (by decide +kernel) ⟨by show 2 + 1 ≤ R.frames; omega, by show 8 + (1 + 11) + 80 ≤ R.locals; omega⟩) ⟨jB.blind, fun U hU hW => ⟨rfl, jB.of2 hK hX hAA (fun _ h => by cases h) (fun q h => Or.inr h) hP hD hS hU hW⟩⟩ rfl rfl hlv.1 (by show Value.ref (lvd AD b0) :: r.map (vm_v (lvd AD)) = _; rw [eb]; rfl) (lv_room (by rw [vm_v_cats]; exact hc8)) hd ⟨by show cells + 1 ≤ R.cells; omega, by show slots + 16 ≤ R.slots; omega⟩) hS hAA (fun v ws H1 locs1 hR hP1 hD1 hsz hkp hS1 => ?_)
  obtain ⟨b1, rfl, rfl⟩ := hR
  have hn : lH dC dI CA AD H1 (b0 - 100) b1 (lbB [] 16) := lH_mk (by decide) ⟨fun z => absurd (hD1.1 0 1 _ _ rfl rfl z) (by decide), Nat.zero_le _, by decide, fun z hz => absurd hz List.not_mem_nil, fun _ => 0, hP1, sb_fit0, fun j hj => absurd hj (Nat.not_lt_zero _)⟩
  exact K9 _ _ _ kk H1 locs1 lsa (cells + 1) (slots + (16)) ⟨gc H1 b1 _ hsz (fun q h1 h2 => hkp q h1 (fun h => h.elim h2 (fun h => by omega))) hn (fun q hq => hq.elim (fun h => Or.inl (Or.inl h)) (fun h => by rw [h]; exact hD1.2 1 _ rfl)) hbH, hS1, by show cells + 1 + (S.2.1 - 1) ≤ mcB; omega, by show slots + (16) + (S.2.2 - (16)) ≤ msB; omega⟩ hol hos.t hlv
set_option maxHeartbeats 4000000 in
theorem lg_initS {pc idx b0 : Nat} {ls : vm_L} {r9 : Nat} {w : List Int} {r : List vm_V} (hw : Cond.methodLink "BoardLettersLaw" idx ⟨"java/lang/StringBuilder", "<init>", "(Ljava/lang/String;)V"⟩ ∈ vm_W) (hd : decode K.2.1 pc = .ok (.invokespecial idx, 3)) (hc8 : vm_cats r ≤ 8) (hm : S.1 b0 = some (lbB [] 0)) (hs : lStr S.1 r9 w) (hl : w.length ≤ 32700) (hb : 1 ≤ S.2.1 ∧ (w.length + 16) ≤ S.2.2) (kk : lG K (pc + 3) ls r (lup S.1 b0 (lbB w (w.length + 16)), S.2.1 - 1, S.2.2 - ((w.length + 16))) Qp) : lG K pc ls (vm_r r9 :: vm_r b0 :: r) S Qp := by
  intro p l9 e R s m args below meth cc dC dI CA AD base mcB msB Z C hZ
  have K9 := fun S9 ls9 st9 (kk : lG K (pc + 3) ls9 st9 S9 Qp) => kk p l9 e R s m args below meth cc dC dI CA AD base mcB msB Z C hZ
  intro H locs lsa cells slots hat hol hos hlv
  obtain ⟨hW, hS, hk1, hk2⟩ := hat
  obtain ⟨hx, hbc, hml, hown, hts, hK, hbs, hE, hX, hfr, hlo, hmc, hms, -, -, -⟩ := C
  have hbH : base ≤ H.size := Nat.le_trans hbs hS.1
  obtain ⟨g1, b, gB, gq, gx, gc⟩ := lW_use hW hm
  unfold lH at gB
  dsimp only at gB
  rw [if_pos rfl] at gB
  obtain ⟨-, hab, hP⟩ := gB
  have hAA : ∀ q, (lfp (b0 - 100) b (lbB [] 0) q ∨ H.size ≤ q) → base ≤ q := fun q h => h.elim (gq q) (fun h => Nat.le_trans hbH h)
  have hD : va_D (fun q => lfp (b0 - 100) b (lbB [] 0) q ∨ H.size ≤ q) [(b0 - 100, .inr (12, [.null, .int 0, .int 0, .int 0]))] := va_D1 (Or.inl (Or.inl rfl))
  have eb : lvd AD b0 = b0 - 100 := if_neg (by omega)
  obtain ⟨tx, fx, hsx, hfx, hbx, hw6, hwt⟩ := lStr_use (A := fun q => lfp (b0 - 100) b (lbB [] 0) q ∨ H.size ≤ q) hts hK hE hS hAA hs (fun h => by
    obtain ⟨o1, b2, o2, o3, o4⟩ := gx r9 _ h (fun z => by subst z; rw [h] at hm; cases hm)
    exact ⟨o1, b2, o2, fun q hq => fun z => z.elim (o4 q hq) (fun z => by have := lH_lt o2 hq; omega)⟩)
  refine j_callF (A := fun q => base ≤ q) (A' := fun q => lfp (b0 - 100) b (lbB [] 0) q ∨ H.size ≤ q) (va_runI (b := b0 - 100) (As := [.ref (lvd AD r9)]) (rest := r.map (vm_v (lvd AD))) ⟨hx, hbc, hml, hown, hts⟩ (jm_sbInitS l9 dC dI CA _ [(lvd AD r9, tx, w.length, fx)] (lvd AD r9, tx, w.length, fx) (b0 - 100) List.mem_cons_self hfx hl) (cwI 1 hts (vm_gi (vm_ws_in jk23)) rfl rfl rfl (hts _ (vm_hw_in (i := 50) (by decide +kernel))) (hts _ hw) (hts _ (vm_hw_in (i := 784) (by decide +kernel))) rfl (by decide +kernel) ⟨by show 8 + 1 ≤ R.frames; omega, by show 8 + (2 + 11) + 320 ≤ R.locals; omega⟩) ⟨jB.blind, fun U hU hW => ⟨rfl, jB.of2 hK hX hAA (fun y hy => by rw [List.mem_singleton.mp hy]; exact hsx) (fun q h => Or.inr h) hP hD hS hU hW⟩⟩ rfl rfl hlv.1 (by show Value.ref (lvd AD r9) :: Value.ref (lvd AD b0) :: r.map (vm_v (lvd AD)) = _; rw [eb]; rfl) (lv_room (by rw [vm_v_cats]; exact hc8)) hd ⟨by show cells + 1 ≤ R.cells; omega, by show slots + (w.length + 16) ≤ R.slots; omega⟩) hS hAA (fun v ws H1 locs1 hR hP1 hD1 hsz hkp hS1 => ?_)
  obtain ⟨b1, f1, rfl, rfl, hf1, q2⟩ := hR
  have hn : lH dC dI CA AD H1 (b0 - 100) b1 (lbB w (w.length + 16)) := lH_mk (by omega) ⟨fun z => absurd (hD1.1 0 1 _ _ rfl rfl z) (by decide), by omega, by omega, hwt, f1, hP1, hf1, fun j hj => (q2 j hj).trans (hbx j hj)⟩
  exact K9 _ _ _ kk H1 locs1 lsa (cells + 1) (slots + ((w.length + 16))) ⟨gc H1 b1 _ hsz (fun q h1 h2 => hkp q h1 (fun h => h.elim h2 (fun h => by omega))) hn (fun q hq => hq.elim (fun h => Or.inl (Or.inl h)) (fun h => by rw [h]; exact hD1.2 1 _ rfl)) hbH, hS1, by show cells + 1 + (S.2.1 - 1) ≤ mcB; omega, by show slots + ((w.length + 16)) + (S.2.2 - ((w.length + 16))) ≤ msB; omega⟩ hol hos.t.t hlv
set_option maxHeartbeats 4000000 in
theorem lg_toS {pc idx b0 : Nat} {ls : vm_L} {l : List Int} {c : Nat} {r : List vm_V} (hw : Cond.methodLink "BoardLettersLaw" idx ⟨"java/lang/StringBuilder", "toString", "()Ljava/lang/String;"⟩ ∈ vm_W) (hd : decode K.2.1 pc = .ok (.invokevirtual idx, 3)) (hc8 : vm_cats r ≤ 8) (hm : S.1 b0 = some (lbB l c)) (h0 : 0 < c) (hb : 2 ≤ S.2.1 ∧ 4 + l.length ≤ S.2.2) (kk : ∀ a, 100 ≤ a → S.1 a = none → lG K (pc + 3) ls (vm_r a :: r) (lup S.1 a (lbS l), S.2.1 - 2, S.2.2 - (4 + l.length)) Qp) : lG K pc ls (vm_r b0 :: r) S Qp := by
  intro p l9 e R s m args below meth cc dC dI CA AD base mcB msB Z C hZ
  have K9 := fun S9 ls9 st9 (kk : lG K (pc + 3) ls9 st9 S9 Qp) => kk p l9 e R s m args below meth cc dC dI CA AD base mcB msB Z C hZ
  intro H locs lsa cells slots hat hol hos hlv
  obtain ⟨hW, hS, hk1, hk2⟩ := hat
  obtain ⟨hx, hbc, hml, hown, hts, hK, hbs, hE, hX, hfr, hlo, hmc, hms, -, -, -⟩ := C
  have hbH : base ≤ H.size := Nat.le_trans hbs hS.1
  obtain ⟨g1, b, gB, gq, gc⟩ := lW_add2 hW hm
  obtain ⟨hab, hlc, hc6, htx, f, hP, hf, hby⟩ := lH_bB gB h0
  have hAA : ∀ q, (lfp (b0 - 100) b (lbB l c) q ∨ H.size ≤ q) → base ≤ q := fun q h => h.elim (gq q) (fun h => Nat.le_trans hbH h)
  have hD : va_D (fun q => lfp (b0 - 100) b (lbB l c) q ∨ H.size ≤ q) (jW CA (b0 - 100) b l.length c f) := va_D2 hab (Or.inl (Or.inl rfl)) (Or.inl (Or.inr rfl))
  have eb : lvd AD b0 = b0 - 100 := if_neg (by omega)
  refine j_callF (A := fun q => base ≤ q) (A' := fun q => lfp (b0 - 100) b (lbB l c) q ∨ H.size ≤ q) (va_runV (b := b0 - 100) (As := []) (rest := r.map (vm_v (lvd AD))) ⟨hx, hbc, hml, hown, hts⟩ (jm_toStr l9 dC dI CA _ [] (b0 - 100) b l.length c f hlc hc6 hf) (cwV 0 hts (vm_gV jk32 hw (vm_hw_in (i := 972) (by decide +kernel)) (vm_hw_in (i := 973) (by decide +kernel)) (vm_hw_in (i := 50) (by decide +kernel))) rfl rfl rfl (by decide +kernel) ⟨by show 5 + 1 ≤ R.frames; omega, by show 8 + (1 + 11) + 200 ≤ R.locals; omega⟩) ⟨jB.blind, va_recv hK hP jcl12 (show ((jW CA (b0 - 100) b l.length c f : va_W))[0]? = _ from rfl), fun U hU hW => ⟨rfl, jB.of2 hK hX hAA (fun _ h => by cases h) (fun q h => Or.inr h) hP hD hS hU hW⟩⟩ rfl rfl hlv.1 (by show Value.ref (lvd AD b0) :: r.map (vm_v (lvd AD)) = _; rw [eb]; rfl) (lv_room (by rw [vm_v_cats]; exact hc8)) hd ⟨by show cells + 2 ≤ R.cells; omega, by show slots + (4 + l.length) ≤ R.slots; omega⟩) hS hAA (fun v ws H1 locs1 hR hP1 hD1 hsz hkp hS1 => ?_)
  obtain ⟨q0, b1, f1, rfl, rfl, hf1, q1⟩ := hR
  have d02 : (b0 - 100) ≠ q0 := fun z => absurd (hD1.1 0 2 _ _ rfl rfl z) (by decide)
  have d03 : (b0 - 100) ≠ b1 := fun z => absurd (hD1.1 0 3 _ _ rfl rfl z) (by decide)
  have d12 : b ≠ q0 := fun z => absurd (hD1.1 1 2 _ _ rfl rfl z) (by decide)
  have d13 : b ≠ b1 := fun z => absurd (hD1.1 1 3 _ _ rfl rfl z) (by decide)
  have d23 : q0 ≠ b1 := fun z => absurd (hD1.1 2 3 _ _ rfl rfl z) (by decide)
  have s2 : H.size ≤ q0 := (hD1.2 2 _ rfl).elim (fun h => h.elim (fun h => absurd h.symm d02) (fun h => absurd h.symm d12)) id
  have s3 : H.size ≤ b1 := (hD1.2 3 _ rfl).elim (fun h => h.elim (fun h => absurd h.symm d03) (fun h => absurd h.symm d13)) id
  have hn1 : lH dC dI CA AD H1 (b0 - 100) b (lbB l c) := lH_mk h0 ⟨hab, hlc, hc6, htx, f, hP1.sub [0, 1] rfl, hf, hby⟩
  have hn2 : lH dC dI CA AD H1 q0 b1 (lbS l) := ⟨d23, by omega, htx, f1, hP1.sub [2, 3] rfl, hf1, fun j hj => (q1 j hj).trans (hby j hj)⟩
  obtain ⟨n1, n2⟩ := gc H1 q0 b1 (lbS l) hsz (fun q h1 h2 => hkp q h1 (fun h => h.elim h2 (fun h => by omega))) hn1 hn2 (fun q hq => hq.elim (fun h => by rw [h]; exact s2) (fun h => by rw [h]; exact s3)) hbH
  have k9 := K9 _ _ _ (kk (q0 + 100) (by omega) n1) H1 locs1 lsa (cells + 2) (slots + (4 + l.length)) ⟨n2, hS1, by show cells + 2 + (S.2.1 - 2) ≤ mcB; omega, by show slots + (4 + l.length) + (S.2.2 - (4 + l.length)) ≤ msB; omega⟩ hol (hos.t.c (v := vm_r (q0 + 100)) trivial) hlv
  have eb2 : lvd AD (q0 + 100) = q0 := if_neg (by omega)
  have e2 : (vm_r (q0 + 100) :: r).map (vm_v (lvd AD)) = .ref q0 :: r.map (vm_v (lvd AD)) := by show Value.ref (lvd AD (q0 + 100)) :: _ = _; rw [eb2]
  rw [e2] at k9
  exact k9
set_option maxHeartbeats 4000000 in
theorem lg_sLen {pc idx r9 : Nat} {ls : vm_L} {w : List Int} {r : List vm_V} (hw : Cond.methodLink "BoardLettersLaw" idx ⟨"java/lang/String", "length", "()I"⟩ ∈ vm_W) (hd : decode K.2.1 pc = .ok (.invokevirtual idx, 3)) (hc8 : vm_cats r ≤ 8) (hs : lStr S.1 r9 w) (kk : lG K (pc + 3) ls (vm_i (w.length : Int) :: r) S Qp) : lG K pc ls (vm_r r9 :: r) S Qp := by
  intro p l9 e R s m args below meth cc dC dI CA AD base mcB msB Z C hZ
  have K9 := fun S9 ls9 st9 (kk : lG K (pc + 3) ls9 st9 S9 Qp) => kk p l9 e R s m args below meth cc dC dI CA AD base mcB msB Z C hZ
  intro H locs lsa cells slots hat hol hos hlv
  obtain ⟨hW, hS, hk1, hk2⟩ := hat
  obtain ⟨hx, hbc, hml, hown, hts, hK, hbs, hE, hX, hfr, hlo, hmc, hms, -, -, -⟩ := C
  have hbH : base ≤ H.size := Nat.le_trans hbs hS.1
  have hAA : ∀ q, H.size ≤ q → base ≤ q := fun q h => Nat.le_trans hbH h
  obtain ⟨tx, fx, hsx, hfx, hbx, hw6, hwt⟩ := lStr_use (A := fun q => H.size ≤ q) hts hK hE hS hAA hs (fun h => by
    obtain ⟨o1, b2, o2, o3, -⟩ := lW_use hW h
    exact ⟨o1, b2, o2, fun q hq => fun z => by have := lH_lt o2 hq; omega⟩)
  refine j_callF (A := fun q => base ≤ q) (A' := fun q => H.size ≤ q) (va_runV (b := lvd AD r9) (As := []) (rest := r.map (vm_v (lvd AD))) ⟨hx, hbc, hml, hown, hts⟩ (jm_sLen l9 dC dI CA _ [(lvd AD r9, tx, w.length, fx)] (lvd AD r9, tx, w.length, fx) [] List.mem_cons_self) (cwV 0 hts (vm_gV jk13 hw (vm_hw_in (i := 412) (by decide +kernel)) (vm_hw_in (i := 413) (by decide +kernel)) (vm_hw_in (i := 51) (by decide +kernel))) rfl rfl rfl (by decide +kernel) ⟨by show 1 + 1 ≤ R.frames; omega, by show 8 + (1 + 11) + 40 ≤ R.locals; omega⟩) ⟨jB.blind, jSrecv2 hsx, fun U hU hW => ⟨rfl, jB.of2 hK hX hAA (fun y hy => by rw [List.mem_singleton.mp hy]; exact hsx) (fun q h => h) va_P0 va_D0 hS hU hW⟩⟩ rfl rfl hlv.1 (by show Value.ref (lvd AD r9) :: r.map (vm_v (lvd AD)) = _; rfl) (lv_room (by rw [vm_v_cats]; exact hc8)) hd ⟨by show cells + 0 ≤ R.cells; omega, by show slots + 0 ≤ R.slots; omega⟩) hS hAA (fun v ws H1 locs1 hR hP1 hD1 hsz hkp hS1 => ?_)
  obtain ⟨rfl, -⟩ := hR
  have k9 := K9 _ _ _ kk H1 locs1 lsa cells slots ⟨lW_keep hW (fun q h => hkp q h (fun z => by omega)), hS1, hk1, hk2⟩ hol (hos.t.c (v := vm_i (w.length : Int)) ⟨by omega, by omega⟩) hlv
  rw [show (vm_i (w.length : Int) :: r).map (vm_v (lvd AD)) = .int (nI w.length) :: r.map (vm_v (lvd AD)) from by show Value.int (Int32.ofInt (w.length : Int)) :: _ = _; rw [Int32.ofInt_eq_ofNat]; rfl] at k9
  exact k9
set_option maxHeartbeats 4000000 in
theorem lg_sChr {pc idx r9 : Nat} {ls : vm_L} {w : List Int} {i : Int} {r : List vm_V} (hw : Cond.methodLink "BoardLettersLaw" idx ⟨"java/lang/String", "charAt", "(I)C"⟩ ∈ vm_W) (hd : decode K.2.1 pc = .ok (.invokevirtual idx, 3)) (hc8 : vm_cats r ≤ 8) (hs : lStr S.1 r9 w) (hi : 0 ≤ i ∧ i < (w.length : Int)) (kk : lG K (pc + 3) ls (vm_i (w.getD i.toNat 0) :: r) S Qp) : lG K pc ls (vm_i i :: vm_r r9 :: r) S Qp := by
  intro p l9 e R s m args below meth cc dC dI CA AD base mcB msB Z C hZ
  have K9 := fun S9 ls9 st9 (kk : lG K (pc + 3) ls9 st9 S9 Qp) => kk p l9 e R s m args below meth cc dC dI CA AD base mcB msB Z C hZ
  intro H locs lsa cells slots hat hol hos hlv
  obtain ⟨hW, hS, hk1, hk2⟩ := hat
  obtain ⟨hx, hbc, hml, hown, hts, hK, hbs, hE, hX, hfr, hlo, hmc, hms, -, -, -⟩ := C
  have hbH : base ≤ H.size := Nat.le_trans hbs hS.1
  have hAA : ∀ q, H.size ≤ q → base ≤ q := fun q h => Nat.le_trans hbH h
  obtain ⟨tx, fx, hsx, hfx, hbx, hw6, hwt⟩ := lStr_use (A := fun q => H.size ≤ q) hts hK hE hS hAA hs (fun h => by
    obtain ⟨o1, b2, o2, o3, -⟩ := lW_use hW h
    exact ⟨o1, b2, o2, fun q hq => fun z => by have := lH_lt o2 hq; omega⟩)
  have hz : 0 ≤ w.getD i.toNat 0 ∧ w.getD i.toNat 0 < 128 := by
    rw [List.getD_eq_getElem?_getD, List.getElem?_eq_getElem (by omega)]
    exact hwt _ (List.getElem_mem _)
  have ez : nI i.toNat = Int32.ofInt i := by
    show Int32.ofNat i.toNat = _
    rw [← Int32.ofInt_eq_ofNat, show ((i.toNat : Nat) : Int) = i by omega]
  refine j_callF (A := fun q => base ≤ q) (A' := fun q => H.size ≤ q) (va_runV (b := lvd AD r9) (As := [.int (nI i.toNat)]) (rest := r.map (vm_v (lvd AD))) ⟨hx, hbc, hml, hown, hts⟩ (jm_sChr l9 dC dI CA _ [(lvd AD r9, tx, w.length, fx)] (lvd AD r9, tx, w.length, fx) i.toNat [] List.mem_cons_self (by show i.toNat < w.length; omega) hw6) (cwV 1 hts (vm_gV jk39 hw (vm_hw_in (i := 422) (by decide +kernel)) (vm_hw_in (i := 423) (by decide +kernel)) (vm_hw_in (i := 51) (by decide +kernel))) rfl rfl rfl (by decide +kernel) ⟨by show 3 + 1 ≤ R.frames; omega, by show 8 + (2 + 11) + 120 ≤ R.locals; omega⟩) ⟨jB.blind, jSrecv2 hsx, fun U hU hW => ⟨rfl, jB.of2 hK hX hAA (fun y hy => by rw [List.mem_singleton.mp hy]; exact hsx) (fun q h => h) va_P0 va_D0 hS hU hW⟩⟩ rfl rfl hlv.1 (by show Value.int (Int32.ofInt i) :: Value.ref (lvd AD r9) :: r.map (vm_v (lvd AD)) = _; rw [← ez]; rfl) (lv_room (by rw [vm_v_cats]; exact hc8)) hd ⟨by show cells + 0 ≤ R.cells; omega, by show slots + 0 ≤ R.slots; omega⟩) hS hAA (fun v ws H1 locs1 hR hP1 hD1 hsz hkp hS1 => ?_)
  obtain ⟨rfl, -⟩ := hR
  have k9 := K9 _ _ _ kk H1 locs1 lsa cells slots ⟨lW_keep hW (fun q h => hkp q h (fun z => by omega)), hS1, hk1, hk2⟩ hol (hos.t.t.c (v := vm_i (w.getD i.toNat 0)) ⟨by omega, by omega⟩) hlv
  have e9 : vm_chr (fx i.toNat) = Int32.ofInt (w.getD i.toNat 0) := by
    rw [hbx i.toNat (by omega)]
    exact lChr hz
  show W p l9 e R s m args below meth cc H1 locs1 (cells + 0) (slots + 0) Z (F0 m (pc + 3) lsa (.int (vm_chr (fx i.toNat)) :: r.map (vm_v (lvd AD))))
  rw [e9]
  exact k9
set_option maxHeartbeats 4000000 in
theorem lg_sEq {pc idx r9 : Nat} {ls : vm_L} {w : List Int} {r8 : Nat} {r : List vm_V} (hw : Cond.methodLink "BoardLettersLaw" idx ⟨"java/lang/String", "equals", "(Ljava/lang/Object;)Z"⟩ ∈ vm_W) (hd : decode K.2.1 pc = .ok (.invokevirtual idx, 3)) (hc8 : vm_cats r ≤ 8) (hs : lStr S.1 r9 w) (hs2 : lStr S.1 r8 w) (kk : lG K (pc + 3) ls (vm_i 1 :: r) S Qp) : lG K pc ls (vm_r r8 :: vm_r r9 :: r) S Qp := by
  intro p l9 e R s m args below meth cc dC dI CA AD base mcB msB Z C hZ
  have K9 := fun S9 ls9 st9 (kk : lG K (pc + 3) ls9 st9 S9 Qp) => kk p l9 e R s m args below meth cc dC dI CA AD base mcB msB Z C hZ
  intro H locs lsa cells slots hat hol hos hlv
  obtain ⟨hW, hS, hk1, hk2⟩ := hat
  obtain ⟨hx, hbc, hml, hown, hts, hK, hbs, hE, hX, hfr, hlo, hmc, hms, -, -, -⟩ := C
  have hbH : base ≤ H.size := Nat.le_trans hbs hS.1
  have hAA : ∀ q, H.size ≤ q → base ≤ q := fun q h => Nat.le_trans hbH h
  obtain ⟨tx, fx, hsx, hfx, hbx, hw6, hwt⟩ := lStr_use (A := fun q => H.size ≤ q) hts hK hE hS hAA hs (fun h => by
    obtain ⟨o1, b2, o2, o3, -⟩ := lW_use hW h
    exact ⟨o1, b2, o2, fun q hq => fun z => by have := lH_lt o2 hq; omega⟩)
  obtain ⟨tx2, fx2, hsx2, hfx2, hbx2, hw62, hwt2⟩ := lStr_use (A := fun q => H.size ≤ q) hts hK hE hS hAA hs2 (fun h => by
    obtain ⟨o1, b2, o2, o3, -⟩ := lW_use hW h
    exact ⟨o1, b2, o2, fun q hq => fun z => by have := lH_lt o2 hq; omega⟩)
  refine j_callF (A := fun q => base ≤ q) (A' := fun q => H.size ≤ q) (va_runV (b := lvd AD r9) (As := [.ref (lvd AD r8)]) (rest := r.map (vm_v (lvd AD))) ⟨hx, hbc, hml, hown, hts⟩ (jm_sEq l9 dC dI CA _ [(lvd AD r9, tx, w.length, fx), (lvd AD r8, tx2, w.length, fx2)] (lvd AD r9, tx, w.length, fx) (lvd AD r8, tx2, w.length, fx2) [] List.mem_cons_self (List.mem_cons_of_mem _ List.mem_cons_self) rfl hw6 (fun j hj => (hbx j hj).trans (hbx2 j hj).symm)) (cwV 1 hts (vm_gV jk34 hw (vm_hw_in (i := 1367) (by decide +kernel)) (vm_hw_in (i := 1368) (by decide +kernel)) (vm_hw_in (i := 51) (by decide +kernel))) rfl rfl rfl (by decide +kernel) ⟨by show 1 + 1 ≤ R.frames; omega, by show 8 + (3 + 11) + 40 ≤ R.locals; omega⟩) ⟨jB.blind, jSrecv2 hsx, fun U hU hW => ⟨rfl, jB.of2 hK hX hAA (fun y hy => (List.mem_cons.mp hy).elim (fun hy => by rw [hy]; exact hsx) (fun hy => by rw [List.mem_singleton.mp hy]; exact hsx2)) (fun q h => h) va_P0 va_D0 hS hU hW⟩⟩ rfl rfl hlv.1 (by show Value.ref (lvd AD r8) :: Value.ref (lvd AD r9) :: r.map (vm_v (lvd AD)) = _; rfl) (lv_room (by rw [vm_v_cats]; exact hc8)) hd ⟨by show cells + 0 ≤ R.cells; omega, by show slots + 0 ≤ R.slots; omega⟩) hS hAA (fun v ws H1 locs1 hR hP1 hD1 hsz hkp hS1 => ?_)
  obtain ⟨rfl, -⟩ := hR
  have k9 := K9 _ _ _ kk H1 locs1 lsa cells slots ⟨lW_keep hW (fun q h => hkp q h (fun z => by omega)), hS1, hk1, hk2⟩ hol (hos.t.t.c (v := vm_i 1) ⟨by decide, by decide⟩) hlv
  exact k9
theorem lg_max {pc idx : Nat} {ls : vm_L} {a b : Int} {r : List vm_V} (hc8 : vm_cats r ≤ 8) (hw : Cond.methodLink "BoardLettersLaw" idx Lib.Math.max.name ∈ vm_W) (hd : decode K.2.1 pc = .ok (.invokestatic idx, 3)) (kk : lG K (pc + 3) ls (vm_i (if a < b then b else a) :: r) S Qp) : lG K pc ls (vm_i b :: vm_i a :: r) S Qp := by
  intro p l9 e R s m args below meth cc dC dI CA AD base mcB msB Z C hZ
  have K9 := fun S9 ls9 st9 (kk : lG K (pc + 3) ls9 st9 S9 Qp) => kk p l9 e R s m args below meth cc dC dI CA AD base mcB msB Z C hZ
  intro H locs lsa cells slots hat hol hos hlv
  obtain ⟨hW, hS, hk1, hk2⟩ := hat
  obtain ⟨hx, hbc, hml, hown, hts, hK, hbs, hE, hX, hfr, hlo, hmc, hms, -, -, -⟩ := C
  have hbH : base ≤ H.size := Nat.le_trans hbs hS.1
  have ha : vm_32 a := hos.t.h
  have hb : vm_32 b := hos.h
  have k9 := K9 _ _ _ kk H locs lsa cells slots ⟨hW, hS, hk1, hk2⟩ hol (hos.t.t.c (show vm_32 (if a < b then b else a) by split <;> assumption)) hlv
  refine va_mmax hx hbc (hml.trans hlv.1.symm) hown (hts _ hw) (hts _ (vm_hw_in vm_okXa)) (hts _ (vm_hw_in vm_okX9)) (hts _ vm_kMax) (by omega) (by rw [vm_v_cats]; omega) (by omega) (by omega) hd ?_
  have he : (if Int32.ofInt a < Int32.ofInt b then Int32.ofInt b else Int32.ofInt a) = Int32.ofInt (if a < b then b else a) := by
    by_cases q : a < b
    · rw [if_pos q, if_pos ((vm_ilt ha hb).mpr q)]
    · rw [if_neg q, if_neg (fun z => q ((vm_ilt ha hb).mp z))]
  rw [he]
  exact k9
theorem lg_min {pc idx : Nat} {ls : vm_L} {a b : Int} {r : List vm_V} (hc8 : vm_cats r ≤ 8) (hw : Cond.methodLink "BoardLettersLaw" idx Lib.Math.min.name ∈ vm_W) (hd : decode K.2.1 pc = .ok (.invokestatic idx, 3)) (kk : lG K (pc + 3) ls (vm_i (if b < a then b else a) :: r) S Qp) : lG K pc ls (vm_i b :: vm_i a :: r) S Qp := by
  intro p l9 e R s m args below meth cc dC dI CA AD base mcB msB Z C hZ
  have K9 := fun S9 ls9 st9 (kk : lG K (pc + 3) ls9 st9 S9 Qp) => kk p l9 e R s m args below meth cc dC dI CA AD base mcB msB Z C hZ
  intro H locs lsa cells slots hat hol hos hlv
  obtain ⟨hW, hS, hk1, hk2⟩ := hat
  obtain ⟨hx, hbc, hml, hown, hts, hK, hbs, hE, hX, hfr, hlo, hmc, hms, -, -, -⟩ := C
  have hbH : base ≤ H.size := Nat.le_trans hbs hS.1
  have ha : vm_32 a := hos.t.h
  have hb : vm_32 b := hos.h
  have k9 := K9 _ _ _ kk H locs lsa cells slots ⟨hW, hS, hk1, hk2⟩ hol (hos.t.t.c (show vm_32 (if b < a then b else a) by split <;> assumption)) hlv
  refine va_mmin hx hbc (hml.trans hlv.1.symm) hown (hts _ hw) (hts _ (vm_hw_in vm_okXb)) (hts _ (vm_hw_in vm_okX9)) (hts _ vm_kMin) (by omega) (by rw [vm_v_cats]; omega) (by omega) (by omega) hd ?_
  have he : (if Int32.ofInt b < Int32.ofInt a then Int32.ofInt b else Int32.ofInt a) = Int32.ofInt (if b < a then b else a) := by
    by_cases q : b < a
    · rw [if_pos q, if_pos ((vm_ilt hb ha).mpr q)]
    · rw [if_neg q, if_neg (fun z => q ((vm_ilt hb ha).mp z))]
  rw [he]
  exact k9
theorem lg_abs {pc idx : Nat} {ls : vm_L} {a : Int} {r : List vm_V} (hc8 : vm_cats r ≤ 8) (h0 : vm_32 (0 - a)) (hw : Cond.methodLink "BoardLettersLaw" idx Lib.Math.abs.name ∈ vm_W) (hd : decode K.2.1 pc = .ok (.invokestatic idx, 3)) (kk : lG K (pc + 3) ls (vm_i (if 0 ≤ a then a else 0 - a) :: r) S Qp) : lG K pc ls (vm_i a :: r) S Qp := by
  intro p l9 e R s m args below meth cc dC dI CA AD base mcB msB Z C hZ
  have K9 := fun S9 ls9 st9 (kk : lG K (pc + 3) ls9 st9 S9 Qp) => kk p l9 e R s m args below meth cc dC dI CA AD base mcB msB Z C hZ
  intro H locs lsa cells slots hat hol hos hlv
  obtain ⟨hW, hS, hk1, hk2⟩ := hat
  obtain ⟨hx, hbc, hml, hown, hts, hK, hbs, hE, hX, hfr, hlo, hmc, hms, -, -, -⟩ := C
  have hbH : base ≤ H.size := Nat.le_trans hbs hS.1
  have ha : vm_32 a := hos.h
  have k9 := K9 _ _ _ kk H locs lsa cells slots ⟨hW, hS, hk1, hk2⟩ hol (hos.t.c (show vm_32 (if 0 ≤ a then a else 0 - a) by split <;> assumption)) hlv
  refine va_mabs hx hbc (hml.trans hlv.1.symm) hown (hts _ hw) (hts _ (vm_hw_in vm_okXc)) (hts _ (vm_hw_in vm_okX9)) (hts _ vm_kAbs) (by omega) (by rw [vm_v_cats]; omega) (by omega) (by omega) hd ?_
  have h1 : (0 : Int32) ≤ Int32.ofInt a ↔ 0 ≤ a := by rw [← vm_i0]; exact vm_ile vm_z32 ha
  have he : (if 0 ≤ Int32.ofInt a then Int32.ofInt a else 0 - Int32.ofInt a) = Int32.ofInt (if 0 ≤ a then a else 0 - a) := by
    by_cases q : 0 ≤ a
    · rw [if_pos q, if_pos (h1.mpr q)]
    · rw [if_neg q, if_neg (fun z => q (h1.mp z)), Int32.ofInt_sub, vm_i0]
  rw [he]
  exact k9
theorem lg_iald {pc a : Nat} {ls : vm_L} {l : List Int} {i : Int} {r : List vm_V} (hd : decode K.2.1 pc = .ok (.iaload, 1)) (hm : S.1 a = some (lbA l)) (hi : 0 ≤ i ∧ i < (l.length : Int)) (kk : lG K (pc + 1) ls (vm_i (l.getD i.toNat 0) :: r) S Qp) : lG K pc ls (vm_i i :: vm_r a :: r) S Qp := by
  intro p l9 e R s m args below meth cc dC dI CA AD base mcB msB Z C hZ
  have K9 := fun S9 ls9 st9 (kk : lG K (pc + 1) ls9 st9 S9 Qp) => kk p l9 e R s m args below meth cc dC dI CA AD base mcB msB Z C hZ
  intro H locs lsa cells slots hat hol hos hlv
  obtain ⟨hW, hS, hk1, hk2⟩ := hat
  obtain ⟨hx, hbc, hml, hown, hts, hK, hbs, hE, hX, hfr, hlo, hmc, hms, -, -, -⟩ := C
  have hbH : base ≤ H.size := Nat.le_trans hbs hS.1
  obtain ⟨g1, b, ⟨hP, h32, hlen⟩, gq, -⟩ := lW_use hW hm
  obtain ⟨e1, e2⟩ := vm_ix hi (by omega)
  have eb : lvd AD a = a - 100 := if_neg (by omega)
  have hz : vm_32 (l.getD i.toNat 0) := by
    rw [List.getD_eq_getElem?_getD, List.getElem?_eq_getElem (by omega)]
    exact h32 _ (List.getElem_mem _)
  have k9 := K9 _ _ _ kk H locs lsa cells slots ⟨hW, hS, hk1, hk2⟩ hol (hos.t.t.c hz) hlv
  show W p l9 e R s m args below meth cc H locs cells slots Z (F0 m pc lsa (.int (Int32.ofInt i) :: .ref (lvd AD a) :: r.map (vm_v (lvd AD))))
  rw [eb]
  refine va_iald hx hbc hK hP 0 0 rfl rfl e1 hd ?_
  rw [e2]
  exact k9
theorem lg_iast {pc a : Nat} {ls : vm_L} {l : List Int} {i z : Int} {r : List vm_V} (hd : decode K.2.1 pc = .ok (.iastore, 1)) (hm : S.1 a = some (lbA l)) (hi : 0 ≤ i ∧ i < (l.length : Int)) (kk : lG K (pc + 1) ls r (lup S.1 a (lbA (l.set i.toNat z)), S.2) Qp) : lG K pc ls (vm_i z :: vm_i i :: vm_r a :: r) S Qp := by
  intro p l9 e R s m args below meth cc dC dI CA AD base mcB msB Z C hZ
  have K9 := fun S9 ls9 st9 (kk : lG K (pc + 1) ls9 st9 S9 Qp) => kk p l9 e R s m args below meth cc dC dI CA AD base mcB msB Z C hZ
  intro H locs lsa cells slots hat hol hos hlv
  obtain ⟨hW, hS, hk1, hk2⟩ := hat
  obtain ⟨hx, hbc, hml, hown, hts, hK, hbs, hE, hX, hfr, hlo, hmc, hms, -, -, -⟩ := C
  have hbH : base ≤ H.size := Nat.le_trans hbs hS.1
  obtain ⟨g1, b, ⟨hP, h32, hlen⟩, gq, gx, gc⟩ := lW_use hW hm
  obtain ⟨e1, e2⟩ := vm_ix hi (by omega)
  have eb : lvd AD a = a - 100 := if_neg (by omega)
  have hz : vm_32 z := hos.h
  show W p l9 e R s m args below meth cc H locs cells slots Z (F0 m pc lsa (.int (Int32.ofInt z) :: .int (Int32.ofInt i) :: .ref (lvd AD a) :: r.map (vm_v (lvd AD))))
  rw [eb]
  refine W.iast hx hbc (hP 0 _ rfl) ((hK.2 0 _ rfl).1 l.length (fun j => .int (Int32.ofInt (l.getD j 0)))) (fun q => by cases q) (by show ¬ (Int32.ofInt i < 0 ∨ (arrV _ _ _).slots.size ≤ _); rw [arrV_size]; exact e1) rfl rfl hd fun H1 e9 z9 oq => ?_
  have hn : lH dC dI CA AD H1 (a - 100) b (lbA (l.set i.toNat z)) := by
    refine ⟨fun k q hq => ?_, fun y hy => ?_, by rw [List.length_set]; exact hlen⟩
    · rcases k with _ | k
      · cases hq
        show H1[a - 100]? = some (vp_cell _ _)
        rw [e9, e2, List.length_set, vp_cell_i, vp_cell_i, arrV_store]
        congr 2
        funext q
        by_cases hq : q = i.toNat
        · subst hq
          rw [List.getD_eq_getElem?_getD, List.getElem?_set_self (by omega)]
          simp [upd, updV]
        · rw [List.getD_eq_getElem?_getD, List.getElem?_set_ne (Ne.symm hq), ← List.getD_eq_getElem?_getD]
          simp [upd, updV, hq]
      · cases hq
    · rcases List.mem_or_eq_of_mem_set hy with h | h
      · exact h32 y h
      · rw [h]; exact hz
  exact K9 _ _ _ kk H1 _ lsa cells slots ⟨gc H1 b _ (by rw [z9]; exact Nat.le_refl _) (fun q h1 h2 => oq q (fun z => h2 z)) hn (fun q hq => Or.inl hq) hbH, hS.put z9 oq (gq _ rfl), hk1, hk2⟩ hol hos.t.t.t hlv
theorem lg_newI {pc : Nat} {ls : vm_L} {N : Nat} {r : List vm_V} (hd : decode K.2.1 pc = .ok (.newarray .int, 2)) (hN : N ≤ 1000) (hb : 1 ≤ S.2.1 ∧ N ≤ S.2.2) (kk : ∀ a, 100 ≤ a → S.1 a = none → lG K (pc + 2) ls (vm_r a :: r) (lup S.1 a (lbA (List.replicate N 0)), S.2.1 - 1, S.2.2 - N) Qp) : lG K pc ls (vm_i (N : Int) :: r) S Qp := by
  intro p l9 e R s m args below meth cc dC dI CA AD base mcB msB Z C hZ
  have K9 := fun S9 ls9 st9 (kk : lG K (pc + 2) ls9 st9 S9 Qp) => kk p l9 e R s m args below meth cc dC dI CA AD base mcB msB Z C hZ
  intro H locs lsa cells slots hat hol hos hlv
  obtain ⟨hW, hS, hk1, hk2⟩ := hat
  obtain ⟨hx, hbc, hml, hown, hts, hK, hbs, hE, hX, hfr, hlo, hmc, hms, -, -, -⟩ := C
  have hbH : base ≤ H.size := Nat.le_trans hbs hS.1
  have hz32 : vm_32 (N : Int) := ⟨by omega, by omega⟩
  have hNN : (Int32.ofInt (N : Int)).toNatClampNeg = N := by rw [Int32.toNatClampNeg_ofInt_of_le (by omega) (by omega)]; omega
  refine va_newaK hx hbc (hts (Cond.arrayClass (newarray.typeOf .int)) (vm_hw_in vm_okX1)) rfl hd rfl (fun q => absurd ((vm_ilt0 hz32).mp q) (by omega)) hNN (by show N * 4 ≤ 536870912; omega) (by omega) (by omega) rfl (fun H1 cA e1 z1 o1 hAr hNm => ?_)
  have hq := (hK.2 0 _ rfl).2
  have hn : lH dC dI CA AD H1 H.size H.size (lbA (List.replicate N 0)) := by
    refine ⟨fun k q hq9 => ?_, fun y hy => by rw [List.eq_of_mem_replicate hy]; exact vm_z32, by rw [List.length_replicate]; exact hN⟩
    rcases k with _ | k
    · cases hq9
      show H1[H.size]? = some (vp_cell _ _)
      rw [e1, vp_cell_i, List.length_replicate]
      cases hNm.symm.trans hq
      refine congrArg some (vm_arrV_cg (fun j hj => ?_))
      show Value.int 0 = _
      rw [List.getD_eq_getElem?_getD, List.getElem?_replicate, if_pos hj]
      rfl
    · cases hq9
  obtain ⟨g1, g2⟩ := lW_add hW (by rw [z1]; omega) o1 hn (fun q hq => by have hq : q = H.size := hq; omega) hbH
  have k9 := K9 _ _ _ (kk (H.size + 100) (by omega) g1) H1 locs lsa (cells + 1) (slots + N) ⟨g2, ⟨Nat.le_trans hS.1 (by omega), fun x h1 h2 => (o1 x (Nat.lt_of_lt_of_le h1 hS.1)).trans (hS.2.1 x h1 h2), hS.2.2⟩, by show cells + 1 + (S.2.1 - 1) ≤ mcB; omega, by show slots + N + (S.2.2 - N) ≤ msB; omega⟩ hol (hos.t.c (v := vm_r (H.size + 100)) trivial) hlv
  have eb : lvd AD (H.size + 100) = H.size := if_neg (by omega)
  have e2 : (vm_r (H.size + 100) :: r).map (vm_v (lvd AD)) = .ref H.size :: r.map (vm_v (lvd AD)) := by show Value.ref (lvd AD (H.size + 100)) :: _ = _; rw [eb]
  rw [e2] at k9
  exact k9
theorem lg_slen {pc : Nat} {ls : vm_L} {r : List vm_V} (hK4 : K.2.2.2.2.1 = 4) (hL : K.2.2.2.2.2 ≤ 3072) (hd : decode K.2.1 pc = .ok (.arraylength, 1)) (kk : lG K (pc + 1) ls (vm_i (K.2.2.2.2.2 : Int) :: r) S Qp) : lG K pc ls (vm_r 99 :: r) S Qp := by
  intro p l9 e R s m args below meth cc dC dI CA AD base mcB msB Z C hZ
  have K9 := fun S9 ls9 st9 (kk : lG K (pc + 1) ls9 st9 S9 Qp) => kk p l9 e R s m args below meth cc dC dI CA AD base mcB msB Z C hZ
  intro H locs lsa cells slots hat hol hos hlv
  obtain ⟨hW, hS, hk1, hk2⟩ := hat
  obtain ⟨hx, hbc, hml, hown, hts, hK, hbs, hE, hX, hfr, hlo, hmc, hms, -, -, hsc⟩ := C
  have hbH : base ≤ H.size := Nat.le_trans hbs hS.1
  obtain ⟨xs, hxs, hlt⟩ := hsc hK4
  have k9 := K9 _ _ _ kk H locs lsa cells slots ⟨hW, hS, hk1, hk2⟩ hol (hos.t.c (v := vm_i (K.2.2.2.2.2 : Int)) ⟨by omega, by omega⟩) hlv
  refine va_slen (A := fun q => base ≤ q) (H0 := s.heap) hx hbc hxs (Nat.lt_of_lt_of_le hlt hbs) (Nat.not_le.mpr hlt) hS hd ?_
  rw [show (vm_i (K.2.2.2.2.2 : Int) :: r).map (vm_v (lvd AD)) = .int (Int32.ofNat K.2.2.2.2.2) :: r.map (vm_v (lvd AD)) from by show Value.int (Int32.ofInt (K.2.2.2.2.2 : Int)) :: _ = _; rw [Int32.ofInt_eq_ofNat]] at k9
  exact k9
theorem lg_sld {pc : Nat} {ls : vm_L} {i : Int} {r : List vm_V} (hK4 : K.2.2.2.2.1 = 4) (hL : K.2.2.2.2.2 ≤ 3072) (hi : 0 ≤ i ∧ i < (K.2.2.2.2.2 : Int)) (hd : decode K.2.1 pc = .ok (.iaload, 1)) (kk : ∀ z, vm_32 z → lG K (pc + 1) ls (vm_i z :: r) S Qp) : lG K pc ls (vm_i i :: vm_r 99 :: r) S Qp := by
  intro p l9 e R s m args below meth cc dC dI CA AD base mcB msB Z C hZ
  have K9 := fun S9 ls9 st9 (kk : lG K (pc + 1) ls9 st9 S9 Qp) => kk p l9 e R s m args below meth cc dC dI CA AD base mcB msB Z C hZ
  intro H locs lsa cells slots hat hol hos hlv
  obtain ⟨hW, hS, hk1, hk2⟩ := hat
  obtain ⟨hx, hbc, hml, hown, hts, hK, hbs, hE, hX, hfr, hlo, hmc, hms, -, -, hsc⟩ := C
  have hbH : base ≤ H.size := Nat.le_trans hbs hS.1
  obtain ⟨xs, hxs, hlt⟩ := hsc hK4
  obtain ⟨e1, e2⟩ := vm_ix hi (by omega)
  have k9 := K9 _ _ _ (kk (xs i.toNat).toInt (vm_32t _)) H locs lsa cells slots ⟨hW, hS, hk1, hk2⟩ hol (hos.t.t.c (v := vm_i (xs i.toNat).toInt) (vm_32t _)) hlv
  refine va_sld (A := fun q => base ≤ q) (H0 := s.heap) hx hbc hxs (Nat.lt_of_lt_of_le hlt hbs) (Nat.not_le.mpr hlt) hS e1 hd ?_
  rw [e2]
  rw [show (vm_i (xs i.toNat).toInt :: r).map (vm_v (lvd AD)) = .int (xs i.toNat) :: r.map (vm_v (lvd AD)) from by show Value.int (Int32.ofInt (xs i.toNat).toInt) :: _ = _; rw [Int32.ofInt_toInt]] at k9
  exact k9
end LM3
