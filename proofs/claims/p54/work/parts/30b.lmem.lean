/-! ===== the law's steps on rows of ints and on builders of text ===== -/
theorem vm_Ext.congr {ad ad' : Nat → Nat} {A : Nat → Prop} {m0 : vm_M} {U : State} {H : Heap} (h : ∀ k, 900 ≤ k → ad k = ad' k) (hE : vm_Ext ad A m0 U H) : vm_Ext ad' A m0 U H := by
  obtain ⟨h1, h2, h3, h4, h5, h6, h7, h8, h9⟩ := hE
  refine ⟨by rw [← h 900 (by omega)]; exact h1, by rw [← h 901 (by omega)]; exact h2, by rw [← h 900 (by omega)]; exact h3, by rw [← h 901 (by omega)]; exact h4, h5, fun e he => by rw [← h _ (by omega)]; exact h6 e he, fun k hk => ?_, h8, h9⟩
  have := h7 k hk
  unfold vm_Tx at this ⊢
  rw [← h (1000 + k) (by omega)]
  exact this
theorem vm_Ext.narrow {ad : Nat → Nat} {A B : Nat → Prop} {m0 : vm_M} {U : State} {H : Heap} (hAB : ∀ q, B q → A q) (hE : vm_Ext ad A m0 U H) : vm_Ext ad B m0 U H := by
  obtain ⟨h1, h2, h3, h4, h5, h6, h7, h8, h9⟩ := hE
  refine ⟨h1.narrow hAB, h2.narrow hAB, h3.narrow hAB, h4.narrow hAB, h5, h6, fun k hk => ?_, h8.narrow hAB, h9.narrow hAB⟩
  obtain ⟨g1, b, g2, g3, g4⟩ := h7 k hk
  exact ⟨g1.narrow hAB, b, g2.narrow hAB, g3.narrow hAB, g4.narrow hAB⟩
/-- a text of a world, as the library reads it -/
theorem lS_of {args : Array Value} {s : State} {dC : Nat → ClassId} {dI : Nat → Nat → Nat} {CA : Nat → ClassId} {A : Nat → Prop} {H : Heap} {a b n : Nat} {f : Nat → Int32} (hts : ∀ w ∈ vm_W, w.before args s = true) (hK : va_K (dC, dI) vm_cls (vm_tys CA) s) (hP : va_P (dC, dI) vm_cls (jT' CA a b n f) H) (ha : ¬ A a) (hb : ¬ A b) : jS A s H (a, b, n, f) := by
  obtain ⟨r, h1, cell, q1, q2, q3, q4⟩ := hP 0 _ rfl
  have hr : r = ("java/lang/String", vm_TS, 4) := Option.some.inj (h1.symm.trans jcl11)
  subst hr
  obtain ⟨hS, hfc, kC, hkC, hkind⟩ := hK.1 11 _ jcl11
  refine ⟨⟨cell, q1, by rw [q3]; rfl, by rw [q2]; exact hfc, ha⟩, ?_, ?_, ?_⟩
  · obtain ⟨cf, kf, fi, f9, hi, hsl⟩ := hS 0 (by decide)
    exact ⟨cf, kf, fi, f9, cell, hi, (u_facts hfc hkC (u_lays hts jSin (by decide)) hi).1, q1, by rw [q3]; exact (fun h => by cases h), by rw [hsl, q4 0 (by decide)]; rfl, ha⟩
  · obtain ⟨cf, kf, fi, f9, hi, hsl⟩ := hS 1 (by decide)
    exact ⟨cf, kf, fi, f9, cell, hi, (u_facts hfc hkC (u_lays hts jSin (by decide)) hi).1, q1, by rw [q3]; exact (fun h => by cases h), by rw [hsl, q4 1 (by decide)]; rfl, ha⟩
  · exact ⟨_, hP 1 _ rfl, (hK.2 1 _ rfl).1 n (fun j => .int (f j)), (fun q => by cases q), by show n ≤ (arrV _ _ _).slots.size; rw [arrV_size]; exact Nat.le_refl _, by show (arrV _ _ _).slots.size.toInt32 = _; rw [arrV_size], fun j hj => by show (arrV _ _ _).slots[j]? = _; rw [arrV_read _ _ hj], hb⟩
/-- the text that a handle leads to -/
def lStr (M : lwM) (r : Nat) (w : List Int) : Prop := (r < 48 ∧ w = vm_strL.getD r []) ∨ M r = some (lbS w)
theorem lTx_pool : (List.range 48).all (fun k => (vm_strL.getD k []).all (fun z => decide (0 ≤ z ∧ z < 128)) && decide ((vm_strL.getD k []).length ≤ 60)) = true := by decide +kernel
theorem lFit {z : Int} (h : 0 ≤ z ∧ z < 128) : fits .byte (.int (Int32.ofInt z)) = true := by
  have h1 : ∀ n : Nat, n < 128 → fits .byte (.int (Int32.ofInt (n : Int))) = true := by decide +kernel
  have := h1 z.toNat (by omega)
  rwa [show ((z.toNat : Nat) : Int) = z by omega] at this
theorem lFitL {l : List Int} (h : lTx l) : sb_Fit (fun j => Int32.ofInt (l.getD j 0)) := by
  intro j
  refine lFit ?_
  rcases Nat.lt_or_ge j l.length with hj | hj
  · rw [List.getD_eq_getElem?_getD, List.getElem?_eq_getElem hj]
    exact h _ (List.getElem_mem hj)
  · rw [List.getD_eq_getElem?_getD, List.getElem?_eq_none hj]
    exact ⟨by decide, by decide⟩
theorem lStr_use {s : State} {args : Array Value} {dC : Nat → ClassId} {dI : Nat → Nat → Nat} {CA : Nat → ClassId} {AD : Nat → Nat} {base : Nat} {A : Nat → Prop} {M : lwM} {H : Heap} {locs : List Loc} {r : Nat} {w : List Int} (hts : ∀ w ∈ vm_W, w.before args s = true) (hK : va_K (dC, dI) vm_cls (vm_tys CA) s) (hE : vm_Ext AD (fun q => base ≤ q) vm_mZ s s.heap) (hS : va_S (fun q => base ≤ q) s.heap H locs) (hAA : ∀ q, A q → base ≤ q) (hw : lStr M r w)
    (ho : M r = some (lbS w) → 100 ≤ r ∧ ∃ b, lH dC dI CA AD H (r - 100) b (lbS w) ∧ ∀ q, lfp (r - 100) b (lbS w) q → ¬ A q) : ∃ (t : Nat) (f : Nat → Int32), jS A s H (lvd AD r, t, w.length, f) ∧ sb_Fit f ∧ lBy w f ∧ w.length ≤ 65536 ∧ lTx w := by
  rcases hw with ⟨h1, rfl⟩ | h1
  · obtain ⟨-, -, -, -, -, -, h7, -⟩ := hE
    obtain ⟨g1, b, g2, g3, g4⟩ := h7 r h1
    have hp := List.all_eq_true.mp lTx_pool r (List.mem_range.mpr h1)
    simp only [Bool.and_eq_true, decide_eq_true_eq, List.all_eq_true] at hp
    have htx : lTx (vm_strL.getD r []) := fun z hz => hp.1 z hz
    have e9 : lvd AD r = AD (1000 + r) := if_pos (by omega)
    rw [e9]
    have hk : ∀ a : Nat, a < s.heap.size → ¬ base ≤ a → H[a]? = s.heap[a]? := fun a h1 h2 => hS.2.1 a h1 h2
    exact ⟨b, fun j => Int32.ofInt ((vm_strL.getD r []).getD j 0), ⟨(g1.kept hk).narrow hAA, (g2.kept hk).narrow hAA, (g3.kept hk).narrow hAA, (g4.kept hk).narrow hAA⟩, lFitL htx, fun j _ => rfl, by omega, htx⟩
  · obtain ⟨g0, b, ⟨g1, g2, g3, f, g4, g5, g6⟩, g7⟩ := ho h1
    have e9 : lvd AD r = r - 100 := if_neg (by omega)
    rw [e9]
    exact ⟨b, f, lS_of hts hK g4 (g7 _ (Or.inl rfl)) (g7 _ (Or.inr rfl)), g5, g6, g2, g3⟩
section LM1
variable {p : Program} {l : Launch} {e : Env} {R : Room} {s : State} {m : MethodId} {args : Array Value} {below : List Frame} {meth : Method} {c : Code} {Q : State → Prop}
variable {dC : Nat → ClassId} {dI : Nat → Nat → Nat} {CA : Nat → ClassId} {A A' : Nat → Prop}
/-- a call that changes a part of what the method may change -/
theorem j_callF {cells slots mc ms pc : Nat} {ls : Array Slot} {H : Heap} {locs : List Loc} {Rr : Option Value → va_W → Prop} {av : Array Value} {st0 rest : List Value} (hr : va_Run p l e R s m args below meth c H locs cells slots mc ms (F0 m pc ls st0) rest (jE dC dI A' Rr av) A') (hS : va_S A s.heap H locs) (hAA : ∀ q, A' q → A q)
    (kk : ∀ (v : Option Value) (ws : va_W) (H1 : Heap) (locs1 : List Loc), Rr v ws → va_P (dC, dI) vm_cls ws H1 → va_D A' ws → H.size ≤ H1.size → (∀ q : Nat, q < H.size → ¬ A' q → H1[q]? = H[q]?) → va_S A s.heap H1 locs1 → W p l e R s m args below meth c H1 locs1 (cells + mc) (slots + ms) Q (F0 m (pc + 3) ls (v.toList ++ rest))) : W p l e R s m args below meth c H locs cells slots Q (F0 m pc ls st0) := by
  intro T hT X
  obtain ⟨v, st₀, t, T', L, h0, X', hL, e1, e2, ⟨v', ws', hRr, hv, hP, hD, hF⟩, st⟩ := hr T hT X
  injection hv with hv
  subst hv
  have hz : H.size ≤ T'.heap.size := by rw [e1, ← h0]; exact hF.1
  have hk : ∀ q : Nat, q < H.size → ¬ A' q → T'.heap[q]? = H[q]? := fun q h1 h2 => by rw [e1, hF.2 q (by rw [h0]; exact h1) h2, h0]
  obtain ⟨t2, a1, b1⟩ := kk _ ws' T'.heap (locs ++ L) hRr (by rw [e1]; exact hP) hD hz hk ⟨Nat.le_trans hS.1 hz, fun q h1 h2 => by rw [hk q (Nat.lt_of_lt_of_le h1 hS.1) (fun h => h2 (hAA q h))]; exact hS.2.1 q h1 h2, fun q hq => by
      rcases List.mem_append.mp hq with h | h
      · exact hS.2.2 q h
      · exact hAA _ (hL q h)⟩ T' rfl X'
  refine ⟨t2, ?_, b1⟩
  cases v with
  | none => exact st t2 a1
  | some v => exact st t2 a1
theorem jB.of2 {L : jT} {ws : va_W} {H : Heap} {locs : List Loc} {U : State} (hK : va_K (dC, dI) vm_cls (vm_tys CA) s) (hX : jX A s s.heap) (hAA : ∀ q, A' q → A q) (hL : ∀ x ∈ L, jS A' s H x) (hA : ∀ q, H.size ≤ q → A' q) (hP : va_P (dC, dI) vm_cls ws H) (hD : va_D A' ws) (hS : va_S A s.heap H locs) (hU : U.heap = H) (hW : s.WarmedH U.vm) : jB dC dI CA A' L ws U := by
  subst hU
  exact ⟨hK.moved hW.alike, (hX.to hW.alike hS.2.1 (va_Nw.warmC hW)).narrow hAA, fun x hx => (hL x hx).to hW.alike (fun _ _ _ => rfl), hP, hD, hA⟩
theorem jSrecv2 {x : Nat × Nat × Nat × (Nat → Int32)} {H : Heap} (h : jS A s H x) : ∃ cell : Cell, H[x.1]? = some cell ∧ cell.vm.isStatics = false ∧ s.vm.findClass "java/lang/String" = some cell.cls := by
  obtain ⟨cell, g1, g2, g3, -⟩ := h.1
  exact ⟨cell, g1, g2, g3⟩
end LM1
theorem va_D2 {A : Nat → Prop} {a b : Nat} {x y : va_E} (h : a ≠ b) (ha : A a) (hb : A b) : va_D A [(a, x), (b, y)] := by
  refine ⟨fun i j p q hp hq hpq => ?_, fun k q hq => ?_⟩
  · rcases i with _ | _ | i <;> rcases j with _ | _ | j
    · rfl
    · cases hp; cases hq; exact absurd hpq h
    · cases hq
    · cases hp; cases hq; exact absurd hpq.symm h
    · rfl
    · cases hq
    · cases hp
    · cases hp
    · cases hp
  · rcases k with _ | _ | k
    · cases hq; exact ha
    · cases hq; exact hb
    · cases hq
theorem va_D1 {A : Nat → Prop} {a : Nat} {x : va_E} (ha : A a) : va_D A [(a, x)] := by
  refine ⟨fun i j p q hp hq hpq => ?_, fun k q hq => ?_⟩
  · rcases i with _ | i <;> rcases j with _ | j
    · rfl
    · cases hq
    · cases hp
    · cases hp
  · rcases k with _ | k
    · cases hq; exact ha
    · cases hq
theorem va_P0 {D : va_G} {H : Heap} : va_P D vm_cls [] H := fun k q hq => by cases hq
theorem va_D0 {A : Nat → Prop} : va_D A [] := by
  refine ⟨fun i j p q hp hq hpq => ?_, fun k q hq => ?_⟩
  · cases hp
  · cases hq
theorem lTx.app {l w : List Int} (h1 : lTx l) (h2 : lTx w) : lTx (l ++ w) := fun z hz => (List.mem_append.mp hz).elim (h1 z) (h2 z)
theorem lBy.app {l w : List Int} {f g : Nat → Int32} (h : lBy l f) (h1 : ∀ j, j < l.length → g j = f j) (h2 : ∀ j, j < w.length → g (l.length + j) = Int32.ofInt (w.getD j 0)) : lBy (l ++ w) g := by
  intro j hj
  rw [List.length_append] at hj
  rcases Nat.lt_or_ge j l.length with q | q
  · rw [h1 j q, h j q, List.getD_eq_getElem?_getD, List.getD_eq_getElem?_getD, List.getElem?_append_left q]
  · have := h2 (j - l.length) (by omega)
    rw [show l.length + (j - l.length) = j by omega] at this
    rw [this, List.getD_eq_getElem?_getD, List.getD_eq_getElem?_getD, List.getElem?_append_right q]
theorem lcap {q c : Nat} (h : q ≤ 32767) (hc : c ≤ 65536) : sb_cap q c ≤ 65536 := by unfold sb_cap; (repeat' split) <;> omega
theorem lcap0 {q c : Nat} (hc : 0 < c) : 0 < sb_cap q c := by have := sb_cap_gem q c; omega
/-- the digits of a number -/
def lDec (x : Nat) : List Int := (List.range (sb_dg x)).map (fun j => ((48 + x / 10 ^ (sb_dg x - 1 - j) % 10 : Nat) : Int))
theorem lDec_len (x : Nat) : (lDec x).length = sb_dg x := by unfold lDec; rw [List.length_map, List.length_range]
theorem lDec_tx (x : Nat) : lTx (lDec x) := by
  intro z hz
  obtain ⟨j, -, rfl⟩ := List.mem_map.mp hz
  have := Nat.mod_lt (x / 10 ^ (sb_dg x - 1 - j)) (by decide : 0 < 10)
  omega
theorem lsb_b {n : Nat} (h : n < 128) : sb_b n = Int32.ofInt (n : Int) := by
  have h1 : ∀ n : Nat, n < 128 → sb_b n = Int32.ofInt (n : Int) := by decide +kernel
  exact h1 n h
section LM2
variable {K : lwK} {S : lwS} {Qp : Option vm_V → lwS → Prop}
theorem lH_bB {dC : Nat → ClassId} {dI : Nat → Nat → Nat} {CA : Nat → ClassId} {AD : Nat → Nat} {H : Heap} {a b c : Nat} {l : List Int} (h : lH dC dI CA AD H a b (lbB l c)) (h0 : 0 < c) : a ≠ b ∧ l.length ≤ c ∧ c ≤ 65536 ∧ lTx l ∧ ∃ f, va_P (dC, dI) vm_cls (jW CA a b l.length c f) H ∧ sb_Fit f ∧ lBy l f := by
  unfold lH at h
  dsimp only at h
  rwa [if_neg (by omega)] at h
theorem lH_mk {dC : Nat → ClassId} {dI : Nat → Nat → Nat} {CA : Nat → ClassId} {AD : Nat → Nat} {H : Heap} {a b c : Nat} {l : List Int} (h0 : 0 < c) (h : a ≠ b ∧ l.length ≤ c ∧ c ≤ 65536 ∧ lTx l ∧ ∃ f, va_P (dC, dI) vm_cls (jW CA a b l.length c f) H ∧ sb_Fit f ∧ lBy l f) : lH dC dI CA AD H a b (lbB l c) := by
  unfold lH
  dsimp only
  rwa [if_neg (by omega)]
set_option maxHeartbeats 4000000 in
theorem lg_sbC {pc idx b0 : Nat} {ls : vm_L} {l : List Int} {c : Nat} {z : Int} {r : List vm_V} (hw : Cond.methodLink "BoardLettersLaw" idx ⟨"java/lang/StringBuilder", "append", "(C)Ljava/lang/StringBuilder;"⟩ ∈ vm_W) (hd : decode K.2.1 pc = .ok (.invokevirtual idx, 3)) (hc8 : vm_cats r ≤ 8) (hm : S.1 b0 = some (lbB l c)) (h0 : 0 < c) (hz : 0 ≤ z ∧ z < 128) (hl : l.length + 1 ≤ 32767) (hb : sb_k (l.length + 1) c ≤ S.2.1 ∧ sb_z (l.length + 1) c ≤ S.2.2) (kk : lG K (pc + 3) ls (vm_r b0 :: r) (lup S.1 b0 (lbB (l ++ [z]) (sb_cap (l.length + 1) c)), S.2.1 - sb_k (l.length + 1) c, S.2.2 - sb_z (l.length + 1) c) Qp) : lG K pc ls (vm_i z :: vm_r b0 :: r) S Qp := by
  intro p l9 e R s m args below meth cc dC dI CA AD base mcB msB Z C hZ
  have K9 := fun S9 ls9 st9 (kk : lG K (pc + 3) ls9 st9 S9 Qp) => kk p l9 e R s m args below meth cc dC dI CA AD base mcB msB Z C hZ
  intro H locs lsa cells slots hat hol hos hlv
  obtain ⟨hW, hS, hk1, hk2⟩ := hat
  obtain ⟨hx, hbc, hml, hown, hts, hK, hbs, hE, hX, hfr, hlo, hmc, hms, -, -, -⟩ := C
  have hbH : base ≤ H.size := Nat.le_trans hbs hS.1
  obtain ⟨g1, b, gB, gq, gx, gc⟩ := lW_use hW hm
  obtain ⟨hab, hlc, hc6, htx, f, hP, hf, hby⟩ := lH_bB gB h0
  have hAA : ∀ q, (lfp (b0 - 100) b (lbB l c) q ∨ H.size ≤ q) → base ≤ q := fun q h => h.elim (gq q) (fun h => Nat.le_trans hbH h)
  have hD : va_D (fun q => lfp (b0 - 100) b (lbB l c) q ∨ H.size ≤ q) (jW CA (b0 - 100) b l.length c f) := va_D2 hab (Or.inl (Or.inl rfl)) (Or.inl (Or.inr rfl))
  have eb : lvd AD b0 = b0 - 100 := if_neg (by omega)
  have hq1 : l.length + 1 ≤ 32767 := hl
  have ez : nI z.toNat = Int32.ofInt z := by
    show Int32.ofNat z.toNat = _
    rw [← Int32.ofInt_eq_ofNat, show ((z.toNat : Nat) : Int) = z by omega]
  refine j_callF (A := fun q => base ≤ q) (A' := fun q => lfp (b0 - 100) b (lbB l c) q ∨ H.size ≤ q) (va_runV (b := b0 - 100) (As := [.int (nI z.toNat)]) (rest := r.map (vm_v (lvd AD))) ⟨hx, hbc, hml, hown, hts⟩ (jm_sbC l9 dC dI CA _ [] (b0 - 100) b l.length c z.toNat f hc6 hlc (by omega) hf (by omega)) (cwV 1 hts (vm_gV jk7 hw (vm_hw_in (i := 938) (by decide +kernel)) (vm_hw_in (i := 939) (by decide +kernel)) (vm_hw_in (i := 50) (by decide +kernel))) rfl rfl rfl (by decide +kernel) ⟨by show 5 + 1 ≤ R.frames; omega, by show 8 + (2 + 11) + 200 ≤ R.locals; omega⟩) ⟨jB.blind, va_recv hK hP jcl12 (show ((jW CA (b0 - 100) b l.length c f : va_W))[0]? = _ from rfl), fun U hU hW => ⟨rfl, jB.of2 hK hX hAA (fun _ h => by cases h) (fun q h => Or.inr h) hP hD hS hU hW⟩⟩ rfl rfl hlv.1 (by show Value.int (Int32.ofInt z) :: Value.ref (lvd AD b0) :: r.map (vm_v (lvd AD)) = _; rw [eb, ← ez]; rfl) (lv_room (by rw [vm_v_cats]; exact hc8)) hd ⟨by show cells + sb_k (l.length + 1) c ≤ R.cells; omega, by show slots + sb_z (l.length + 1) c ≤ R.slots; omega⟩) hS hAA (fun v ws H1 locs1 hR hP1 hD1 hsz hkp hS1 => ?_)
  obtain ⟨b1, f1, rfl, rfl, hf1, q1, q2⟩ := hR
  have eln : (l ++ [z]).length = l.length + 1 := by rw [List.length_append, List.length_singleton]
  have hn : lH dC dI CA AD H1 (b0 - 100) b1 (lbB (l ++ [z]) (sb_cap (l.length + 1) c)) := by
    refine lH_mk (lcap0 h0) ⟨fun z => absurd (hD1.1 0 1 _ _ rfl rfl z) (by decide), by rw [eln]; exact sb_cap_ge _ _, lcap hl hc6, htx.app (fun y hy => by rw [List.mem_singleton.mp hy]; exact hz), f1, by rw [eln]; exact hP1, hf1, hby.app (fun j hj => q1 j hj) ?_⟩
    intro j hj
    have hj : j < 1 := hj
    obtain rfl : j = 0 := by omega
    rw [Nat.add_zero, q2]
    show sb_b z.toNat = Int32.ofInt z
    rw [lsb_b (by omega), show ((z.toNat : Nat) : Int) = z by omega]
  have k9 := K9 _ _ _ kk H1 locs1 lsa (cells + sb_k (l.length + 1) c) (slots + sb_z (l.length + 1) c) ⟨gc H1 b1 _ hsz (fun q h1 h2 => hkp q h1 (fun h => h.elim h2 (fun h => by omega))) hn (fun q hq => hq.elim (fun h => Or.inl (Or.inl h)) (fun h => by rw [h]; exact hD1.2 1 _ rfl)) hbH, hS1, by show cells + sb_k (l.length + 1) c + (S.2.1 - sb_k (l.length + 1) c) ≤ mcB; omega, by show slots + sb_z (l.length + 1) c + (S.2.2 - sb_z (l.length + 1) c) ≤ msB; omega⟩ hol hos.t hlv
  have e2 : (vm_r b0 :: r).map (vm_v (lvd AD)) = .ref (b0 - 100) :: r.map (vm_v (lvd AD)) := by show Value.ref (lvd AD b0) :: _ = _; rw [eb]
  rw [e2] at k9
  exact k9
set_option maxHeartbeats 4000000 in
theorem lg_sbI {pc idx b0 : Nat} {ls : vm_L} {l : List Int} {c : Nat} {z : Int} {r : List vm_V} (hw : Cond.methodLink "BoardLettersLaw" idx ⟨"java/lang/StringBuilder", "append", "(I)Ljava/lang/StringBuilder;"⟩ ∈ vm_W) (hd : decode K.2.1 pc = .ok (.invokevirtual idx, 3)) (hc8 : vm_cats r ≤ 8) (hm : S.1 b0 = some (lbB l c)) (h0 : 0 < c) (hz : 0 ≤ z ∧ z < 10000000) (hl : l.length + sb_dg z.toNat ≤ 32767) (hb : sb_k (l.length + sb_dg z.toNat) c ≤ S.2.1 ∧ sb_z (l.length + sb_dg z.toNat) c ≤ S.2.2) (kk : lG K (pc + 3) ls (vm_r b0 :: r) (lup S.1 b0 (lbB (l ++ (lDec z.toNat)) (sb_cap (l.length + sb_dg z.toNat) c)), S.2.1 - sb_k (l.length + sb_dg z.toNat) c, S.2.2 - sb_z (l.length + sb_dg z.toNat) c) Qp) : lG K pc ls (vm_i z :: vm_r b0 :: r) S Qp := by
  intro p l9 e R s m args below meth cc dC dI CA AD base mcB msB Z C hZ
  have K9 := fun S9 ls9 st9 (kk : lG K (pc + 3) ls9 st9 S9 Qp) => kk p l9 e R s m args below meth cc dC dI CA AD base mcB msB Z C hZ
  intro H locs lsa cells slots hat hol hos hlv
  obtain ⟨hW, hS, hk1, hk2⟩ := hat
  obtain ⟨hx, hbc, hml, hown, hts, hK, hbs, hE, hX, hfr, hlo, hmc, hms, -, -, -⟩ := C
  have hbH : base ≤ H.size := Nat.le_trans hbs hS.1
  obtain ⟨g1, b, gB, gq, gx, gc⟩ := lW_use hW hm
  obtain ⟨hab, hlc, hc6, htx, f, hP, hf, hby⟩ := lH_bB gB h0
  have hAA : ∀ q, (lfp (b0 - 100) b (lbB l c) q ∨ H.size ≤ q) → base ≤ q := fun q h => h.elim (gq q) (fun h => Nat.le_trans hbH h)
  have hD : va_D (fun q => lfp (b0 - 100) b (lbB l c) q ∨ H.size ≤ q) (jW CA (b0 - 100) b l.length c f) := va_D2 hab (Or.inl (Or.inl rfl)) (Or.inl (Or.inr rfl))
  have eb : lvd AD b0 = b0 - 100 := if_neg (by omega)
  have hq1 : l.length + sb_dg z.toNat ≤ 32767 := hl
  have ez : nI z.toNat = Int32.ofInt z := by
    show Int32.ofNat z.toNat = _
    rw [← Int32.ofInt_eq_ofNat, show ((z.toNat : Nat) : Int) = z by omega]
  refine j_callF (A := fun q => base ≤ q) (A' := fun q => lfp (b0 - 100) b (lbB l c) q ∨ H.size ≤ q) (va_runV (b := b0 - 100) (As := [.int (nI z.toNat)]) (rest := r.map (vm_v (lvd AD))) ⟨hx, hbc, hml, hown, hts⟩ (jm_sbI l9 dC dI CA _ [] (b0 - 100) b l.length c z.toNat f hc6 hlc hq1 hf (by omega)) (cwV 1 hts (vm_gV jk11 hw (vm_hw_in (i := 913) (by decide +kernel)) (vm_hw_in (i := 914) (by decide +kernel)) (vm_hw_in (i := 50) (by decide +kernel))) rfl rfl rfl (by decide +kernel) ⟨by show 5 + 1 ≤ R.frames; omega, by show 8 + (2 + 11) + 200 ≤ R.locals; omega⟩) ⟨jB.blind, va_recv hK hP jcl12 (show ((jW CA (b0 - 100) b l.length c f : va_W))[0]? = _ from rfl), fun U hU hW => ⟨rfl, jB.of2 hK hX hAA (fun _ h => by cases h) (fun q h => Or.inr h) hP hD hS hU hW⟩⟩ rfl rfl hlv.1 (by show Value.int (Int32.ofInt z) :: Value.ref (lvd AD b0) :: r.map (vm_v (lvd AD)) = _; rw [eb, ← ez]; rfl) (lv_room (by rw [vm_v_cats]; exact hc8)) hd ⟨by show cells + sb_k (l.length + sb_dg z.toNat) c ≤ R.cells; omega, by show slots + sb_z (l.length + sb_dg z.toNat) c ≤ R.slots; omega⟩) hS hAA (fun v ws H1 locs1 hR hP1 hD1 hsz hkp hS1 => ?_)
  obtain ⟨b1, f1, rfl, rfl, hf1, q1, q2⟩ := hR
  have eln : (l ++ (lDec z.toNat)).length = l.length + sb_dg z.toNat := by rw [List.length_append, lDec_len]
  have hn : lH dC dI CA AD H1 (b0 - 100) b1 (lbB (l ++ (lDec z.toNat)) (sb_cap (l.length + sb_dg z.toNat) c)) := by
    refine lH_mk (lcap0 h0) ⟨fun z => absurd (hD1.1 0 1 _ _ rfl rfl z) (by decide), by rw [eln]; exact sb_cap_ge _ _, lcap hl hc6, htx.app (lDec_tx _), f1, by rw [eln]; exact hP1, hf1, hby.app (fun j hj => q1 j hj) ?_⟩
    intro j hj
    rw [lDec_len] at hj
    have q3 := q2 (sb_dg z.toNat - 1 - j) (by omega)
    rw [show l.length + sb_dg z.toNat - 1 - (sb_dg z.toNat - 1 - j) = l.length + j by omega] at q3
    rw [q3, List.getD_eq_getElem?_getD]
    unfold lDec
    rw [List.getElem?_map, List.getElem?_range hj]
    exact lsb_b (by have := Nat.mod_lt (z.toNat / 10 ^ (sb_dg z.toNat - 1 - j)) (by decide : 0 < 10); omega)
  have k9 := K9 _ _ _ kk H1 locs1 lsa (cells + sb_k (l.length + sb_dg z.toNat) c) (slots + sb_z (l.length + sb_dg z.toNat) c) ⟨gc H1 b1 _ hsz (fun q h1 h2 => hkp q h1 (fun h => h.elim h2 (fun h => by omega))) hn (fun q hq => hq.elim (fun h => Or.inl (Or.inl h)) (fun h => by rw [h]; exact hD1.2 1 _ rfl)) hbH, hS1, by show cells + sb_k (l.length + sb_dg z.toNat) c + (S.2.1 - sb_k (l.length + sb_dg z.toNat) c) ≤ mcB; omega, by show slots + sb_z (l.length + sb_dg z.toNat) c + (S.2.2 - sb_z (l.length + sb_dg z.toNat) c) ≤ msB; omega⟩ hol hos.t hlv
  have e2 : (vm_r b0 :: r).map (vm_v (lvd AD)) = .ref (b0 - 100) :: r.map (vm_v (lvd AD)) := by show Value.ref (lvd AD b0) :: _ = _; rw [eb]
  rw [e2] at k9
  exact k9
set_option maxHeartbeats 4000000 in
theorem lg_sbS {pc idx b0 : Nat} {ls : vm_L} {l : List Int} {c : Nat} {r9 : Nat} {w : List Int} {r : List vm_V} (hw : Cond.methodLink "BoardLettersLaw" idx ⟨"java/lang/StringBuilder", "append", "(Ljava/lang/String;)Ljava/lang/StringBuilder;"⟩ ∈ vm_W) (hd : decode K.2.1 pc = .ok (.invokevirtual idx, 3)) (hc8 : vm_cats r ≤ 8) (hm : S.1 b0 = some (lbB l c)) (h0 : 0 < c) (hs : lStr S.1 r9 w) (hl : l.length + w.length ≤ 32767) (hb : sb_k (l.length + w.length) c ≤ S.2.1 ∧ sb_z (l.length + w.length) c ≤ S.2.2) (kk : lG K (pc + 3) ls (vm_r b0 :: r) (lup S.1 b0 (lbB (l ++ w) (sb_cap (l.length + w.length) c)), S.2.1 - sb_k (l.length + w.length) c, S.2.2 - sb_z (l.length + w.length) c) Qp) : lG K pc ls (vm_r r9 :: vm_r b0 :: r) S Qp := by
  intro p l9 e R s m args below meth cc dC dI CA AD base mcB msB Z C hZ
  have K9 := fun S9 ls9 st9 (kk : lG K (pc + 3) ls9 st9 S9 Qp) => kk p l9 e R s m args below meth cc dC dI CA AD base mcB msB Z C hZ
  intro H locs lsa cells slots hat hol hos hlv
  obtain ⟨hW, hS, hk1, hk2⟩ := hat
  obtain ⟨hx, hbc, hml, hown, hts, hK, hbs, hE, hX, hfr, hlo, hmc, hms, -, -, -⟩ := C
  have hbH : base ≤ H.size := Nat.le_trans hbs hS.1
  obtain ⟨g1, b, gB, gq, gx, gc⟩ := lW_use hW hm
  obtain ⟨hab, hlc, hc6, htx, f, hP, hf, hby⟩ := lH_bB gB h0
  have hAA : ∀ q, (lfp (b0 - 100) b (lbB l c) q ∨ H.size ≤ q) → base ≤ q := fun q h => h.elim (gq q) (fun h => Nat.le_trans hbH h)
  have hD : va_D (fun q => lfp (b0 - 100) b (lbB l c) q ∨ H.size ≤ q) (jW CA (b0 - 100) b l.length c f) := va_D2 hab (Or.inl (Or.inl rfl)) (Or.inl (Or.inr rfl))
  have eb : lvd AD b0 = b0 - 100 := if_neg (by omega)
  have hq1 : l.length + w.length ≤ 32767 := hl
  obtain ⟨tx, fx, hsx, hfx, hbx, hw6, hwt⟩ := lStr_use (A := fun q => lfp (b0 - 100) b (lbB l c) q ∨ H.size ≤ q) hts hK hE hS hAA hs (fun h => by
    obtain ⟨o1, b2, o2, o3, o4⟩ := gx r9 _ h (fun z => by subst z; rw [h] at hm; cases hm)
    exact ⟨o1, b2, o2, fun q hq => fun z => z.elim (o4 q hq) (fun z => by have := lH_lt o2 hq; omega)⟩)
  refine j_callF (A := fun q => base ≤ q) (A' := fun q => lfp (b0 - 100) b (lbB l c) q ∨ H.size ≤ q) (va_runV (b := b0 - 100) (As := [.ref (lvd AD r9)]) (rest := r.map (vm_v (lvd AD))) ⟨hx, hbc, hml, hown, hts⟩ (jm_sbS l9 dC dI CA _ [(lvd AD r9, tx, w.length, fx)] (lvd AD r9, tx, w.length, fx) (b0 - 100) b l.length c f List.mem_cons_self hfx hc6 hlc hq1 hf) (cwV 1 hts (vm_gV jk18 hw (vm_hw_in (i := 808) (by decide +kernel)) (vm_hw_in (i := 809) (by decide +kernel)) (vm_hw_in (i := 50) (by decide +kernel))) rfl rfl rfl (by decide +kernel) ⟨by show 5 + 1 ≤ R.frames; omega, by show 8 + (2 + 11) + 200 ≤ R.locals; omega⟩) ⟨jB.blind, va_recv hK hP jcl12 (show ((jW CA (b0 - 100) b l.length c f : va_W))[0]? = _ from rfl), fun U hU hW => ⟨rfl, jB.of2 hK hX hAA (fun y hy => by rw [List.mem_singleton.mp hy]; exact hsx) (fun q h => Or.inr h) hP hD hS hU hW⟩⟩ rfl rfl hlv.1 (by show Value.ref (lvd AD r9) :: Value.ref (lvd AD b0) :: r.map (vm_v (lvd AD)) = _; rw [eb]; rfl) (lv_room (by rw [vm_v_cats]; exact hc8)) hd ⟨by show cells + sb_k (l.length + w.length) c ≤ R.cells; omega, by show slots + sb_z (l.length + w.length) c ≤ R.slots; omega⟩) hS hAA (fun v ws H1 locs1 hR hP1 hD1 hsz hkp hS1 => ?_)
  obtain ⟨b1, f1, rfl, rfl, hf1, q1, q2⟩ := hR
  have eln : (l ++ w).length = l.length + w.length := by rw [List.length_append]
  have hn : lH dC dI CA AD H1 (b0 - 100) b1 (lbB (l ++ w) (sb_cap (l.length + w.length) c)) := by
    refine lH_mk (lcap0 h0) ⟨fun z => absurd (hD1.1 0 1 _ _ rfl rfl z) (by decide), by rw [eln]; exact sb_cap_ge _ _, lcap hl hc6, htx.app hwt, f1, by rw [eln]; exact hP1, hf1, hby.app (fun j hj => q1 j hj) ?_⟩
    intro j hj
    rw [q2 j hj]
    exact hbx j hj
  have k9 := K9 _ _ _ kk H1 locs1 lsa (cells + sb_k (l.length + w.length) c) (slots + sb_z (l.length + w.length) c) ⟨gc H1 b1 _ hsz (fun q h1 h2 => hkp q h1 (fun h => h.elim h2 (fun h => by omega))) hn (fun q hq => hq.elim (fun h => Or.inl (Or.inl h)) (fun h => by rw [h]; exact hD1.2 1 _ rfl)) hbH, hS1, by show cells + sb_k (l.length + w.length) c + (S.2.1 - sb_k (l.length + w.length) c) ≤ mcB; omega, by show slots + sb_z (l.length + w.length) c + (S.2.2 - sb_z (l.length + w.length) c) ≤ msB; omega⟩ hol hos.t hlv
  have e2 : (vm_r b0 :: r).map (vm_v (lvd AD)) = .ref (b0 - 100) :: r.map (vm_v (lvd AD)) := by show Value.ref (lvd AD b0) :: _ = _; rw [eb]
  rw [e2] at k9
  exact k9
end LM2
