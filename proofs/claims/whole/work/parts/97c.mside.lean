/-! ===== the model: bits of told letters; a side ===== -/
theorem vsh_n : ∀ n : Nat, n < 26 → ((Int32.ofInt (n : Int) &&& 31).toBitVec.smod 32).toNat = n := by decide +kernel
theorem vbt_i (T : Int32) (n : Nat) (hn : n < 26) : ((T >>> (Int32.ofInt (n : Int) &&& 31)) &&& Int32.ofInt 1).toInt = 1 ↔ T.toBitVec.getLsbD n = true := by
  have sh : ∀ (s : Int32) (k : Nat), (s.toBitVec.smod 32).toNat = k → (T >>> s).toBitVec = T.toBitVec.sshiftRight k := fun s k e => by subst e; rfl
  have e1 := sh _ n (vsh_n n hn)
  have e2 : ((T >>> (Int32.ofInt (n : Int) &&& 31)) &&& Int32.ofInt 1).toInt = (T.toBitVec.sshiftRight n &&& 1#32).toInt := by
    show ((T >>> (Int32.ofInt (n : Int) &&& 31)).toBitVec &&& 1#32).toInt = _
    rw [e1]
  have e3 : (T.toBitVec.sshiftRight n).getLsbD 0 = T.toBitVec.getLsbD n := by
    rw [BitVec.getLsbD_sshiftRight]
    have a : ¬ (32 ≤ 0) := by omega
    have c : n < 32 := by omega
    simp only [a, decide_false, Bool.not_false, Bool.true_and, Nat.add_zero, if_pos c]
  rw [e2, ← e3]
  generalize T.toBitVec.sshiftRight n = y
  have e4 : (y &&& 1#32).toNat = y.toNat % 2 := by
    rw [BitVec.toNat_and]
    exact Nat.and_two_pow_sub_one_eq_mod _ 1
  have e5 : y.getLsbD 0 = decide (y.toNat % 2 = 1) := Nat.testBit_zero _
  rw [e5, decide_eq_true_eq, BitVec.toInt_eq_toNat_cond, e4]
  split <;> omega
theorem vbt_1 : ∀ a : Nat, a < 26 → ∀ b : Nat, b < 26 → (Int32.ofInt 1 <<< (Int32.ofInt (a : Int) &&& 31)).toBitVec.getLsbD b = decide (b = a) := by decide +kernel
/-- a bit more -/
theorem vbt_or (t : Int) {a b : Int} (ha : 0 ≤ a ∧ a < 26) (hb : 0 ≤ b ∧ b < 26) : vm_and (vm_shr (vm_or t (vm_shl 1 a)) b) 1 = 1 ↔ (b = a ∨ vm_and (vm_shr t b) 1 = 1) := by
  obtain ⟨x, rfl⟩ : ∃ x : Nat, a = x := ⟨a.toNat, by omega⟩
  obtain ⟨y, rfl⟩ : ∃ y : Nat, b = y := ⟨b.toNat, by omega⟩
  have hx : x < 26 := by omega
  have hy : y < 26 := by omega
  unfold vm_and vm_shr vm_or vm_shl
  simp only [Int32.ofInt_toInt]
  rw [vbt_i _ y hy, vbt_i _ y hy]
  have e : (Int32.ofInt t ||| Int32.ofInt 1 <<< (Int32.ofInt (x : Int) &&& 31)).toBitVec.getLsbD y = ((Int32.ofInt t).toBitVec.getLsbD y || (Int32.ofInt 1 <<< (Int32.ofInt (x : Int) &&& 31)).toBitVec.getLsbD y) := by
    show ((Int32.ofInt t).toBitVec ||| (Int32.ofInt 1 <<< (Int32.ofInt (x : Int) &&& 31)).toBitVec).getLsbD y = _
    exact BitVec.getLsbD_or
  rw [e, vbt_1 x hx y hy, Bool.or_eq_true, decide_eq_true_eq]
  constructor
  · rintro (h | h)
    · exact Or.inr h
    · exact Or.inl (by omega)
  · rintro (h | h)
    · exact Or.inr (by omega)
    · exact Or.inl h
theorem vbt_0 {b : Int} (hb : 0 ≤ b ∧ b < 26) : ¬ vm_and (vm_shr 0 b) 1 = 1 := by
  obtain ⟨y, rfl⟩ : ∃ y : Nat, b = y := ⟨b.toNat, by omega⟩
  unfold vm_and vm_shr
  rw [Int32.ofInt_toInt, vbt_i _ y (by omega)]
  have : (Int32.ofInt 0).toBitVec = 0#32 := rfl
  rw [this, BitVec.getLsbD_zero]
  decide
section MS
variable {D : vD} {E : Int → Int} {z : vZs} {m m' m0 : vm_M} {U : Int → Prop} {g c : Int} {W K : Int → Int} {s : vPS} {k : vPS → vRS} {R : vRS}
/-- a letter's token, as the model holds it -/
theorem tLt_m (hZ : ZO D z) (hs : pOk z s) (hK : TKm z (pp s) m) : (m 96 28 = 2 ↔ ¬ tLt (zb z) (zn z) (pp s) = -1) ∧ (m 96 28 = 2 → vm_w32 ((vm_w32 (m 96 29)) - 1) = tLt (zb z) (zn z) (pp s)) := by
  obtain ⟨k1, k2, k3, k4, k5, k6, k7, k8, k9⟩ := hK
  have a : tKd (zb z) (zn z) (pp s) = 1 ∧ tE0 (zb z) (zn z) (pp s) - tF (zb z) (zn z) (pp s) = 1 → 97 ≤ zb z (tF (zb z) (zn z) (pp s)) ∧ zb z (tF (zb z) (zn z) (pp s)) ≤ 122 ∧ tLt (zb z) (zn z) (pp s) = zb z (tF (zb z) (zn z) (pp s)) - 97 := fun q => by
    have h := (tok_let hZ hs q.1).2 _ (Int.le_refl _) (by omega)
    exact ⟨h.1, h.2, if_pos q⟩
  refine ⟨k5.trans ⟨fun q => ?_, fun q => ?_⟩, fun q => ?_⟩
  · have := a q; omega
  · refine Decidable.byContradiction (fun n => q ?_)
    unfold tLt
    rw [if_neg n]
  · have q2 := k5.mp q
    have h := a q2
    have e : tW (zb z) (zn z) (pp s) = zb z (tF (zb z) (zn z) (pp s)) - 96 := by
      unfold tW
      rw [q2.2]
      show 32 * 0 + zb z (tF (zb z) (zn z) (pp s) + 0) - 96 = _
      rw [Int.add_zero]; omega
    rw [k8 (Or.inr q), e, vm_w32_of (show vm_32 (zb z (tF (zb z) (zn z) (pp s)) - 96) by omega), vm_w32_of (by omega), h.2.2]
    omega
theorem sm_isTold {Q : Int → vm_M → Prop} (hZ : ZO D z) (hs : pOk z s) (hP : PM z m0 U g c W K s m) {v : Int} (hv : v = 0 ∨ v = 1) (h28 : m 96 28 = 2) (h1 : (0 < W (tLt (zb z) (zn z) (pp s)) ↔ v = 1) → Q 1 m) (h0 : ¬ (0 < W (tLt (zb z) (zn z) (pp s)) ↔ v = 1) → Q 0 m) : vm_C 208 [vm_r 96, vm_i v] m (vm_qi Q) := by
  have t := tLt_m hZ hs hP.2.1
  have b := tLt_bd hZ hs (t.1.mp h28)
  have w := hP.2.2.2.2.1 _ b.1 b.2
  refine ru11_isTold_0 ?_
  rw [t.2 h28, w]
  refine ⟨fun x => absurd h28 x, fun _ => ⟨fun q => ⟨fun y => h0 ?_, fun y => h1 ?_⟩, fun q => ⟨fun y => h0 ?_, fun y => h1 ?_⟩⟩⟩
  · intro n
    rcases hv with e | e
    · exact y e.symm
    · exact q (n.mpr e)
  · constructor
    · exact fun n => absurd n q
    · intro n; omega
  · intro n
    rcases hv with e | e
    · have := n.mp (Decidable.not_not.mp q); omega
    · exact y e.symm
  · constructor
    · intro n; omega
    · exact fun n => Decidable.not_not.mp q
theorem sm_readSide {Q : vm_M → Prop} (hZ : ZO D z) (hT : MT z m0) {a r : Int} {w0 k0 : Int → Int} (ha : 0 ≤ a ∧ a < 26) (hr : r = 0 ∨ r = 1) (h1 : ∀ s' m' U', pOk z s' → PM z m0 U' g c W K s' m' → (∀ i, U i → U' i) → (∀ j, 0 ≤ j → j < 6 → U' (12 * a + 6 * r + j)) → pW s' = w0 → pK s' = k0 → k s' = R → Q m') (h0 : ∀ s' m', R = pErr z s' → DD m0 (tF (zb z) (zn z) (pp s')) m' → Q m') {v1 : Int} (hv : v1 = 12 * a + 6 * r) : ∀ (n : Nat) (b : Int) (s : vPS) (U2 : Int → Prop) (m : vm_M), 0 ≤ b → b + n = 6 → pOk z s → PM z m0 U2 g c W K s m → (∀ i, U i → U2 i) → (∀ j, 0 ≤ j → j < b → U2 (12 * a + 6 * r + j)) → pW s = w0 → pK s = k0 → pSide z a r n b s k = R → ku11_readSide_2 v1 b m Q := by
  subst hv
  have dead : ∀ b m', m' 96 31 = 0 → Q m' → ku11_readSide_2 (12 * a + 6 * r) b m' Q := fun b m' d q => ru11_readSide_2 ⟨fun _ => q, fun _ => ⟨fun _ => q, fun x => absurd d x⟩⟩
  intro n
  induction n with
  | zero =>
    intro b s U2 m hb hn hs hP hU hj hw hk he
    exact ru11_readSide_2 ⟨fun _ => h1 s m U2 hs hP hU (fun j x y => hj j x (by omega)) hw hk he, fun q => by omega⟩
  | succ n ih =>
    intro b s U2 m hb hn hs hP hU hj hw hk he
    unfold pSide at he
    have hA : ∀ v m', (∀ k, k ≠ 113 → m' k = m k) → (∀ i, m' 113 i = if i = 12 * a + 6 * r + b then v else m 113 i) → MA (fun i => U2 i ∨ i = 12 * a + 6 * r + b) g c W K (psetS s (12 * a + 6 * r + b) v) m' := fun v m' f f2 => by
      obtain ⟨a1, a2, a3, a4, a5, a6⟩ := hP.2.2.2
      refine ⟨fun q => by rw [f 96 (by decide)]; exact a1 q, fun a x y => by rw [f 96 (by decide)]; exact a2 a x y, fun a x y w => by rw [f 112 (by decide)]; exact a3 a x y w, fun i u => ?_, fun k x y => by rw [f 111 (by decide)]; exact a5 k x y, fun k x y => by rw [f 114 (by decide)]; exact a6 k x y⟩
      show m' 113 i = if i = 12 * a + 6 * r + b then v else pS s i
      rw [f2]
      by_cases q : i = 12 * a + 6 * r + b
      · rw [if_pos q, if_pos q]
      · rw [if_neg q, if_neg q]
        rcases u with u | u
        · exact a4 i u
        · exact absurd u q
    have nxt : ∀ v m', PM z m0 (fun i => U2 i ∨ i = 12 * a + 6 * r + b) g c W K (padv z (psetS s (12 * a + 6 * r + b) v)) m' → pSide z a r n (b + 1) (padv z (psetS s (12 * a + 6 * r + b) v)) k = R → ku11_readSide_2 (12 * a + 6 * r) (b + 1) m' Q := fun v m' p e => ih (b + 1) _ _ m' (by omega) (by omega) (padv_ok hZ (psetS_ok hs)) p (fun i u => Or.inl (hU i u)) (fun j x y => by
      by_cases q : j = b
      · right; omega
      · left; exact hj j x (by omega)) hw hk e
    refine ru11_readSide_2 ⟨fun q => by omega, fun _ => ⟨fun x => by rw [hP.2.2.1] at x; exact absurd x (by decide), fun _ => sm_isName hZ hs hP.2.1 hP.2.2.1 (by unfold tkey; decide) (fun t => ⟨fun x => absurd x (by decide), fun _ => ?_⟩) (fun t => ⟨fun _ => ?_, fun x => absurd rfl x⟩)⟩⟩
    · rw [vif_t t] at he
      refine ⟨⟨by omega, by omega⟩, ?_⟩
      refine sm_adv hZ hT hs hP (s' := psetS s (12 * a + 6 * r + b) (-1)) rfl (vfr.rf.st (vMg_o (by decide))) (vst_k (by decide)) (by rw [vst_k (by decide)]; exact hP.2.2.1) (hA (-1) _ (fun k hk => by funext i; exact vst_k hk) (fun i => vst_if)) (fun m' p => ⟨by omega, nxt _ m' p he⟩)
    · rw [vif_f t] at he
      refine ⟨by omega, sm_number hZ hT hs hP (fun t2 m' p => ⟨⟨by omega, by omega⟩, ?_⟩) (fun t2 v m' d => ⟨⟨by omega, by omega⟩, ?_⟩)⟩
      · rw [vif_t t2] at he
        refine nxt _ _ ⟨p.1.st (vMg_o (by decide)), ?_, by rw [vst_k (by decide)]; exact p.2.2.1, ?_⟩ he
        · exact p.2.1.fr (S := fun k _ => Nat.beq k 113) (vfr.rf.st rfl) (fun _ _ => rfl)
        · obtain ⟨a1, a2, a3, a4, a5, a6⟩ := p.2.2.2
          refine ⟨fun q => by rw [vst_k (by decide)]; exact a1 q, fun a x y => by rw [vst_k (by decide)]; exact a2 a x y, fun a x y w => by rw [vst_k (by decide)]; exact a3 a x y w, fun i u => ?_, fun k x y => by rw [vst_k (by decide)]; exact a5 k x y, fun k x y => by rw [vst_k (by decide)]; exact a6 k x y⟩
          show vm_st m' 113 (12 * a + 6 * r + b) (tN (zb z) (zn z) (pp s)) 113 i = if i = 12 * a + 6 * r + b then tN (zb z) (zn z) (pp s) else pS s i
          rw [vst_if]
          by_cases q : i = 12 * a + 6 * r + b
          · rw [if_pos q, if_pos q]
          · rw [if_neg q, if_neg q]
            rcases u with u | u
            · exact a4 i u
            · exact absurd u q
      · rw [vif_f t2] at he
        exact dead _ _ (by rw [vst_k (by decide)]; exact d.2.1) (h0 s _ he.symm (d.st (vMp_o (by decide)) (fun x => absurd x (by decide))))
end MS
