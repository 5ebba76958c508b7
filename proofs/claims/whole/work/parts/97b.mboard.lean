/-! ===== the model reads the board ===== -/
/-- all is well, with what is left to read; or it was wrong -/
def LV (z : vZs) (m0 : vm_M) (U : Int → Prop) (g c : Int) (W K : Int → Int) (R : vRS) (k : vPS → vRS) (m : vm_M) : Prop := (∃ s, pOk z s ∧ PM z m0 U g c W K s m ∧ pW s = W ∧ pK s = K ∧ k s = R) ∨ (∃ s, R = pErr z s ∧ DD m0 (tF (zb z) (zn z) (pp s)) m)
section MB
variable {D : vD} {E : Int → Int} {z : vZs} {m m' m0 : vm_M} {U : Int → Prop} {g c : Int} {W K : Int → Int} {s : vPS} {k : vPS → vRS} {R : vRS}
theorem DD.st {e : Int} {a : Nat} {i v : Int} (h : DD m0 e m) (ha : vMp a i = true) (h2 : a = 96 → i ≠ 31 ∧ i ≠ 2) : DD m0 e (vm_st m a i v) := by
  have n : ∀ j, (j = 31 ∨ j = 2) → vm_st m a i v 96 j = m 96 j := fun j hj => by
    unfold vm_st
    rw [if_neg (fun q => by have := h2 q.1.symm; omega)]
  exact ⟨h.1.st ha, by rw [n 31 (Or.inl rfl)]; exact h.2.1, by rw [n 2 (Or.inr rfl)]; exact h.2.2⟩
/-- a number, and it is laid -/
theorem sm_stA {Q : Int → vm_M → Prop} (hZ : ZO D z) (hT : MT z m0) (hc : 0 ≤ c ∧ c < 6) (hs : pOk z s) (hP : PM z m0 U g c W K s m) (hw : pW s = W) (hk : pK s = K) {lo hi : Int} (hlo : lo = plo c) (hhi : hi = phi (pC s) c) (he : pNum z c s k = R) (h : ∀ v m', LV z m0 U g (c + 1) W K R k (vm_st m' 111 c v) → Q v m') : vm_C 205 [vm_r 96, vm_i lo, vm_i hi] m (vm_qi Q) := by
  unfold pNum at he
  rw [hlo, hhi]
  refine sm_number hZ hT hs hP (fun t m' p => h _ m' (Or.inl ⟨padv z (psetE s c (tN (zb z) (zn z) (pp s))), padv_ok hZ (s := psetE s c (tN (zb z) (zn z) (pp s))) hs, ⟨p.1.st (vMg_o (by decide)), ?_, ?_, ?_⟩, hw, hk, ?_⟩)) (fun t v m' d => h v m' (Or.inr ⟨s, ?_, d.st (vMp_o (by decide)) (fun x => absurd x (by decide))⟩))
  · exact p.2.1.fr (S := fun k _ => Nat.beq k 111) (vfr.rf.st rfl) (fun _ _ => rfl)
  · rw [vst_k (by decide)]; exact p.2.2.1
  · obtain ⟨a1, a2, a3, a4, a5, a6⟩ := p.2.2.2
    refine ⟨fun q => by rw [vst_k (by decide)]; exact a1 q, fun a x y => by rw [vst_k (by decide)]; exact a2 a x y, fun a x y w => by rw [vst_k (by decide)]; exact a3 a x y w, fun i u => by rw [vst_k (by decide)]; exact a4 i u, fun k x y => ?_, fun k x y => by rw [vst_k (by decide)]; exact a6 k x y⟩
    show vm_st m' 111 c (tN (zb z) (zn z) (pp s)) 111 k = if k = c then tN (zb z) (zn z) (pp s) else pE s k
    rw [vst_if]
    split
    · rfl
    · exact a5 k x (by omega)
  · rw [vif_t t] at he; exact he
  · rw [vif_f t] at he; exact he.symm
theorem LV.dead {k' : vPS → vRS} {g' c' : Int} {a : Nat} {i v : Int} (ha : vMp a i = true) (h2 : a = 96 → i ≠ 31 ∧ i ≠ 2) (he : R = pErr z s) (d : DD m0 (tF (zb z) (zn z) (pp s)) m) : LV z m0 U g' c' W K R k' (vm_st m a i v) := Or.inr ⟨s, he, d.st ha h2⟩
theorem sm_stN {Q : Int → vm_M → Prop} (hZ : ZO D z) (hT : MT z m0) (hc : 0 ≤ c ∧ c < 6) {lo hi : Int} (hlo : lo = plo c) (hhi : ∀ s, PM z m0 U g c W K s m → hi = phi (pC s) c) (hL : LV z m0 U g c W K R (fun s => pNum z c s k) m) (h : ∀ v m', LV z m0 U g (c + 1) W K R k (vm_st m' 111 c v) → Q v m') : vm_C 205 [vm_r 96, vm_i lo, vm_i hi] m (vm_qi Q) := by
  rcases hL with ⟨s, hs, hP, hw, hk, he⟩ | ⟨s, he, d⟩
  · exact sm_stA hZ hT hc hs hP hw hk hlo (hhi s hP) he h
  · exact sm_numberD d.2.1 (fun v => h v m (LV.dead (vMp_o (by decide)) (fun x => absurd x (by decide)) he d))
theorem sm_stWN {Q : Int → vm_M → Prop} (hZ : ZO D z) (hT : MT z m0) (hc : 0 ≤ c ∧ c < 6) {w lo hi : Int} (hkey : tkey w) (hlo : lo = plo c) (hhi : ∀ s, PM z m0 U g c W K s m → hi = phi (pC s) c) (hL : LV z m0 U g c W K R (fun s => pName z w s fun s1 => pNum z c s1 k) m) (h : ∀ v m', LV z m0 U g (c + 1) W K R k (vm_st m' 111 c v) → Q v m') : vm_C 206 [vm_r 96, vm_l w, vm_i lo, vm_i hi] m (vm_qi Q) := by
  rcases hL with ⟨s, hs, hP, hw, hk, he⟩ | ⟨s, he, d⟩
  · refine ru11_numberOf_0 (sm_takeW hZ hT hs hP hkey he (fun m1 o1 p1 e1 _ => sm_stA hZ hT hc o1 p1 hw hk hlo (hhi s hP) e1 h) (fun s' m1 e d => sm_numberD d.2.1 (fun v => h v m1 (LV.dead (vMp_o (by decide)) (fun x => absurd x (by decide)) e d))))
  · exact sm_numberOfD d.2.1 (fun v => h v m (LV.dead (vMp_o (by decide)) (fun x => absurd x (by decide)) he d))
theorem sm_stWC {Q : Int → vm_M → Prop} (hZ : ZO D z) (hT : MT z m0) {w : Int} (hkey : tkey w) (hL : LV z m0 U g c W K R (fun s => pName z w s fun s1 => pCap z s1 k) m) (h : ∀ v m', LV z m0 U 1 c W K R k (vm_st m' 96 32 v) → Q v m') : vm_C 206 [vm_r 96, vm_l w, vm_i 1, vm_i 30] m (vm_qi Q) := by
  rcases hL with ⟨s, hs, hP, hw, hk, he⟩ | ⟨s, he, d⟩
  · refine ru11_numberOf_0 (sm_takeW hZ hT hs hP hkey he (fun m1 o1 p1 e1 _ => ?_) (fun s' m1 e d => sm_numberD d.2.1 (fun v => h v m1 (LV.dead rfl (fun _ => by decide) e d))))
    have e1 : pCap z (padv z s) k = R := e1
    unfold pCap at e1
    have hw1 : pW (padv z s) = W := hw
    have hk1 : pK (padv z s) = K := hk
    generalize padv z s = s1 at *
    refine sm_number hZ hT o1 p1 (fun t m' p => h _ m' (Or.inl ⟨padv z (psetC s1 (tN (zb z) (zn z) (pp s1))), padv_ok hZ (s := psetC s1 (tN (zb z) (zn z) (pp s1))) o1, ⟨p.1.st rfl, ?_, ?_, ?_⟩, hw1, hk1, ?_⟩)) (fun t v m' d => h v m' (LV.dead rfl (fun _ => by decide) ?_ d))
    · exact p.2.1.fr (S := fun k i => Nat.beq k 96 && decide (i = 32)) (vfr.rf.st rfl) (fun i a => Bool.eq_false_iff.mpr (fun q => by
        simp only [Bool.and_eq_true, decide_eq_true_eq] at q
        omega))
    · rw [vst_i (by decide)]; exact p.2.2.1
    · obtain ⟨a1, a2, a3, a4, a5, a6⟩ := p.2.2.2
      exact ⟨fun q => vst_s _ _ _ _, fun a x y => by rw [vst_i (by decide)]; exact a2 a x y, fun a x y w => by rw [vst_k (by decide)]; exact a3 a x y w, fun i u => by rw [vst_k (by decide)]; exact a4 i u, fun k x y => by rw [vst_k (by decide)]; exact a5 k x y, fun k x y => by rw [vst_k (by decide)]; exact a6 k x y⟩
    · rw [vif_t t] at e1; exact e1
    · rw [vif_f t] at e1; exact e1.symm
  · exact sm_numberOfD d.2.1 (fun v => h v m (LV.dead rfl (fun _ => by decide) he d))
theorem sm_stS {Q : vm_M → Prop} (hZ : ZO D z) (hT : MT z m0) (hL : LV z m0 U g c W K R (fun s => pSemi z s k) m) (h : ∀ m', LV z m0 U g c W K R k m' → Q m') : (¬ m 96 28 = 4 → vm_C 203 [vm_r 96, vm_i 0] m (vm_qv Q)) ∧ (¬ ¬ m 96 28 = 4 → vm_C 203 [vm_r 96, vm_i 1] m (vm_qv Q)) := by
  rcases hL with ⟨s, hs, hP, hw, hk, he⟩ | ⟨s, he, d⟩
  · have he : pSemi z s k = R := he
    unfold pSemi at he
    refine sm_semi hZ hT hs hP (fun t m' p => h m' (Or.inl ⟨padv z s, padv_ok hZ hs, p, hw, hk, ?_⟩)) (fun t m' d => h m' (Or.inr ⟨s, ?_, d⟩))
    · rw [vif_t t] at he; exact he
    · rw [vif_f t] at he; exact he.symm
  · exact sm_semiD d.2.1 (h m (Or.inr ⟨s, he, d⟩))
theorem sm_readBoard {Q : vm_M → Prop} (hZ : ZO D z) (hT : MT z m0) (hL : LV z m0 U g 0 W K R (fun s => pBoard z s k) m) (h : ∀ m', LV z m0 U 1 6 W K R k m' → Q m') : vm_C 207 [vm_r 96] m (vm_qv Q) := by
  unfold pBoard at hL
  refine ru11_readBoard_0 ?_
  refine sm_stWN hZ hT (c := 0) (by decide) (by unfold tkey; decide) (by decide) (fun s _ => rfl) hL (fun v1 m1 l1 => ?_)
  refine sm_stN hZ hT (c := 1) (by decide) (by decide) (fun s _ => rfl) l1 (fun v2 m2 l2 => ?_)
  refine sm_stWN hZ hT (c := 2) (by decide) (by unfold tkey; decide) (by decide) (fun s _ => rfl) l2 (fun v3 m3 l3 => ?_)
  refine sm_stWC hZ hT (c := 3) (by unfold tkey; decide) l3 (fun v4 m4 l4 => ?_)
  refine sm_stWN hZ hT (c := 3) (by decide) (by unfold tkey; decide) (by decide) (fun s p => p.2.2.2.1 (by decide)) l4 (fun v5 m5 l5 => ?_)
  refine sm_stWN hZ hT (c := 4) (by decide) (by unfold tkey; decide) (by decide) (fun s _ => rfl) l5 (fun v6 m6 l6 => ?_)
  refine sm_stWN hZ hT (c := 5) (by decide) (by unfold tkey; decide) (by decide) (fun s _ => rfl) l6 (fun v7 m7 l7 => ?_)
  exact sm_stS hZ hT l7 (fun m8 l8 => ru11_readBoard_129 (h m8 l8))
end MB
