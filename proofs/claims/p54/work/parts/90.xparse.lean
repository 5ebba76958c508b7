/-! ===== a parser's state; x's small steps ===== -/
/-- position, widths, insets, cap, numbers, corrections -/
abbrev vPS : Type := Int × (Int → Int) × (Int → Int) × Int × (Int → Int) × (Int → Int)
def pp (s : vPS) : Int := s.1
def pW (s : vPS) : Int → Int := s.2.1
def pS (s : vPS) : Int → Int := s.2.2.1
def pC (s : vPS) : Int := s.2.2.2.1
def pE (s : vPS) : Int → Int := s.2.2.2.2.1
def pK (s : vPS) : Int → Int := s.2.2.2.2.2
/-- behind the token -/
def padv (z : vZs) (s : vPS) : vPS := (tE0 (zb z) (zn z) (pp s), s.2)
def pOk (z : vZs) (s : vPS) : Prop := 0 ≤ pp s ∧ pp s ≤ zn z
def vSp (k : Nat) (_ : Int) : Bool := (Nat.ble 6 k && Nat.ble k 8) || (Nat.ble 14 k && Nat.ble k 18) || Nat.beq k 20
theorem vSp_n {k : Nat} {i : Int} (h : ¬ (6 ≤ k ∧ k ≤ 8)) (h2 : ¬ (14 ≤ k ∧ k ≤ 18)) (h3 : k ≠ 20) : vSp k i = false := Bool.eq_false_iff.mpr (fun q => by
  unfold vSp at q
  simp only [Bool.or_eq_true, Bool.and_eq_true] at q
  rcases q with (q | q) | q
  · exact h ⟨Nat.le_of_ble_eq_true q.1, Nat.le_of_ble_eq_true q.2⟩
  · exact h2 ⟨Nat.le_of_ble_eq_true q.1, Nat.le_of_ble_eq_true q.2⟩
  · exact h3 (vm_beq q))
/-- x's drafts: the insets that are laid (U), how many numbers are laid (c) -/
def PA (U : Int → Prop) (c : Int) (s : vPS) (m : vm_M) : Prop := m 6 2 = pC s ∧ m 6 3 = vs (fun a => if 0 < pW s a then 1 else 0) 26 ∧ (∀ a, 0 ≤ a → a < 26 → m 7 a = pW s a) ∧ (∀ i, U i → m 8 i = pS s i) ∧ (∀ k, 0 ≤ k → k < c → m 15 k = pE s k) ∧ (∀ k, 0 ≤ k → k < 676 → m 16 k = pK s k) ∧ m 14 4 = 0 ∧ m 14 5 = 0 ∧ m 14 6 = 0
def PX (z : vZs) (m0 : vm_M) (U : Int → Prop) (c : Int) (s : vPS) (m : vm_M) : Prop := vfr vSp m0 m ∧ TKx z (pp s) m ∧ PA U c s m
section PX
variable {D : vD} {E : Int → Int} {z : vZs} {m m' m0 : vm_M} {U : Int → Prop} {c : Int} {s : vPS}
theorem PA.fr {S : Nat → Int → Bool} (h : vfr S m m') (hs : ∀ k i, (6 ≤ k ∧ k ≤ 8) ∨ (14 ≤ k ∧ k ≤ 16) → S k i = false) (hP : PA U c s m) : PA U c s m' := by
  obtain ⟨h1, h2, h3, h4, h5, h6, h7, h8, h9⟩ := hP
  exact ⟨by rw [h _ _ (hs _ _ (by omega)), h1], by rw [h _ _ (hs _ _ (by omega)), h2], fun a b d => by rw [h _ _ (hs _ _ (by omega))]; exact h3 a b d, fun i u => by rw [h _ _ (hs _ _ (by omega))]; exact h4 i u, fun k a b => by rw [h _ _ (hs _ _ (by omega))]; exact h5 k a b, fun k a b => by rw [h _ _ (hs _ _ (by omega))]; exact h6 k a b, by rw [h _ _ (hs _ _ (by omega)), h7], by rw [h _ _ (hs _ _ (by omega)), h8], by rw [h _ _ (hs _ _ (by omega)), h9]⟩
theorem PX.T (hT : XT z m0) (hP : PX z m0 U c s m) : XT z m := hT.fr hP.1 (fun k i a => vSp_n (by omega) (by omega) (by omega))
theorem PX.st (hT : vST m0) (hP : PX z m0 U c s m) : vST m := hT.fr hP.1 (fun k i a => vSp_n (by omega) (by omega) (by omega))
theorem padv_ok (hZ : ZO D z) (hs : pOk z s) : pOk z (padv z s) := by
  have h := tok_bd hs hZ.2.1
  have h1 := hs.1
  show 0 ≤ tE0 (zb z) (zn z) (pp s) ∧ tE0 (zb z) (zn z) (pp s) ≤ zn z
  omega
/-- the next token, drafts changed meanwhile -/
theorem sx_adv {Q : vm_M → Prop} {U' : Int → Prop} {c' : Int} {s' : vPS} (hZ : ZO D z) (hT : XT z m0) (hs : pOk z s) (hP : PX z m0 U c s m) (hp : pp s' = pp s) {m1 : vm_M} (f : vfr vSp m m1) (f3 : m1 20 3 = m 20 3) (hA : PA U' c' s' m1) (h : ∀ m', PX z m0 U' c' (padv z s') m' → Q m') : vm_C 89 [vm_r 20] m1 (vm_qv Q) := by
  have f1 := hP.1.tr f
  have T1 : XT z m1 := hT.fr f1 (fun k i a => vSp_n (by omega) (by omega) (by omega))
  have ok := padv_ok hZ hs
  have e3 : m1 20 3 = pp (padv z s) := by rw [f3]; exact hP.2.1.2.2.1
  refine sx_advance hZ T1 ok e3 (fun m2 f2 k2 => h m2 ⟨f1.tr (f2.sub (fun k i hk => ?_)), ?_, hA.fr f2 (fun k i a => vTk_n (by omega))⟩)
  · have : k = 20 := vm_beq hk
    rw [this]; rfl
  · have e : pp (padv z s') = pp (padv z s) := by
      show tE0 (zb z) (zn z) (pp s') = tE0 (zb z) (zn z) (pp s)
      rw [hp]
    rw [e]; exact k2
theorem sx_passName {Q : Int → vm_M → Prop} (hZ : ZO D z) (hT : XT z m0) (hs : pOk z s) (hP : PX z m0 U c s m) {s1 l : Nat} {K : Int} (h9 : 1000 ≤ s1 ∧ s1 < 1000 + vm_sN) (hl : vm_sn s1 = (l : Int)) (hl8 : l ≤ 8) (hc : ∀ i : Int, 0 ≤ i → i < 0 + l → 97 ≤ vm_sc s1 i ∧ vm_sc s1 i ≤ 122) (hpk : tpk (vm_sc s1) 0 l = K) (h1 : tIs (zb z) (zn z) (pp s) K → ∀ m', PX z m0 U c (padv z s) m' → Q 1 m') (h0 : ¬ tIs (zb z) (zn z) (pp s) K → Q 0 m) : vm_C 74 [vm_r 19, vm_r s1] m (vm_qi Q) :=
  ru5_passName_0 (sx_isName hZ (hP.T hT) hs hP.2.1 h9 hl hl8 hc hpk (fun k => ⟨fun _ => sx_adv hZ hT hs hP rfl vfr.rf rfl hP.2.2 (fun m' p => h1 k m' p), fun x => absurd (show ¬ (1 : Int) = 0 by decide) x⟩) (fun k => ⟨fun x => absurd rfl x, fun _ => h0 k⟩))
theorem sx_passSemi {Q : Int → vm_M → Prop} (hZ : ZO D z) (hT : XT z m0) (hs : pOk z s) (hP : PX z m0 U c s m) (h1 : tKd (zb z) (zn z) (pp s) = 3 → ∀ m', PX z m0 U c (padv z s) m' → Q 1 m') (h0 : ¬ tKd (zb z) (zn z) (pp s) = 3 → Q 0 m) : vm_C 76 [vm_r 19] m (vm_qi Q) := by
  refine ru5_passSemicolon_0 ?_
  rw [hP.2.1.1]
  exact ⟨fun k => sx_adv hZ hT hs hP rfl vfr.rf rfl hP.2.2 (fun m' p => h1 k m' p), fun k => h0 k⟩
/-- a number in its range -/
def tNr (b : Int → Int) (n p lo hi : Int) : Prop := tKd b n p = 2 ∧ lo ≤ tN b n p ∧ tN b n p ≤ hi
theorem sx_isNumber {Q : Int → vm_M → Prop} (hP : PX z m0 U c s m) {lo hi : Int} (h1 : tNr (zb z) (zn z) (pp s) lo hi → m 20 4 = tN (zb z) (zn z) (pp s) → Q 1 m) (h0 : ¬ tNr (zb z) (zn z) (pp s) lo hi → Q 0 m) : vm_C 91 [vm_r 20, vm_i lo, vm_i hi] m (vm_qi Q) := by
  obtain ⟨-, ⟨k1, k2, k3, k4⟩, -⟩ := hP
  refine ru8_isNumber_0 ?_
  rw [k1]
  refine ⟨fun q => h0 (fun x => q x.1), fun q => ?_⟩
  have q := Decidable.not_not.mp q
  rw [k4 q]
  exact ⟨fun q2 => h0 (fun x => by have := x.2.1; omega), fun q2 => ⟨fun q3 => h0 (fun x => by have := x.2.2; omega), fun q3 => h1 ⟨q, by omega, by omega⟩ (k4 q)⟩⟩
def psetC (s : vPS) (v : Int) : vPS := (pp s, pW s, pS s, v, pE s, pK s)
def psetE (s : vPS) (k v : Int) : vPS := (pp s, pW s, pS s, pC s, (fun i => if i = k then v else pE s i), pK s)
theorem sx_readCap {Q : Int → vm_M → Prop} (hZ : ZO D z) (hT : XT z m0) (hs : pOk z s) (hP : PX z m0 U c s m) (h1 : tNr (zb z) (zn z) (pp s) 1 30 → ∀ m', PX z m0 U c (padv z (psetC s (tN (zb z) (zn z) (pp s)))) m' → Q 1 m') (h0 : ¬ tNr (zb z) (zn z) (pp s) 1 30 → Q 0 m) : vm_C 70 [vm_r 19] m (vm_qi Q) := by
  refine ru5_readCap_0 (sx_isNumber hP (fun k e => ⟨fun _ => ?_, fun x => absurd (show ¬ (1 : Int) = 0 by decide) x⟩) (fun k => ⟨fun x => absurd rfl x, fun _ => h0 k⟩))
  rw [e]
  obtain ⟨a1, a2, a3, a4, a5, a6, a7, a8, a9⟩ := hP.2.2
  refine sx_adv hZ hT hs hP (s' := psetC s (tN (zb z) (zn z) (pp s))) (U' := U) (c' := c) rfl (vfr.rf.st rfl) (vst_k (by decide)) ⟨vst_s _ _ _ _, by rw [vst_i (by decide)]; exact a2, fun a b d => by rw [vst_k (by decide)]; exact a3 a b d, fun i u => by rw [vst_k (by decide)]; exact a4 i u, fun k a b => by rw [vst_k (by decide)]; exact a5 k a b, fun k a b => by rw [vst_k (by decide)]; exact a6 k a b, by rw [vst_k (by decide)]; exact a7, by rw [vst_k (by decide)]; exact a8, by rw [vst_k (by decide)]; exact a9⟩ (fun m' p => h1 k m' p)
end PX
