/-! ===== x reads numbers and sides ===== -/
def plo (k : Int) : Int := if k = 0 then 10 else if k = 1 then 1 else if k = 5 then 1 else 0
def phi (C k : Int) : Int := if k = 3 then C else if k = 0 then 9999 else if k = 1 then 9999 else if k = 5 then 9 else 99
section PY
variable {D : vD} {E : Int → Int} {z : vZs} {m m' m0 : vm_M} {U : Int → Prop} {c : Int} {s : vPS}
theorem plo_st (hT : vST m) {k : Int} (hk : 0 ≤ k ∧ k < 6) (C : Int) : m 900 k = plo k ∧ (¬ k = 3 → m 901 k = phi C k) := by
  obtain ⟨⟨a0, a1, a2, a3, a4, a5⟩, ⟨b0, b1, b2, b3, b4, b5⟩⟩ := hT
  have : k = 0 ∨ k = 1 ∨ k = 2 ∨ k = 3 ∨ k = 4 ∨ k = 5 := by omega
  rcases this with q | q | q | q | q | q <;> subst q
  · exact ⟨a0, fun _ => b0⟩
  · exact ⟨a1, fun _ => b1⟩
  · exact ⟨a2, fun _ => b2⟩
  · exact ⟨a3, fun x => absurd rfl x⟩
  · exact ⟨a4, fun _ => b4⟩
  · exact ⟨a5, fun _ => b5⟩
theorem sx_readNumber {Q : Int → vm_M → Prop} (hZ : ZO D z) (hT : XT z m0) (hS : vST m0) (hs : pOk z s) (hP : PX z m0 U c s m) (hc : 0 ≤ c ∧ c < 6) (h1 : tNr (zb z) (zn z) (pp s) (plo c) (phi (pC s) c) → ∀ m', PX z m0 U (c + 1) (padv z (psetE s c (tN (zb z) (zn z) (pp s)))) m' → Q 1 m') (h0 : ¬ tNr (zb z) (zn z) (pp s) (plo c) (phi (pC s) c) → Q 0 m) : vm_C 69 [vm_r 19, vm_i c] m (vm_qi Q) := by
  have st := plo_st (hP.st hS) hc (pC s)
  obtain ⟨a1, a2, a3, a4, a5, a6, a7, a8, a9⟩ := hP.2.2
  have fin : tNr (zb z) (zn z) (pp s) (plo c) (phi (pC s) c) → vm_C 89 [vm_r 20] (vm_st m 15 c (tN (zb z) (zn z) (pp s))) (vm_qv (fun m2 => Q 1 m2)) := fun k => by
    refine sx_adv hZ hT hs hP (s' := psetE s c (tN (zb z) (zn z) (pp s))) (U' := U) (c' := c + 1) rfl (vfr.rf.st rfl) (vst_k (by decide)) ⟨by rw [vst_k (by decide)]; exact a1, by rw [vst_k (by decide)]; exact a2, fun a b d => by rw [vst_k (by decide)]; exact a3 a b d, fun i u => by rw [vst_k (by decide)]; exact a4 i u, fun k a b => ?_, fun k a b => by rw [vst_k (by decide)]; exact a6 k a b, by rw [vst_k (by decide)]; exact a7, by rw [vst_k (by decide)]; exact a8, by rw [vst_k (by decide)]; exact a9⟩ (fun m' p => h1 k m' p)
    show vm_st m 15 c (tN (zb z) (zn z) (pp s)) 15 k = if k = c then tN (zb z) (zn z) (pp s) else pE s k
    rw [vst_if]
    split
    · rfl
    · exact a5 k a (by omega)
  refine ru5_readNumber_0 ⟨fun q => ⟨⟨hc, hc⟩, ?_⟩, fun q => ⟨hc, ?_⟩⟩
  · rw [st.1, st.2 q]
    refine sx_isNumber hP (fun k e => ⟨fun _ => ⟨hc, ?_⟩, fun x => absurd (show ¬ (1 : Int) = 0 by decide) x⟩) (fun k => ⟨fun x => absurd rfl x, fun _ => h0 k⟩)
    rw [e]; exact fin k
  · rw [st.1, a1]
    have e3 : phi (pC s) c = pC s := if_pos (Decidable.not_not.mp q)
    rw [e3] at h0 fin
    refine sx_isNumber hP (fun k e => ⟨fun _ => ⟨hc, ?_⟩, fun x => absurd (show ¬ (1 : Int) = 0 by decide) x⟩) (fun k => ⟨fun x => absurd rfl x, fun _ => h0 k⟩)
    rw [e]; exact fin k
def psetS (s : vPS) (i v : Int) : vPS := (pp s, pW s, (fun j => if j = i then v else pS s j), pC s, pE s, pK s)
/-- one inset laid, then on -/
theorem sx_laySide {Q : vm_M → Prop} (hZ : ZO D z) (hT : XT z m0) (hs : pOk z s) (hP : PX z m0 U c s m) {a r b v : Int} (ha : 0 ≤ a ∧ a < 26) (hr : r = 0 ∨ r = 1) (hb : 0 ≤ b ∧ b < 6) (h : ∀ m', PX z m0 (fun i => U i ∨ i = 12 * a + 6 * r + b) c (padv z (psetS s (12 * a + 6 * r + b) v)) m' → Q m') : vm_C 5 [vm_r 6, vm_i a, vm_i r, vm_i b, vm_i v] m (vm_qv (fun m3 => vm_C 89 [vm_r 20] m3 (vm_qv Q))) := by
  obtain ⟨a1, a2, a3, a4, a5, a6, a7, a8, a9⟩ := hP.2.2
  have fin : ∀ i, i = 12 * a + 6 * r + b → vm_C 89 [vm_r 20] (vm_st m (6 + 2) i v) (vm_qv Q) := fun i hi => by
    subst hi
    refine sx_adv hZ hT hs hP (s' := psetS s (12 * a + 6 * r + b) v) (U' := fun i => U i ∨ i = 12 * a + 6 * r + b) (c' := c) rfl (vfr.rf.st rfl) (vst_k (by decide)) ⟨by rw [vst_k (by decide)]; exact a1, by rw [vst_k (by decide)]; exact a2, fun a b d => by rw [vst_k (by decide)]; exact a3 a b d, fun i u => ?_, fun k a b => by rw [vst_k (by decide)]; exact a5 k a b, fun k a b => by rw [vst_k (by decide)]; exact a6 k a b, by rw [vst_k (by decide)]; exact a7, by rw [vst_k (by decide)]; exact a8, by rw [vst_k (by decide)]; exact a9⟩ h
    show vm_st m 8 (12 * a + 6 * r + b) v 8 i = if i = 12 * a + 6 * r + b then v else pS s i
    rw [vst_if]
    by_cases q : i = 12 * a + 6 * r + b
    · rw [if_pos q, if_pos q]
    · rw [if_neg q, if_neg q]
      rcases u with u | u
      · exact a4 i u
      · exact absurd u q
  refine ru0_setInset_0 rfl ⟨by omega, fun q => ⟨by omega, fin _ (by omega)⟩, fun q => ⟨by omega, fin _ (by omega)⟩⟩
end PY
