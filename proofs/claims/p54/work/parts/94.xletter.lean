/-! ===== x reads a letter ===== -/
def tLt (b : Int → Int) (n p : Int) : Int := if tKd b n p = 1 ∧ tE0 b n p - tF b n p = 1 then b (tF b n p) - 97 else -1
def psetW (s : vPS) (a v : Int) : vPS := (pp s, (fun i => if i = a then v else pW s i), pS s, pC s, pE s, pK s)
noncomputable def pLetter (z : vZs) (s : vPS) (k : vPS → vRS) : vRS := pName z 408572082 s fun s => vif (¬ tLt (zb z) (zn z) (pp s) = -1 ∧ ¬ 0 < pW s (tLt (zb z) (zn z) (pp s))) (pName z 763013 (padv z s) fun s2 => vif (tNr (zb z) (zn z) (pp s2) 1 60) (pName z 398548 (padv z (psetW s2 (tLt (zb z) (zn z) (pp s)) (tN (zb z) (zn z) (pp s2)))) fun s3 => pSide z (tLt (zb z) (zn z) (pp s)) 0 6 0 s3 fun s4 => pName z 19176724 s4 fun s5 => pSide z (tLt (zb z) (zn z) (pp s)) 1 6 0 s5 fun s6 => pSemi z s6 k) (pErr z s2)) (pErr z s)
theorem vs_upd {f g : Int → Int} {a : Int} (ha : 0 ≤ a) (hf : f a = 0) (hg : g a = 1) (ho : ∀ i, i ≠ a → g i = f i) : ∀ n : Nat, vs g n = vs f n + (if a < n then 1 else 0)
  | 0 => by
    rw [if_neg (by omega)]; rfl
  | n + 1 => by
    have i := vs_upd ha hf hg ho n
    show vs g n + g (n : Int) = vs f n + f (n : Int) + _
    rw [i]
    by_cases q : (n : Int) = a
    · rw [q, hf, hg, if_neg (by omega), if_pos (by omega)]
    · rw [ho _ q]
      by_cases q2 : a < n
      · rw [if_pos q2, if_pos (by omega)]; omega
      · rw [if_neg q2, if_neg (by omega)]; omega
section XL
variable {D : vD} {E : Int → Int} {z : vZs} {m m' m0 : vm_M} {U : Int → Prop} {c : Int} {s : vPS} {Q : Int → vm_M → Prop} {k : vPS → vRS} {R : vRS}
theorem tLt_bd (hZ : ZO D z) {p : Int} (hp : 0 ≤ p ∧ p ≤ zn z) (h : ¬ tLt (zb z) (zn z) p = -1) : 0 ≤ tLt (zb z) (zn z) p ∧ tLt (zb z) (zn z) p < 26 := by
  unfold tLt at h ⊢
  by_cases q : tKd (zb z) (zn z) p = 1 ∧ tE0 (zb z) (zn z) p - tF (zb z) (zn z) p = 1
  · rw [if_pos q]
    have := (tok_let hZ hp q.1).2 _ (Int.le_refl _) (by omega)
    omega
  · rw [if_neg q] at h; exact absurd rfl h
theorem sx_asLetter (hZ : ZO D z) (hT : XT z m0) (hs : pOk z s) (hP : PX z m0 U c s m) (h : Q (tLt (zb z) (zn z) (pp s)) m) : vm_C 92 [vm_r 20] m (vm_qi Q) := by
  have hN := hZ.1
  have htk := tok_bd hs hZ.2.1
  have hs1 := hs.1
  have hs2 := hs.2
  unfold tLt at h
  refine ru8_asLetter_0 ?_
  rw [hP.2.1.1, hP.2.1.2.1, hP.2.1.2.2.1]
  refine ⟨fun q => ?_, fun q => ⟨by omega, fun q2 => ?_, fun q2 => sx_byteAt hZ (hP.T hT) ?_⟩⟩
  · rw [if_neg (fun x => q x.1)] at h; exact h
  · rw [if_neg (fun x => q2 x.2)] at h; exact h
  · have qk := Decidable.not_not.mp q
    have q1 := Decidable.not_not.mp q2
    have hl := (tok_let hZ hs qk).2 _ (Int.le_refl _) (by omega)
    rw [if_pos ⟨qk, q1⟩] at h
    have := htk.2.2.1
    have := hs.1
    have := htk.1
    rw [show tb (zb z) (zn z) (tF (zb z) (zn z) (pp s)) = zb z (tF (zb z) (zn z) (pp s)) from if_pos ⟨by omega, by omega⟩]
    exact ⟨by omega, h⟩
theorem sx_knowsD (hP : PX z m0 U c s m) {a : Int} (ha : 0 ≤ a ∧ a < 26) (h1 : 0 < pW s a → Q 1 m) (h0 : ¬ 0 < pW s a → Q 0 m) : vm_C 3 [vm_r 6, vm_i a] m (vm_qi Q) := by
  have e := hP.2.2.2.2.1 a ha.1 ha.2
  refine ru0_knows_0 rfl ⟨fun q => by omega, fun _ => ⟨fun q => by omega, fun _ => ⟨ha, ?_⟩⟩⟩
  rw [show m (6 + 1) a = pW s a from e]
  exact ⟨fun q => h0 (by omega), fun q => h1 (by omega)⟩
/-- a letter told, then on -/
theorem sx_tell {Q : vm_M → Prop} (hZ : ZO D z) (hT : XT z m0) (hs : pOk z s) (hP : PX z m0 U c s m) {a v : Int} (ha : 0 ≤ a ∧ a < 26) (hv : 1 ≤ v) (hn : ¬ 0 < pW s a) (h : ∀ m', PX z m0 U c (padv z (psetW s a v)) m' → Q m') : vm_C 4 [vm_r 6, vm_i a, vm_i v] m (vm_qv (fun m3 => vm_C 89 [vm_r 20] m3 (vm_qv Q))) := by
  obtain ⟨a1, a2, a3, a4, a5, a6, a7, a8, a9⟩ := hP.2.2
  have hb := vs_bd (f := fun a => if 0 < pW s a then 1 else 0) (lo := 0) (hi := 1) 26 (fun i _ _ => by split <;> decide)
  have e3 : vm_st m (6 + 1) a v 6 3 = vs (fun a => if 0 < pW s a then 1 else 0) 26 := by rw [vst_k (by decide)]; exact a2
  refine ru0_tell_0 rfl ?_
  rw [e3]
  have hu := vs_upd (f := fun i => if 0 < pW s i then 1 else 0) (g := fun i => if 0 < pW (psetW s a v) i then 1 else 0) (a := a) ha.1 (if_neg hn) (if_pos (by show 0 < (if a = a then v else pW s a); rw [if_pos rfl]; omega)) (fun i hi => by
    show (if 0 < (if i = a then v else pW s i) then (1 : Int) else 0) = if 0 < pW s i then 1 else 0
    rw [if_neg hi]) 26
  rw [if_pos (by omega)] at hu
  refine ⟨⟨ha, by omega⟩, ?_⟩
  refine sx_adv hZ hT hs hP (s' := psetW s a v) (U' := U) (c' := c) rfl ((vfr.rf.st rfl).st rfl) (by rw [vst_k (by decide), vst_k (by decide)]) ⟨by rw [vst_i (by decide), vst_k (by decide)]; exact a1, by rw [vst_s]; exact hu.symm, fun b x y => ?_, fun i u => by rw [vst_k (by decide), vst_k (by decide)]; exact a4 i u, fun k a b => by rw [vst_k (by decide), vst_k (by decide)]; exact a5 k a b, fun k a b => by rw [vst_k (by decide), vst_k (by decide)]; exact a6 k a b, by rw [vst_k (by decide), vst_k (by decide)]; exact a7, by rw [vst_k (by decide), vst_k (by decide)]; exact a8, by rw [vst_k (by decide), vst_k (by decide)]; exact a9⟩ h
  rw [vst_k (by decide)]
  show vm_st m 7 a v 7 b = if b = a then v else pW s b
  rw [vst_if]
  split
  · rfl
  · exact a3 b x y
end XL
