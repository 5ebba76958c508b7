/-! ===== a pair, all letters, all pairs, all of a setup; x reads a pair ===== -/
def psetK (s : vPS) (i v : Int) : vPS := (pp s, pW s, pS s, pC s, pE s, fun j => if j = i then v else pK s j)
/-- a letter that can stand in a pair -/
def pKn (s : vPS) (a : Int) : Prop := 0 ≤ a ∧ a < 26 ∧ 0 < pW s a
noncomputable def pBy (z : vZs) (i : Int) (f : Int → Int) (s : vPS) (k : vPS → vRS) : vRS := vif (tNr (zb z) (zn z) (pp s) 0 9) (pSemi z (padv z (psetK s i (f (tN (zb z) (zn z) (pp s))))) k) (pErr z s)
noncomputable def pPair3 (z : vZs) (i : Int) (s : vPS) (k : vPS → vRS) : vRS := vif (tIs (zb z) (zn z) (pp s) 113757362) (pBy z i (fun n => -n) (padv z s) k) (pName z 24416434 s fun s2 => pBy z i (fun n => n) s2 k)
noncomputable def pPair2 (z : vZs) (a : Int) (s : vPS) (k : vPS → vRS) : vRS := vif (pKn s (tLt (zb z) (zn z) (pp s))) (pPair3 z (26 * a + tLt (zb z) (zn z) (pp s)) (padv z s) k) (pErr z s)
noncomputable def pPair1 (z : vZs) (s : vPS) (k : vPS → vRS) : vRS := vif (pKn s (tLt (zb z) (zn z) (pp s))) (pPair2 z (tLt (zb z) (zn z) (pp s)) (padv z s) k) (pErr z s)
noncomputable def pPair (z : vZs) (s : vPS) (k : vPS → vRS) : vRS := pName z 525618 s fun s1 => pPair1 z s1 k
theorem nm_11 : nmOk (1000 + 11) 4 525618 := ⟨by decide, by decide +kernel, by decide, by decide +kernel, by decide +kernel⟩
theorem nm_12 : nmOk (1000 + 12) 6 113757362 := ⟨by decide, by decide +kernel, by decide, by decide +kernel, by decide +kernel⟩
theorem nm_13 : nmOk (1000 + 13) 5 24416434 := ⟨by decide, by decide +kernel, by decide, by decide +kernel, by decide +kernel⟩
section XQ
variable {D : vD} {E : Int → Int} {z : vZs} {m m' m0 : vm_M} {U : Int → Prop} {c : Int} {s : vPS} {Q : Int → vm_M → Prop} {k : vPS → vRS} {R : vRS}
theorem sx_passLetter (hZ : ZO D z) (hT : XT z m0) (hs : pOk z s) (hP : PX z m0 U c s m) {a : Int} (h1 : pKn s a → ∀ m', PX z m0 U c (padv z s) m' → Q 1 m') (h0 : ¬ pKn s a → Q 0 m) : vm_C 75 [vm_r 19, vm_i a] m (vm_qi Q) := by
  refine ru5_passLetter_0 (ru0_knows_0 rfl ⟨fun q => ⟨fun x => absurd rfl x, fun _ => h0 (fun x => by have := x.1; omega)⟩, fun q => ⟨fun q2 => ⟨fun x => absurd rfl x, fun _ => h0 (fun x => by have := x.2.1; omega)⟩, fun q2 => ⟨⟨by omega, by omega⟩, ?_⟩⟩⟩)
  rw [show m (6 + 1) a = pW s a from hP.2.2.2.2.1 a (by omega) (by omega)]
  exact ⟨fun q3 => ⟨fun x => absurd rfl x, fun _ => h0 (fun x => by have := x.2.2; omega)⟩, fun q3 => ⟨fun _ => sx_adv hZ hT hs hP rfl vfr.rf rfl hP.2.2 (fun m' p => h1 ⟨by omega, by omega, by omega⟩ m' p), fun x => absurd (show ¬ (1 : Int) = 0 by decide) x⟩⟩
theorem sx_by (hZ : ZO D z) (hT : XT z m0) (hs : pOk z s) (hP : PX z m0 U c s m) (hL : pLd U s) {a b z6 : Int} {f : Int → Int} (ha : 0 ≤ a ∧ a < 26) (hb : 0 ≤ b ∧ b < 26) (hf : ∀ n, f n = if z6 = 0 then n else -n) (he : pBy z (26 * a + b) f s k = R) (h0 : ∀ s' m', PX z m0 U c s' m' → R = pErr z s' → Q 0 m') (h1 : ∀ s' m', pOk z s' → PX z m0 U c s' m' → pLd U s' → k s' = R → Q 1 m') : vm_C 91 [vm_r 20, vm_i 0, vm_i 9] m (vm_qi (fun z8 m8 =>
    ((¬ z8 = 0 → ((vm_32 (a * 26)) ∧ (vm_32 ((a * 26) + b))) ∧
      ((z6 = 0 → ((0 ≤ ((a * 26) + b) ∧ ((a * 26) + b) < 676)) ∧
        (vm_C 89 [vm_r 20] (vm_st m8 16 ((a * 26) + b) (m8 20 4)) (vm_qv (fun m9 => (vm_C 76 [vm_r 19] m9 (vm_qi (fun z10 m10 => ((z10 = 0 ∨ z10 = 1)) ∧ Q z10 m10))))))) ∧
       (¬ z6 = 0 → ((vm_32 (-(m8 20 4))) ∧ (0 ≤ ((a * 26) + b) ∧ ((a * 26) + b) < 676)) ∧
        (vm_C 89 [vm_r 20] (vm_st m8 16 ((a * 26) + b) (-(m8 20 4))) (vm_qv (fun m11 => (vm_C 76 [vm_r 19] m11 (vm_qi (fun z12 m12 => ((z12 = 0 ∨ z12 = 1)) ∧ Q z12 m12))))))))) ∧
     (¬ ¬ z8 = 0 → Q 0 m8)))) := by
  unfold pBy at he
  obtain ⟨a1, a2, a3, a4, a5, a6, a7, a8, a9⟩ := hP.2.2
  have ei : a * 26 + b = 26 * a + b := by omega
  have fin : ∀ v, v = f (tN (zb z) (zn z) (pp s)) → tNr (zb z) (zn z) (pp s) 0 9 → vm_C 89 [vm_r 20] (vm_st m 16 (26 * a + b) v) (vm_qv (fun m9 => (vm_C 76 [vm_r 19] m9 (vm_qi (fun z10 m10 => ((z10 = 0 ∨ z10 = 1)) ∧ Q z10 m10))))) := fun v hv t => by
    rw [vif_t t] at he
    subst hv
    refine sx_adv hZ hT hs hP (s' := psetK s (26 * a + b) (f (tN (zb z) (zn z) (pp s)))) (U' := U) (c' := c) rfl (vfr.rf.st rfl) (vst_k (by decide)) ⟨by rw [vst_k (by decide)]; exact a1, by rw [vst_k (by decide)]; exact a2, fun a b d => by rw [vst_k (by decide)]; exact a3 a b d, fun i u => by rw [vst_k (by decide)]; exact a4 i u, fun k a b => by rw [vst_k (by decide)]; exact a5 k a b, fun k x y => ?_, by rw [vst_k (by decide)]; exact a7, by rw [vst_k (by decide)]; exact a8, by rw [vst_k (by decide)]; exact a9⟩ (fun m' p => ?_)
    · show vm_st m 16 (26 * a + b) (f (tN (zb z) (zn z) (pp s))) 16 k = if k = 26 * a + b then f (tN (zb z) (zn z) (pp s)) else pK s k
      rw [vst_if]
      split
      · rfl
      · exact a6 k x y
    · have o1 : pOk z (padv z (psetK s (26 * a + b) (f (tN (zb z) (zn z) (pp s))))) := padv_ok hZ (s := psetK s (26 * a + b) (f (tN (zb z) (zn z) (pp s)))) hs
      have L1 : pLd U (padv z (psetK s (26 * a + b) (f (tN (zb z) (zn z) (pp s))))) := hL
      generalize padv z (psetK s (26 * a + b) (f (tN (zb z) (zn z) (pp s)))) = s1 at *
      unfold pSemi at he
      refine sx_passSemi hZ hT o1 p (fun t2 m2 p2 => ⟨Or.inr rfl, h1 _ m2 (padv_ok hZ o1) p2 L1 ?_⟩) (fun t2 => ⟨Or.inl rfl, h0 _ m' p ?_⟩)
      · rw [vif_t t2] at he; exact he
      · rw [vif_f t2] at he; exact he.symm
  refine sx_isNumber hP (fun t e => ⟨fun _ => ?_, fun x => absurd (show ¬ (1 : Int) = 0 by decide) x⟩) (fun t => ⟨fun x => absurd rfl x, fun _ => h0 _ _ hP ?_⟩)
  · have t1 := t.2.1
    have t2 := t.2.2
    rw [e, ei]
    refine ⟨⟨by omega, by omega⟩, fun q => ⟨by omega, fin _ ?_ t⟩, fun q => ⟨⟨by omega, by omega⟩, fin _ ?_ t⟩⟩
    · rw [hf, if_pos q]
    · rw [hf, if_neg q]
  · rw [vif_f t] at he; exact he.symm
theorem sx_readPair (hZ : ZO D z) (hT : XT z m0) (hs : pOk z s) (hP : PX z m0 U c s m) (hL : pLd U s) (he : pPair z s k = R) (h0 : ∀ s' m', PX z m0 U c s' m' → R = pErr z s' → Q 0 m') (h1 : ∀ s' m', pOk z s' → PX z m0 U c s' m' → pLd U s' → k s' = R → Q 1 m') : vm_C 73 [vm_r 19] m (vm_qi Q) := by
  unfold pPair at he
  rw [pName_eq] at he
  refine ru5_readPair_0 (sx_passName hZ hT hs hP nm_11.1 nm_11.2.1 nm_11.2.2.1 (nm_c nm_11.2.2.2.1) nm_11.2.2.2.2 (fun t m1 p1 => ⟨fun _ => ?_, fun x => absurd (show ¬ (1 : Int) = 0 by decide) x⟩) (fun t => ⟨fun x => absurd rfl x, fun _ => ?_⟩))
  · rw [vif_t t] at he
    try dsimp only at he
    have o1 := padv_ok hZ hs
    have L1 : pLd U (padv z s) := hL
    generalize padv z s = s1 at *
    unfold pPair1 at he
    refine sx_asLetter hZ hT o1 p1 (sx_passLetter hZ hT o1 p1 (fun t2 m2 p2 => ⟨fun _ => ?_, fun x => absurd (show ¬ (1 : Int) = 0 by decide) x⟩) (fun t2 => ⟨fun x => absurd rfl x, fun _ => ?_⟩))
    · rw [vif_t t2] at he
      have a2 := t2
      generalize tLt (zb z) (zn z) (pp s1) = a at *
      have ha : 0 ≤ a ∧ a < 26 := ⟨a2.1, a2.2.1⟩
      have o2 := padv_ok hZ o1
      have L2 : pLd U (padv z s1) := L1
      generalize padv z s1 = s2 at *
      unfold pPair2 at he
      refine sx_asLetter hZ hT o2 p2 (sx_passLetter hZ hT o2 p2 (fun t3 m3 p3 => ⟨fun _ => ?_, fun x => absurd (show ¬ (1 : Int) = 0 by decide) x⟩) (fun t3 => ⟨fun x => absurd rfl x, fun _ => ?_⟩))
      · rw [vif_t t3] at he
        have b2 := t3
        generalize tLt (zb z) (zn z) (pp s2) = b at *
        have hb : 0 ≤ b ∧ b < 26 := ⟨b2.1, b2.2.1⟩
        have o3 := padv_ok hZ o2
        have L3 : pLd U (padv z s2) := L2
        generalize padv z s2 = s3 at *
        unfold pPair3 at he
        refine sx_isName hZ (p3.T hT) o3 p3.2.1 nm_12.1 nm_12.2.1 nm_12.2.2.1 (nm_c nm_12.2.2.2.1) nm_12.2.2.2.2 (fun t4 => ⟨fun x => absurd x (by decide), fun _ => ?_⟩) (fun t4 => ⟨fun _ => ?_, fun x => absurd rfl x⟩)
        · rw [vif_t t4] at he
          refine sx_passName hZ hT o3 p3 nm_12.1 nm_12.2.1 nm_12.2.2.1 (nm_c nm_12.2.2.2.1) nm_12.2.2.2.2 (fun _ m4 p4 => ⟨fun x => absurd x (by decide), fun _ => ?_⟩) (fun n => absurd t4 n)
          exact sx_by hZ hT (padv_ok hZ o3) p4 (z6 := 1) (f := fun n => -n) (show pLd U (padv z s3) from L3) ha hb (fun n => (if_neg (by decide)).symm) he h0 h1
        · rw [vif_f t4, pName_eq] at he
          refine sx_passName hZ hT o3 p3 nm_13.1 nm_13.2.1 nm_13.2.2.1 (nm_c nm_13.2.2.2.1) nm_13.2.2.2.2 (fun t5 m4 p4 => ⟨fun x => absurd x (by decide), fun _ => ?_⟩) (fun t5 => ⟨fun _ => ?_, fun x => absurd rfl x⟩)
          · rw [vif_t t5] at he
            exact sx_by hZ hT (padv_ok hZ o3) p4 (z6 := 0) (f := fun n => n) (show pLd U (padv z s3) from L3) ha hb (fun n => (if_pos rfl).symm) he h0 h1
          · rw [vif_f t5] at he
            exact h0 _ _ p3 he.symm
      · rw [vif_f t3] at he
        exact h0 _ _ p2 he.symm
    · rw [vif_f t2] at he
      exact h0 _ _ p1 he.symm
  · rw [vif_f t] at he
    exact h0 _ _ hP he.symm
end XQ
