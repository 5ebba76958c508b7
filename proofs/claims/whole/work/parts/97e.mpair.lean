/-! ===== the model reads a pair ===== -/
section MQ
variable {D : vD} {E : Int → Int} {z : vZs} {m m' m0 : vm_M} {U : Int → Prop} {g c : Int} {W K : Int → Int} {s : vPS} {k : vPS → vRS} {R : vRS} {Q : vm_M → Prop}
theorem sm_p134 (h31 : m 96 31 = 0) (h : Q m) {v1 v2 v3 v4 : Int} : ku11_readPair_134 v1 v2 v3 v4 m Q := ru11_readPair_134 ⟨fun _ => h, fun x => absurd h31 x⟩
theorem sm_p108 (h31 : m 96 31 = 0) (h : Q m) {v1 v2 v3 : Int} {w4 : Option vm_V} : ku11_readPair_108 v1 v2 v3 w4 m Q := ru11_readPair_108 (sm_numberD h31 (fun _ => sm_semiD h31 (sm_p134 h31 h)))
theorem sm_p77 (h31 : m 96 31 = 0) (h : Q m) {v1 v2 : Int} {w3 w4 : Option vm_V} : ku11_readPair_77 v1 v2 w3 w4 m Q := ru11_readPair_77 (sm_isWordD h31 ⟨fun x => absurd rfl x, fun _ => sm_isWordD h31 ⟨fun _ => sm_takesD h31 (sm_p108 h31 h), fun x => absurd rfl x⟩⟩)
theorem sm_p44 (h31 : m 96 31 = 0) (h : Q m) {v1 : Int} {w2 w3 w4 : Option vm_V} : ku11_readPair_44 v1 w2 w3 w4 m Q := ru11_readPair_44 ⟨fun _ => sm_takesD h31 (sm_p77 h31 h), fun _ => sm_isToldD (fun _ => ⟨fun _ => sm_takesD h31 (sm_p77 h31 h), fun _ => sm_takesD h31 (sm_p77 h31 h)⟩)⟩
theorem sm_p11 (h31 : m 96 31 = 0) (h : Q m) {w1 w2 w3 w4 : Option vm_V} : ku11_readPair_11 w1 w2 w3 w4 m Q := ru11_readPair_11 ⟨fun _ => sm_takesD h31 (sm_p44 h31 h), fun _ => sm_isToldD (fun _ => ⟨fun _ => sm_takesD h31 (sm_p44 h31 h), fun _ => sm_takesD h31 (sm_p44 h31 h)⟩)⟩
theorem padv_le (hZ : ZO D z) (hs : pOk z s) : pp s ≤ pp (padv z s) := by
  have h := tok_bd hs hZ.2.1
  show pp s ≤ tE0 (zb z) (zn z) (pp s)
  omega
theorem padv_lt (hZ : ZO D z) (hs : pOk z s) (h : tKd (zb z) (zn z) (pp s) = 1) : pp s < pp (padv z s) := by
  have h1 := tok_bd hs hZ.2.1
  have h2 := (tok_let hZ hs h).1
  show pp s < tE0 (zb z) (zn z) (pp s)
  omega
theorem sm_by (hZ : ZO D z) (hT : MT z m0) (hs : pOk z s) (hP : PM z m0 U g c W K s m) (hw : pW s = W) (hk : pK s = K) (hL : pLd U s) {a b v3 : Int} {w4 : Option vm_V} {f : Int → Int} (ha : 0 ≤ a ∧ a < 26) (hb : 0 ≤ b ∧ b < 26) (hf : ∀ n, f n = if v3 = 0 then n else -n) (he : pBy z (26 * a + b) f s k = R) (h0 : ∀ s' m', R = pErr z s' → DD m0 (tF (zb z) (zn z) (pp s')) m' → Q m') (h1 : ∀ s' m', pOk z s' → PM z m0 U g c W (pK s') s' m' → pW s' = W → pLd U s' → pp s ≤ pp s' → k s' = R → Q m') : ku11_readPair_108 a b v3 w4 m Q := by
  unfold pBy at he
  refine ru11_readPair_108 (sm_number hZ hT hs hP (fun t m1 p1 => ?_) (fun t v m1 d => sm_semiD d.2.1 (sm_p134 d.2.1 (h0 s _ ?_ d))))
  · rw [vif_t t] at he
    have p1' : PM z m0 U g c W K (padv z (psetK s (26 * a + b) (f (tN (zb z) (zn z) (pp s))))) m1 := p1
    have o1 : pOk z (padv z (psetK s (26 * a + b) (f (tN (zb z) (zn z) (pp s))))) := padv_ok hZ (s := psetK s (26 * a + b) (f (tN (zb z) (zn z) (pp s)))) hs
    have hw1 : pW (padv z (psetK s (26 * a + b) (f (tN (zb z) (zn z) (pp s))))) = W := hw
    have hk1 : pK (padv z (psetK s (26 * a + b) (f (tN (zb z) (zn z) (pp s))))) = fun j => if j = 26 * a + b then f (tN (zb z) (zn z) (pp s)) else K j := by rw [← hk]; rfl
    have L1 : pLd U (padv z (psetK s (26 * a + b) (f (tN (zb z) (zn z) (pp s))))) := hL
    have le1 : pp s ≤ pp (padv z (psetK s (26 * a + b) (f (tN (zb z) (zn z) (pp s))))) := padv_le hZ (s := psetK s (26 * a + b) (f (tN (zb z) (zn z) (pp s)))) hs
    obtain ⟨-, t1, t2⟩ := t
    clear p1
    generalize padv z (psetK s (26 * a + b) (f (tN (zb z) (zn z) (pp s)))) = s1 at *
    generalize tN (zb z) (zn z) (pp s) = v at *
    unfold pSemi at he
    refine sm_semi hZ hT o1 p1' (fun t3 m3 p3 => ?_) (fun t3 m3 d => sm_p134 d.2.1 (h0 s1 _ ?_ d))
    · rw [vif_t t3] at he
      have le2 := padv_le hZ o1
      have o3 := padv_ok hZ o1
      have hw3 : pW (padv z s1) = W := hw1
      have hk3 : pK (padv z s1) = fun j => if j = 26 * a + b then f v else K j := hk1
      have L3 : pLd U (padv z s1) := L1
      generalize padv z s1 = s3 at *
      have fin : ∀ v', v' = f v → Q (vm_st m3 114 (26 * a + b) v') := fun v' e => by
        subst e
        obtain ⟨a1, a2, a3, a4, a5, a6⟩ := p3.2.2.2
        refine h1 s3 _ o3 ⟨p3.1.st (vMg_o (by decide)), p3.2.1.fr (S := fun k _ => Nat.beq k 114) (vfr.rf.st rfl) (fun _ _ => rfl), by rw [vst_k (by decide)]; exact p3.2.2.1, fun q => by rw [vst_k (by decide)]; exact a1 q, fun a x y => by rw [vst_k (by decide)]; exact a2 a x y, fun a x y w => by rw [vst_k (by decide)]; exact a3 a x y w, fun i u => by rw [vst_k (by decide)]; exact a4 i u, fun k x y => by rw [vst_k (by decide)]; exact a5 k x y, fun k x y => ?_⟩ hw3 L3 (by omega) he
        rw [hk3, vst_if]
        show _ = if k = 26 * a + b then f v else K k
        split
        · rfl
        · exact a6 k x y
      refine ru11_readPair_134 ⟨fun x => absurd (p3.2.2.1.symm.trans x) (by decide), fun _ => ⟨⟨by omega, by omega⟩, fun q => ⟨⟨by omega, by omega⟩, fin _ ?_⟩, fun q => ⟨⟨by omega, by omega⟩, fin _ ?_⟩⟩⟩
      · rw [hf, if_pos q]
      · rw [hf, if_neg q]
    · rw [vif_f t3] at he; exact he.symm
  · rw [vif_f t] at he; exact he.symm
theorem sm_readPair (hZ : ZO D z) (hT : MT z m0) (hs : pOk z s) (hP : PM z m0 U g c W K s m) (hw : pW s = W) (hk : pK s = K) (hL : pLd U s) (he : pPair z s k = R) (h0 : ∀ s' m', R = pErr z s' → DD m0 (tF (zb z) (zn z) (pp s')) m' → Q m') (h1 : ∀ s' m', pOk z s' → PM z m0 U g c W (pK s') s' m' → pW s' = W → pLd U s' → pp s < pp s' → k s' = R → Q m') : vm_C 211 [vm_r 96] m (vm_qv Q) := by
  unfold pPair at he
  refine ru11_readPair_0 (sm_takeW hZ hT hs hP (by unfold tkey; decide) he (fun m1 o1 p1 e1 t0 => ?_) (fun s' m1 e d => sm_p11 d.2.1 (h0 s' m1 e d)))
  try dsimp only at e1
  have lt1 := padv_lt hZ hs t0.1
  have hw1 : pW (padv z s) = W := hw
  have hk1 : pK (padv z s) = K := hk
  have L1 : pLd U (padv z s) := hL
  generalize padv z s = s1 at *
  have t := tLt_m hZ o1 p1.2.1
  unfold pPair1 at e1
  refine ru11_readPair_11 ⟨fun q => ?_, fun q => ?_⟩
  · rw [vif_f (fun x => q (t.1.mpr (by have := x.1; omega)))] at e1
    exact sm_takes hZ hT o1 p1 (fun x => absurd rfl x) (fun _ m2 d => sm_p44 d.2.1 (h0 _ _ e1.symm d))
  · have q := Decidable.not_not.mp q
    have ab := tLt_bd hZ o1 (t.1.mp q)
    rw [t.2 q]
    refine sm_isTold hZ o1 p1 (Or.inr rfl) q (fun w => ⟨fun x => absurd x (by decide), fun _ => ?_⟩) (fun w => ⟨fun _ => ?_, fun x => absurd rfl x⟩)
    · rw [vif_t (show pKn s1 (tLt (zb z) (zn z) (pp s1)) from ⟨ab.1, ab.2, by rw [hw1]; exact w.mpr rfl⟩)] at e1
      clear t w q
      generalize tLt (zb z) (zn z) (pp s1) = a at *
      refine sm_takes hZ hT o1 p1 (fun _ m2 p2 => ?_) (fun x => absurd x (by decide))
      have le2 := padv_le hZ o1
      have o2 := padv_ok hZ o1
      have hw2 : pW (padv z s1) = W := hw1
      have hk2 : pK (padv z s1) = K := hk1
      have L2 : pLd U (padv z s1) := L1
      generalize padv z s1 = s2 at *
      have t := tLt_m hZ o2 p2.2.1
      unfold pPair2 at e1
      refine ru11_readPair_44 ⟨fun q => ?_, fun q => ?_⟩
      · rw [vif_f (fun x => q (t.1.mpr (by have := x.1; omega)))] at e1
        exact sm_takes hZ hT o2 p2 (fun x => absurd rfl x) (fun _ m3 d => sm_p77 d.2.1 (h0 _ _ e1.symm d))
      · have q := Decidable.not_not.mp q
        have bb := tLt_bd hZ o2 (t.1.mp q)
        rw [t.2 q]
        refine sm_isTold hZ o2 p2 (Or.inr rfl) q (fun w => ⟨fun x => absurd x (by decide), fun _ => ?_⟩) (fun w => ⟨fun _ => ?_, fun x => absurd rfl x⟩)
        · rw [vif_t (show pKn s2 (tLt (zb z) (zn z) (pp s2)) from ⟨bb.1, bb.2, by rw [hw2]; exact w.mpr rfl⟩)] at e1
          clear t w q
          generalize tLt (zb z) (zn z) (pp s2) = b at *
          refine sm_takes hZ hT o2 p2 (fun _ m3 p3 => ?_) (fun x => absurd x (by decide))
          have le3 := padv_le hZ o2
          have o3 := padv_ok hZ o2
          have hw3 : pW (padv z s2) = W := hw2
          have hk3 : pK (padv z s2) = K := hk2
          have L3 : pLd U (padv z s2) := L2
          generalize padv z s2 = s3 at *
          have le4 := padv_le hZ o3
          have o4 := padv_ok hZ o3
          unfold pPair3 at e1
          refine ru11_readPair_77 (sm_isName hZ o3 p3.2.1 p3.2.2.1 (by unfold tkey; decide) (fun t4 => ⟨fun _ => ?_, fun x => absurd (show ¬ (1 : Int) = 0 by decide) x⟩) (fun t4 => ⟨fun x => absurd rfl x, fun _ => ?_⟩))
          · rw [vif_t t4] at e1
            exact sm_takes hZ hT o3 p3 (fun _ m4 p4 => sm_by hZ hT o4 p4 (show pW (padv z s3) = W from hw3) (show pK (padv z s3) = K from hk3) (show pLd U (padv z s3) from L3) (f := fun n => -n) ab bb (fun n => (if_neg (by decide)).symm) e1 h0 (fun s' m' o p w l le e => h1 s' m' o p w l (by omega) e)) (fun x => absurd x (by decide))
          · rw [vif_f t4, pName_eq] at e1
            refine sm_isName hZ o3 p3.2.1 p3.2.2.1 (by unfold tkey; decide) (fun t5 => ⟨fun x => absurd x (by decide), fun _ => ?_⟩) (fun t5 => ⟨fun _ => ?_, fun x => absurd rfl x⟩)
            · rw [vif_t t5] at e1
              exact sm_takes hZ hT o3 p3 (fun _ m4 p4 => sm_by hZ hT o4 p4 (show pW (padv z s3) = W from hw3) (show pK (padv z s3) = K from hk3) (show pLd U (padv z s3) from L3) (f := fun n => n) ab bb (fun n => (if_pos rfl).symm) e1 h0 (fun s' m' o p w l le e => h1 s' m' o p w l (by omega) e)) (fun x => absurd x (by decide))
            · rw [vif_f t5] at e1
              exact sm_takes hZ hT o3 p3 (fun x => absurd rfl x) (fun _ m4 d => sm_p108 d.2.1 (h0 _ _ e1.symm d))
        · rw [vif_f (fun x => w ⟨fun _ => rfl, fun _ => by have := x.2.2; rw [hw2] at this; exact this⟩)] at e1
          exact sm_takes hZ hT o2 p2 (fun x => absurd rfl x) (fun _ m3 d => sm_p77 d.2.1 (h0 _ _ e1.symm d))
    · rw [vif_f (fun x => w ⟨fun _ => rfl, fun _ => by have := x.2.2; rw [hw1] at this; exact this⟩)] at e1
      exact sm_takes hZ hT o1 p1 (fun x => absurd rfl x) (fun _ m2 d => sm_p44 d.2.1 (h0 _ _ e1.symm d))
end MQ
