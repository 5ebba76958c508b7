/-! ===== the model reads a letter ===== -/
/-- how many letters are told -/
def vtn (W : Int → Int) : Int := vs (fun a => if 0 < W a then 1 else 0) 26
theorem vtn_bd (W : Int → Int) : vtn W ≤ 26 := by
  have := vs_bd (f := fun a => if 0 < W a then 1 else 0) (lo := 0) (hi := 1) 26 (fun i _ _ => by split <;> decide)
  unfold vtn
  omega
theorem vtn_s {W W' : Int → Int} {a v : Int} (ha : 0 ≤ a ∧ a < 26) (hn : ¬ 0 < W a) (hv : 1 ≤ v) (hw : W' = fun i => if i = a then v else W i) : vtn W' = vtn W + 1 := by
  have hu := vs_upd (f := fun i => if 0 < W i then 1 else 0) (g := fun i => if 0 < W' i then 1 else 0) (a := a) ha.1 (if_neg hn) (if_pos (by rw [hw]; show 0 < (if a = a then v else W a); rw [if_pos rfl]; omega)) (fun i hi => by
    rw [hw]
    show (if 0 < (if i = a then v else W i) then (1 : Int) else 0) = if 0 < W i then 1 else 0
    rw [if_neg hi]) 26
  rw [if_pos (by omega)] at hu
  exact hu
section ML
variable {D : vD} {E : Int → Int} {z : vZs} {m m' m0 : vm_M} {U : Int → Prop} {g c : Int} {W K : Int → Int} {s : vPS} {k : vPS → vRS} {R : vRS} {Q : vm_M → Prop}
theorem sm_isToldD {Q : Int → vm_M → Prop} {v : Int} (h : ∀ v, Q v m) : vm_C 208 [vm_r 96, vm_i v] m (vm_qi Q) :=
  ru11_isTold_0 ⟨fun _ => h _, fun _ => ⟨fun _ => ⟨fun _ => h _, fun _ => h _⟩, fun _ => ⟨fun _ => h _, fun _ => h _⟩⟩⟩
theorem sm_l127 (h31 : m 96 31 = 0) (h : Q m) {v1 v2 : Int} : ku11_readLetter_127 v1 v2 m Q := ru11_readLetter_127 ⟨fun _ => h, fun x => absurd h31 x⟩
theorem sm_l92 (h31 : m 96 31 = 0) (h : Q m) {v1 v2 : Int} : ku11_readLetter_92 v1 v2 m Q := ru11_readLetter_92 ⟨fun _ => sm_semiD h31 (sm_l127 h31 h), fun x => absurd h31 x⟩
theorem sm_l66 (h31 : m 96 31 = 0) (h : Q m) {v1 v2 : Int} : ku11_readLetter_66 v1 v2 m Q := ru11_readLetter_66 ⟨fun _ => sm_takeWD h31 (sm_l92 h31 h), fun x => absurd h31 x⟩
theorem sm_l44 (h31 : m 96 31 = 0) (h : Q m) {v1 : Int} {w2 : Option vm_V} : ku11_readLetter_44 v1 w2 m Q := ru11_readLetter_44 (sm_numberOfD h31 (fun _ => sm_takeWD h31 (sm_l66 h31 h)))
theorem sm_l11 (h31 : m 96 31 = 0) (h : Q m) {w1 w2 : Option vm_V} : ku11_readLetter_11 w1 w2 m Q := ru11_readLetter_11 ⟨fun _ => sm_takesD h31 (sm_l44 h31 h), fun _ => sm_isToldD (fun _ => ⟨fun _ => sm_takesD h31 (sm_l44 h31 h), fun _ => sm_takesD h31 (sm_l44 h31 h)⟩)⟩
theorem sm_letterD (h31 : m 96 31 = 0) (h : Q m) : vm_C 210 [vm_r 96] m (vm_qv Q) := ru11_readLetter_0 (sm_takeWD h31 (sm_l11 h31 h))
theorem sm_readLetter (hZ : ZO D z) (hT : MT z m0) (hs : pOk z s) (hP : PM z m0 U g c W K s m) (hw : pW s = W) (hk : pK s = K) (hL : pLd U s) (he : pLetter z s k = R) (h0 : ∀ s' m', R = pErr z s' → DD m0 (tF (zb z) (zn z) (pp s')) m' → Q m') (h1 : ∀ s' U' m', pOk z s' → PM z m0 U' g c (pW s') K s' m' → pK s' = K → pLd U' s' → vtn (pW s') = vtn W + 1 → k s' = R → Q m') : vm_C 210 [vm_r 96] m (vm_qv Q) := by
  have hL0 : ∀ b, 0 ≤ b → b < 26 → 0 < W b → ∀ i, 0 ≤ i → i < 12 → U (12 * b + i) := by rw [← hw]; exact hL
  unfold pLetter at he
  refine ru11_readLetter_0 (sm_takeW hZ hT hs hP (by unfold tkey; decide) he (fun m1 o1 p1 e1 _ => ?_) (fun s' m1 e d => sm_l11 d.2.1 (h0 s' m1 e d)))
  try dsimp only at e1
  have hw1 : pW (padv z s) = W := hw
  have hk1 : pK (padv z s) = K := hk
  generalize padv z s = s1 at *
  have t := tLt_m hZ o1 p1.2.1
  refine ru11_readLetter_11 ⟨fun q => ?_, fun q => ?_⟩
  · rw [vif_f (fun x => q (t.1.mpr x.1))] at e1
    exact sm_takes hZ hT o1 p1 (fun x => absurd rfl x) (fun _ m2 d => sm_l44 d.2.1 (h0 _ _ e1.symm d))
  · have q := Decidable.not_not.mp q
    have nl := t.1.mp q
    have ab := tLt_bd hZ o1 nl
    rw [t.2 q]
    refine sm_isTold hZ o1 p1 (Or.inl rfl) q (fun w => ⟨fun x => absurd x (by decide), fun _ => ?_⟩) (fun w => ⟨fun _ => ?_, fun x => absurd rfl x⟩)
    · have kn : ¬ 0 < W (tLt (zb z) (zn z) (pp s1)) := fun x => absurd (w.mp x) (by decide)
      rw [vif_t ⟨nl, by rw [hw1]; exact kn⟩] at e1
      clear t w q nl
      generalize tLt (zb z) (zn z) (pp s1) = a at *
      refine sm_takes hZ hT o1 p1 (fun _ m2 p2 => ?_) (fun x => absurd x (by decide))
      have o2 := padv_ok hZ o1
      have hw2 : pW (padv z s1) = W := hw1
      have hk2 : pK (padv z s1) = K := hk1
      generalize padv z s1 = s2 at *
      refine ru11_readLetter_44 (ru11_numberOf_0 (sm_takeW hZ hT o2 p2 (by unfold tkey; decide) e1 (fun m3 o3 p3 e3 _ => ?_) (fun s' m3 e d => sm_numberD d.2.1 (fun v => sm_takeWD d.2.1 (sm_l66 d.2.1 (h0 s' m3 e d))))))
      try dsimp only at e3
      have hw3 : pW (padv z s2) = W := hw2
      have hk3 : pK (padv z s2) = K := hk2
      generalize padv z s2 = s3 at *
      refine sm_number hZ hT o3 p3 (fun t3 m4 p4 => ?_) (fun t3 v m4 d => sm_takeWD d.2.1 (sm_l66 d.2.1 (h0 s3 _ ?_ d)))
      · rw [vif_t t3] at e3
        have hv := t3.2.1
        have o4 : pOk z (padv z (psetW s3 a (tN (zb z) (zn z) (pp s3)))) := padv_ok hZ (s := psetW s3 a (tN (zb z) (zn z) (pp s3))) o3
        have p4' : PM z m0 U g c W K (padv z (psetW s3 a (tN (zb z) (zn z) (pp s3)))) m4 := p4
        have hw4 : pW (padv z (psetW s3 a (tN (zb z) (zn z) (pp s3)))) = fun i => if i = a then tN (zb z) (zn z) (pp s3) else W i := by
          rw [← hw3]; rfl
        have hk4 : pK (padv z (psetW s3 a (tN (zb z) (zn z) (pp s3)))) = K := hk3
        clear t3 p4
        generalize padv z (psetW s3 a (tN (zb z) (zn z) (pp s3))) = s4 at *
        generalize tN (zb z) (zn z) (pp s3) = v at *
        refine sm_takeW hZ hT o4 p4' (by unfold tkey; decide) e3 (fun m5 o5 p5 e5 _ => ?_) (fun s' m5 e d => sm_l66 d.2.1 (h0 s' m5 e d))
        try dsimp only at e5
        refine ru11_readLetter_66 ⟨fun x => absurd (p5.2.2.1.symm.trans x) (by decide), fun _ => ⟨by omega, ru11_readSide_0 (sm_readSide hZ hT (U := U) (w0 := pW s4) (k0 := pK s4) (r := 0) ab (Or.inl rfl) (fun s6 m6 U6 o6 p6 u6 l6 w6 k6 e6 => ?_) (fun s' m' e d => sm_takeWD d.2.1 (sm_l92 d.2.1 (h0 s' m' e d))) (by omega) 6 0 _ _ _ (Int.le_refl _) (by decide) o5 p5 (fun i u => u) (fun j x y => by omega) rfl rfl e5)⟩⟩
        try dsimp only at e6
        refine sm_takeW hZ hT o6 p6 (by unfold tkey; decide) e6 (fun m7 o7 p7 e7 _ => ?_) (fun s' m7 e d => sm_l92 d.2.1 (h0 s' m7 e d))
        try dsimp only at e7
        refine ru11_readLetter_92 ⟨fun x => absurd (p7.2.2.1.symm.trans x) (by decide), fun _ => ⟨⟨by omega, by omega⟩, ru11_readSide_0 (sm_readSide hZ hT (U := U6) (w0 := pW s6) (k0 := pK s6) (r := 1) ab (Or.inr rfl) (fun s8 m8 U8 o8 p8 u8 l8 w8 k8 e8 => ?_) (fun s' m' e d => sm_semiD d.2.1 (sm_l127 d.2.1 (h0 s' m' e d))) (by omega) 6 0 _ _ _ (Int.le_refl _) (by decide) o7 p7 (fun i u => u) (fun j x y => by omega) rfl rfl e7)⟩⟩
        try dsimp only at e8
        unfold pSemi at e8
        refine sm_semi hZ hT o8 p8 (fun t9 m9 p9 => ?_) (fun t9 m9 d => sm_l127 d.2.1 (h0 s8 _ ?_ d))
        · rw [vif_t t9] at e8
          have hw9 : pW (padv z s8) = fun i => if i = a then v else W i := w8.trans (w6.trans hw4)
          have hk9 : pK (padv z s8) = K := k8.trans (k6.trans hk4)
          have o9 := padv_ok hZ o8
          generalize padv z s8 = s9 at *
          refine ru11_readLetter_127 ⟨fun x => absurd (p9.2.2.1.symm.trans x) (by decide), fun _ => ⟨ab, h1 s9 U8 _ o9 ?_ hk9 (fun b b0 b1 bw i i0 i1 => ?_) (vtn_s ab kn hv hw9) e8⟩⟩
          · obtain ⟨a1, a2, a3, a4, a5, a6⟩ := p9.2.2.2
            rw [vst_k (show (96 : Nat) ≠ 112 by decide)]
            refine ⟨(p9.1.st (vMg_o (by decide))).st rfl, ?_, by rw [vst_i (by decide), vst_k (by decide)]; exact p9.2.2.1, fun q => by rw [vst_i (by decide), vst_k (by decide)]; exact a1 q, fun b x y => ?_, fun b x y bw => ?_, fun i u => by rw [vst_k (by decide), vst_k (by decide)]; exact a4 i u, fun k x y => by rw [vst_k (by decide), vst_k (by decide)]; exact a5 k x y, fun k x y => by rw [vst_k (by decide), vst_k (by decide)]; exact a6 k x y⟩
            · refine p9.2.1.fr (S := fun k i => Nat.beq k 112 || (Nat.beq k 96 && decide (i = 33))) ((vfr.rf.st rfl).st rfl) (fun i ai => Bool.eq_false_iff.mpr (fun q => ?_))
              simp only [Bool.or_eq_true, Bool.and_eq_true, decide_eq_true_eq] at q
              rcases q with q | q
              · exact absurd (vm_beq q) (by decide)
              · omega
            · rw [vst_s, vbt_or _ ab ⟨x, y⟩, a2 b x y, hw9]
              show b = a ∨ 0 < W b ↔ 0 < (if b = a then v else W b)
              by_cases q : b = a
              · rw [if_pos q]; exact ⟨fun _ => by omega, fun _ => Or.inl q⟩
              · rw [if_neg q]; exact ⟨fun h => h.resolve_left q, fun h => Or.inr h⟩
            · rw [hw9] at bw ⊢
              have bw : 0 < (if b = a then v else W b) := bw
              rw [vst_k (by decide), vst_if]
              show _ = (if b = a then v else W b)
              by_cases q : b = a
              · rw [if_pos q, if_pos q]
              · rw [if_neg q] at bw
                rw [if_neg q, if_neg q]; exact a3 b x y bw
          · rw [hw9] at bw
            have bw : 0 < (if b = a then v else W b) := bw
            by_cases q : b = a
            · rw [q]
              by_cases i6 : i < 6
              · have := u8 _ (l6 i i0 i6)
                rw [show 12 * a + 6 * 0 + i = 12 * a + i by omega] at this
                exact this
              · have := l8 (i - 6) (by omega) (by omega)
                rw [show 12 * a + 6 * 1 + (i - 6) = 12 * a + i by omega] at this
                exact this
            · rw [if_neg q] at bw
              exact u8 _ (u6 _ (hL0 b b0 b1 bw i i0 i1))
        · rw [vif_f t9] at e8; exact e8.symm
      · rw [vif_f t3] at e3; exact e3.symm
    · have kn : 0 < W (tLt (zb z) (zn z) (pp s1)) := Decidable.byContradiction (fun n => w ⟨fun x => absurd x n, fun x => absurd x (by decide)⟩)
      rw [vif_f (fun x => x.2 (by rw [hw1]; exact kn))] at e1
      exact sm_takes hZ hT o1 p1 (fun x => absurd rfl x) (fun _ m2 d => sm_l44 d.2.1 (h0 _ _ e1.symm d))
end ML
