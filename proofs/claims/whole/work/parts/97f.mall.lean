/-! ===== the model reads all of a setup ===== -/
section MW
variable {D : vD} {E : Int → Int} {z : vZs} {m m' m0 : vm_M} {U : Int → Prop} {g c : Int} {W K : Int → Int} {s : vPS} {k : vPS → vRS} {R : vRS} {Q : vm_M → Prop}
theorem sm_a29 (h31 : m 96 31 = 0) (h : Q m) : ku11_readAll_29 m Q := ru11_readAll_29 ⟨fun _ => h, fun x => absurd h31 x⟩
theorem sm_a12 (h31 : m 96 31 = 0) (h : Q m) : ku11_readAll_12 m Q := ru11_readAll_12 (sm_isWordD h31 ⟨fun _ => sm_a29 h31 h, fun x => absurd rfl x⟩)
theorem sm_lets (hZ : ZO D z) (hT : MT z m0) (h0 : ∀ s' m', R = pErr z s' → DD m0 (tF (zb z) (zn z) (pp s')) m' → Q m') (h1 : ∀ s' U' m', pOk z s' → PM z m0 U' g c (pW s') (pK s') s' m' → pLd U' s' → k s' = R → ku11_readAll_29 m' Q) : ∀ (n : Nat) (s : vPS) (U : Int → Prop) (m : vm_M), vtn (pW s) + n = 27 → pOk z s → PM z m0 U g c (pW s) (pK s) s m → pLd U s → pLets z n s k = R → ku11_readAll_12 m Q := by
  intro n
  induction n with
  | zero =>
    intro s U m hn hs hP hL he
    have := vtn_bd (pW s)
    omega
  | succ n ih =>
    intro s U m hn hs hP hL he
    unfold pLets at he
    refine ru11_readAll_12 (sm_isName hZ hs hP.2.1 hP.2.2.1 (by unfold tkey; decide) (fun t => ⟨fun x => absurd x (by decide), fun _ => ?_⟩) (fun t => ⟨fun _ => ?_, fun x => absurd rfl x⟩))
    · rw [vif_t t] at he
      exact sm_readLetter hZ hT hs hP rfl rfl hL he (fun s' m' e d => sm_a12 d.2.1 (h0 s' m' e d)) (fun s' U' m' o p kk l cn e => ih s' U' m' (by omega) o (by rw [kk]; exact p) l e)
    · rw [vif_f t] at he
      exact h1 s U m hs hP hL he
theorem sm_pairs (hZ : ZO D z) (hT : MT z m0) (h0 : ∀ s' m', R = pErr z s' → DD m0 (tF (zb z) (zn z) (pp s')) m' → Q m') (h1 : ∀ s' m', pOk z s' → PM z m0 U g c (pW s') (pK s') s' m' → pLd U s' → k s' = R → Q m') : ∀ (n : Nat) (s : vPS) (m : vm_M), zn z ≤ pp s + n → pOk z s → PM z m0 U g c (pW s) (pK s) s m → pLd U s → pPairs z n s k = R → ku11_readAll_29 m Q := by
  intro n
  induction n with
  | zero =>
    intro s m hn hs hP hL he
    have e28 : m 96 28 = 0 := by
      refine hP.2.1.2.2.1.mpr ?_
      have tb := tok_bd hs hZ.2.1
      have s2 := hs.2
      have eF : tF (zb z) (zn z) (pp s) = zn z := by omega
      have k0 : tK0 (zb z) (zn z) (pp s) = 0 := by
        unfold tK0
        rw [eF]
        show tkd (if 0 ≤ zn z ∧ zn z < zn z then zb z (zn z) else -1) = 0
        rw [if_neg (by omega)]
        rfl
      unfold tKd
      rw [k0, if_neg (by omega)]
    exact ru11_readAll_29 ⟨fun x => absurd (hP.2.2.1.symm.trans x) (by decide), fun _ => ⟨fun _ => h1 s m hs hP hL he, fun x => absurd e28 x⟩⟩
  | succ n ih =>
    intro s m hn hs hP hL he
    unfold pPairs at he
    refine ru11_readAll_29 ⟨fun x => absurd (hP.2.2.1.symm.trans x) (by decide), fun _ => ⟨fun q => ?_, fun q => ?_⟩⟩
    · rw [vif_t (hP.2.1.2.2.1.mp q)] at he
      exact h1 s m hs hP hL he
    · rw [vif_f (fun x => q (hP.2.1.2.2.1.mpr x))] at he
      exact sm_readPair hZ hT hs hP rfl rfl hL he (fun s' m' e d => sm_a29 d.2.1 (h0 s' m' e d)) (fun s' m' o p w l lt e => ih s' m' (by omega) o (by rw [w]; exact p) l e)
/-- all of it -/
theorem sm_readAll {C : Int} (hZ : ZO D z) (hT : MT z m) (h31 : m 96 31 = 1) (h26 : m 96 26 = 0) (h33 : m 96 33 = 0) (h114 : ∀ k, 0 ≤ k → k < 676 → m 114 k = 0) (h0 : ∀ s' m', pLoad z (pz0 C) = pErr z s' → DD m (tF (zb z) (zn z) (pp s')) m' → Q m') (h1 : ∀ s' U' m', PM z m U' 1 6 (pW s') (pK s') s' m' → pLd U' s' → pLoad z (pz0 C) = (true, -2, s') → Q m') : vm_C 212 [vm_r 96] m (vm_qv Q) := by
  have hN := hZ.1
  have o0 : pOk z (pz0 C) := ⟨Int.le_refl _, hN.1⟩
  have L0 : ∀ a, 0 ≤ a → a < 26 → ¬ 0 < pW (pz0 C) a := fun a x y => by show ¬ (0 : Int) < 0; decide
  have A0 : MA (fun _ => False) 0 0 (pW (pz0 C)) (pK (pz0 C)) (pz0 C) m := by
    refine ⟨fun q => absurd q (by decide), fun a x y => ⟨fun q => ?_, fun q => absurd q (L0 a x y)⟩, fun a x y w => absurd w (L0 a x y), fun i u => u.elim, fun k x y => by omega, h114⟩
    rw [h33] at q
    exact absurd q (vbt_0 ⟨x, y⟩)
  have c0 : vtn (pW (pz0 C)) = 0 := by
    show vs (fun a => if (0 : Int) < 0 then 1 else 0) 26 = 0
    decide
  have e26 : m 96 26 = pp (pz0 C) := h26
  generalize hR : pLoad z (pz0 C) = R at h0 h1
  generalize pz0 C = s0 at *
  unfold pLoad at hR
  refine ru11_readAll_0 (sm_next hZ hT o0 e26 (fun m1 f1 k1 => ?_))
  have P1 : PM z m (fun _ => False) 0 0 (pW s0) (pK s0) s0 m1 := ⟨vTo_Mp f1, k1, by rw [f1 96 31 (vTo_n (by omega))]; exact h31, A0.fr f1 (fun k i a => vTo_n (by omega)) (vTo_n (by omega)) (vTo_n (by omega))⟩
  refine sm_readBoard hZ hT (Or.inl ⟨s0, o0, P1, rfl, rfl, hR⟩) (fun m2 l2 => ?_)
  rcases l2 with ⟨s2, o2, p2, hw2, hk2, e2⟩ | ⟨s2, e2, d2⟩
  · rw [← hw2] at L0 c0 p2
    rw [← hk2] at p2
    have L2 : pLd (fun _ => False) s2 := fun a x y w => absurd w (L0 a x y)
    try dsimp only at e2
    refine sm_readLetter hZ hT o2 p2 rfl rfl L2 e2 (fun s' m' e d => sm_a12 d.2.1 (h0 s' m' e d)) (fun s3 U3 m3 o3 p3 k3 l3 cn3 e3 => ?_)
    try dsimp only at e3
    rw [← k3] at p3
    refine sm_lets hZ hT h0 (fun s4 U4 m4 o4 p4 l4 e4 => ?_) 26 s3 U3 m3 (by omega) o3 p3 l3 e3
    try dsimp only at e4
    have := o4.1
    exact sm_pairs hZ hT h0 (fun s5 m5 _ p5 l5 e5 => h1 _ _ _ p5 l5 e5.symm) (zn z).toNat s4 m4 (by omega) o4 p4 l4 e4
  · exact sm_letterD d2.2.1 (sm_a12 d2.2.1 (h0 s2 m2 e2 d2))
end MW
