/-! ===== x's operations as the law sees them ===== -/
section LP
variable {D : vD} {E : Int → Int} {z : vZs} {o : Nat} {S : lwS}
/-- at handle o there is an x whose setting is t -/
def lT (D : vD) (t : vTE) (z : vZs) (o : Nat) (S : lwS) : Prop := lO (teD D t) t.2 z o S
theorem lO.OC (h : lO D E z o S) : OC D E := h.1
theorem lO.ZO (h : lO D E z o S) : ZO D z := h.2.1
theorem lp_setNumber {k v : Int} {P : Int → lwS → Prop} (h : lO D E z o S) (ha : ¬ (k < 6 ∧ vok D k v) → ∀ S', lsame o S S' → lO D E z o S' → P (-1) S') (hb : k < 6 ∧ vok D k v → E k = v → ∀ S', lsame o S S' → lO D E z o S' → P (-2) S') (hc : k < 6 ∧ vok D k v → E k ≠ v → ∀ S', lsame o S S' → lT D (tE (teN D E) k v) (zP z (teN D E)) o S' → P (E k) S') : lNn 106 o [k, v] S P := by
  obtain ⟨h1, h2, m, h3, h4, h5⟩ := h
  refine ⟨m, h3, sx_setNumber h1 h2 h4 h5 (fun q => ha q _ lsame.up ⟨h1, h2, m, lup_s _ _ _, h4, h5⟩) (fun q e => hb q e _ lsame.up ⟨h1, h2, m, lup_s _ _ _, h4, h5⟩) (fun q e m' f x r => hc q e _ lsame.up ⟨OC_E h1 q.2, zP_ok h2 h1.TO, m', lup_s _ _ _, x, r⟩)⟩
theorem lp_correct {a b v : Int} {P : Int → lwS → Prop} (h : lO D E z o S) (ha : ¬ (dk D a ∧ dk D b ∧ -9 ≤ v ∧ v ≤ 9) → ∀ S', lsame o S S' → lO D E z o S' → P (-1) S') (hb : dk D a ∧ dk D b ∧ -9 ≤ v ∧ v ≤ 9 → dK D (26 * a + b) = v → ∀ S', lsame o S S' → lO D E z o S' → P (-2) S') (hc : dk D a ∧ dk D b ∧ -9 ≤ v ∧ v ≤ 9 → dK D (26 * a + b) ≠ v → ∀ S', lsame o S S' → lT D (tK (teN D E) (26 * a + b) v) (zP z (teN D E)) o S' → P (dK D (26 * a + b) + 9) S') : lNn 107 o [a, b, v] S P := by
  obtain ⟨h1, h2, m, h3, h4, h5⟩ := h
  refine ⟨m, h3, s_correct h1 h2 _ m h4 h5 (fun q => ha q _ lsame.up ⟨h1, h2, m, lup_s _ _ _, h4, h5⟩) (fun q e => hb q e _ lsame.up ⟨h1, h2, m, lup_s _ _ _, h4, h5⟩) (fun q e m' f x r => hc q e _ lsame.up ⟨OC_K h1 q.2.2, zP_ok h2 h1.TO, m', lup_s _ _ _, x, r⟩)⟩
theorem lp_setBreak {v : Int} {P : Int → lwS → Prop} (h : lO D E z o S) (ha : ¬ (v = 0 ∨ v = 1) → ∀ S', lsame o S S' → lO D E z o S' → P (-1) S') (hb : v = 0 ∨ v = 1 → E 6 = v → ∀ S', lsame o S S' → lO D E z o S' → P (-2) S') (hc : v = 0 ∨ v = 1 → E 6 ≠ v → ∀ S', lsame o S S' → lT D (tE (teN D E) 6 v) (zP z (teN D E)) o S' → P (E 6) S') : lNn 108 o [v] S P := by
  obtain ⟨h1, h2, m, h3, h4, h5⟩ := h
  refine ⟨m, h3, s_setBreak h1 h2 _ m h4 h5 (fun q => ha q _ lsame.up ⟨h1, h2, m, lup_s _ _ _, h4, h5⟩) (fun q e => hb q e _ lsame.up ⟨h1, h2, m, lup_s _ _ _, h4, h5⟩) (fun q e m' f x r => hc q e _ lsame.up ⟨OC_E h1 (by unfold vok; omega), zP_ok h2 h1.TO, m', lup_s _ _ _, x, r⟩)⟩
theorem lp_setFill {v : Int} (hv : v = 0 ∨ v = 1) {P : Int → lwS → Prop} (h : lO D E z o S) (hb : E 7 = v → ∀ S', lsame o S S' → lO D E z o S' → P (-2) S') (hc : E 7 ≠ v → ∀ S', lsame o S S' → lT D (tE (teN D E) 7 v) (zP z (teN D E)) o S' → P 1 S') : lNn 109 o [v] S P := by
  obtain ⟨h1, h2, m, h3, h4, h5⟩ := h
  refine ⟨m, h3, s_setFill h1 h2 hv _ m h4 h5 (fun e => hb e _ lsame.up ⟨h1, h2, m, lup_s _ _ _, h4, h5⟩) (fun e m' f x r => hc e _ lsame.up ⟨OC_E h1 (by unfold vok; omega), zP_ok h2 h1.TO, m', lup_s _ _ _, x, r⟩)⟩
theorem lp_swap {i j : Int} {P : Int → lwS → Prop} (h : lO D E z o S) (ha : ¬ ((0 ≤ i ∧ i < dN D) ∧ (0 ≤ j ∧ j < dN D) ∧ i ≠ j) → ∀ S', lsame o S S' → lO D E z o S' → P (-1) S') (hc : (0 ≤ i ∧ i < dN D) ∧ (0 ≤ j ∧ j < dN D) ∧ i ≠ j → ∀ S', lsame o S S' → lT D (tS (teN D E) i j) (zP z (teN D E)) o S' → P (eQ (teD D (tS (teN D E) i j)) (tS (teN D E) i j).2 : Int) S') : lNn 110 o [i, j] S P := by
  obtain ⟨h1, h2, m, h3, h4, h5⟩ := h
  refine ⟨m, h3, s_swap h1 h2 _ m h4 h5 (fun q => ha q _ lsame.up ⟨h1, h2, m, lup_s _ _ _, h4, h5⟩) (fun q m' f x r => hc q _ lsame.up ⟨⟨h1.1, tS_ok (t := teN D E) h1.2.1 q.1 q.2.1 q.2.2, h1.2.2⟩, zP_ok h2 h1.TO, m', lup_s _ _ _, x, r⟩)⟩
theorem lp_keep {v : Int} {P : Int → lwS → Prop} (h : lO D E z o S) (ha : ¬ (0 ≤ v ∧ v ≤ 1) → ∀ S', lsame o S S' → lO D E z o S' → P (-1) S') (hc : ∀ u : Nat, v = u → u < 2 → ∀ S', lsame o S S' → lO D E (zK z u (teN D E)) o S' → P (dN D) S') : lNn 111 o [v] S P := by
  obtain ⟨h1, h2, m, h3, h4, h5⟩ := h
  refine ⟨m, h3, s_keep h1 h2 _ m h4 h5 (fun q => ha q _ lsame.up ⟨h1, h2, m, lup_s _ _ _, h4, h5⟩) (fun u e hu m' f x r => hc u e hu _ lsame.up ⟨h1, ?_, m', lup_s _ _ _, x, r⟩)⟩
  refine ⟨h2.1, h2.2.1, h2.2.2.1, h2.2.2.2.1, fun s hs => ?_⟩
  by_cases q : s = u
  · subst q
    exact ⟨Or.inr (if_pos rfl), fun _ => by show TO D (if s = s then teN D E else zs z s); rw [if_pos rfl]; exact h1.TO⟩
  · show ((if s = u then 1 else zk z s) = 0 ∨ (if s = u then 1 else zk z s) = 1) ∧ ((if s = u then 1 else zk z s) = 1 → TO D (if s = u then teN D E else zs z s))
    rw [if_neg q, if_neg q]
    exact h2.2.2.2.2 s hs
theorem lp_restore {v : Int} {P : Int → lwS → Prop} (h : lO D E z o S) (ha : ¬ (0 ≤ v ∧ v ≤ 1) → ∀ S', lsame o S S' → lO D E z o S' → P (-1) S') (hb : ∀ u : Nat, v = u → u < 2 → zk z u ≠ 1 → ∀ S', lsame o S S' → lO D E z o S' → P (-2) S') (hc : ∀ u : Nat, v = u → u < 2 → zk z u = 1 → ∀ S', lsame o S S' → lT D (zs z u) (zP z (teN D E)) o S' → P (dN (teD D (zs z u))) S') : lNn 112 o [v] S P := by
  obtain ⟨h1, h2, m, h3, h4, h5⟩ := h
  refine ⟨m, h3, s_restore h1 h2 _ m h4 h5 (fun q => ha q _ lsame.up ⟨h1, h2, m, lup_s _ _ _, h4, h5⟩) (fun u e hu q => hb u e hu q _ lsame.up ⟨h1, h2, m, lup_s _ _ _, h4, h5⟩) (fun u e hu q m' f x r => hc u e hu q _ lsame.up ⟨((h2.2.2.2.2 u hu).2 q).OC h1.1, zP_ok h2 h1.TO, m', lup_s _ _ _, x, r⟩)⟩
theorem lp_undo {P : Int → lwS → Prop} (h : lO D E z o S) (ha : zc z = 0 → ∀ S', lsame o S S' → lO D E z o S' → P (-1) S') (hc : 0 < zc z → ∀ S', lsame o S S' → lT D (zh z (zc z - 1)) (zU z) o S' → P ((zc z : Int) - 1) S') : lNn 113 o [] S P := by
  obtain ⟨h1, h2, m, h3, h4, h5⟩ := h
  refine ⟨m, h3, s_undo h1 h2 _ m h4 h5 (fun q => ha q _ lsame.up ⟨h1, h2, m, lup_s _ _ _, h4, h5⟩) (fun q m' f x r => hc q _ lsame.up ⟨(h2.2.2.2.1 _ (by omega)).OC h1.1, ⟨h2.1, h2.2.1, by show zc z - 1 ≤ 8; have := h2.2.2.1; omega, fun j hj => h2.2.2.2.1 j (by have : j < zc z - 1 := hj; omega), h2.2.2.2.2⟩, m', lup_s _ _ _, x, r⟩)⟩
theorem lp_truncate {v : Int} {P : Int → lwS → Prop} (h : lO D E z o S) (ha : ¬ (0 ≤ v ∧ v ≤ zn z) → ∀ S', lsame o S S' → lO D E z o S' → P (-1) S') (hc : 0 ≤ v ∧ v ≤ zn z → ∀ S', lsame o S S' → lO D E (zT z (zn z - v)) o S' → P (zn z - v) S') : lNn 102 o [v] S P := by
  obtain ⟨h1, h2, m, h3, h4, h5⟩ := h
  have hn := h2.1
  refine ⟨m, h3, s_truncate h1 h2 _ m h4 h5 (fun q => ha q _ lsame.up ⟨h1, h2, m, lup_s _ _ _, h4, h5⟩) (fun q m' f x r => hc q _ lsame.up ⟨h1, ⟨⟨by show 0 ≤ zn z - v; omega, by show zn z - v ≤ 2000; omega⟩, fun i a b => h2.2.1 i a (by have : i < zn z - v := b; omega), h2.2.2⟩, m', lup_s _ _ _, x, r⟩)⟩
def zA5 (z : vZs) (v1 v2 v3 v4 v5 : Int) : vZs := zF 4 v5 (zF 4 v4 (zF 4 v3 (zF 4 v2 (zF 4 v1 z))))
theorem lp_append {v1 v2 v3 v4 v5 : Int} {P : Int → lwS → Prop} (h : lO D E z o S) (hn : zn z + 20 ≤ 2000) (hc : ∀ S', lsame o S S' → lO D E (zA5 z v1 v2 v3 v4 v5) o S' → P (zn z + 20) S') : lNn 101 o [v1, v2, v3, v4, v5] S P := by
  obtain ⟨h1, h2, m, h3, h4, h5⟩ := h
  refine ⟨m, h3, ?_⟩
  have hn0 := h2.1
  obtain ⟨Z1, n1⟩ := zF_ok v1 4 z (by decide) (by omega) h2
  obtain ⟨Z2, n2⟩ := zF_ok v2 4 (zF 4 v1 z) (by decide) (by omega) Z1
  obtain ⟨Z3, n3⟩ := zF_ok v3 4 (zF 4 v2 (zF 4 v1 z)) (by decide) (by omega) Z2
  obtain ⟨Z4, n4⟩ := zF_ok v4 4 (zF 4 v3 (zF 4 v2 (zF 4 v1 z))) (by decide) (by omega) Z3
  obtain ⟨Z5, n5⟩ := zF_ok v5 4 (zF 4 v4 (zF 4 v3 (zF 4 v2 (zF 4 v1 z)))) (by decide) (by omega) Z4
  have e2 : (zF 4 v5 (zF 4 v4 (zF 4 v3 (zF 4 v2 (zF 4 v1 z))))).2.2 = z.2.2 := by rw [zF_2, zF_2, zF_2, zF_2, zF_2]
  have hx : ∀ m m', XC D E m → XR D z m → vfr vGx m m' → XT (zF 4 v5 (zF 4 v4 (zF 4 v3 (zF 4 v2 (zF 4 v1 z))))) m' → XC D E m' ∧ XR D (zF 4 v5 (zF 4 v4 (zF 4 v3 (zF 4 v2 (zF 4 v1 z))))) m' := fun m m' hX rX f T => by
    refine ⟨hX.fo f (fun k i a => vGx_n (by omega) (by omega)) rfl, ?_⟩
    obtain ⟨r1, r2, r3, r4, r5⟩ := rX
    generalize zF 4 v5 (zF 4 v4 (zF 4 v3 (zF 4 v2 (zF 4 v1 z)))) = z' at *
    obtain ⟨y1, y2, y3⟩ := z'
    obtain ⟨w1, w2, w3⟩ := z
    obtain rfl : y3 = w3 := e2
    exact ⟨T, by rw [f 0 14 rfl]; exact r2, r3.fr f (fun k i a b => vGx_n (by omega) (by omega)) h2.2.2.1, r4.fr f (fun k i a => vGx_n (by omega) (by omega)), r5.fr f (fun k i a => vGx_n (by omega) (by omega))⟩
  refine ru10_append_0 (ru7_hasRoom_0 ?_)
  rw [h5.1.1]
  refine ⟨by omega, fun q => by omega, fun _ => ⟨fun _ => ?_, fun q => absurd (show ¬ (1 : Int) = 0 by decide) q⟩⟩
  refine sx_four (by omega) (by omega) h5.1 (fun a1 f1 t1 => sx_four (by omega) (by omega) t1 (fun a2 f2 t2 => sx_four (by omega) (by omega) t2 (fun a3 f3 t3 => sx_four (by omega) (by omega) t3 (fun a4 f4 t4 => sx_four (by omega) (by omega) t4 (fun a5 f5 t5 => ?_)))))
  have f := (((f1.tr f2).tr f3).tr f4).tr f5
  obtain ⟨x1, x2⟩ := hx m a5 h4 h5 f t5
  rw [t5.1, show zn (zF 4 v5 (zF 4 v4 (zF 4 v3 (zF 4 v2 (zF 4 v1 z))))) = zn z + 20 by omega]
  exact hc _ lsame.up ⟨h1, Z5, a5, lup_s _ _ _, x1, x2⟩
theorem lp_load {R : vPS → Prop} {P : Int → lwS → Prop} (h : lO D E z o S) (hl : ∀ C, ∃ s', pLoad z (pz0 C) = (true, -2, s') ∧ R s') (hc : ∀ s', R s' → ∀ S', lsame o S S' → lO (pD s') (pN6 s') (zL z) o S' → P (vs (vtl (pD s')) 26) S') : lNn 103 o [] S P := by
  obtain ⟨h1, h2, m, h3, h4, h5⟩ := h
  refine ⟨m, h3, sx_load h2 h4 h5 (fun s' m' f x r e => ?_) (fun s' m' f x r e => ?_)⟩
  · obtain ⟨s9, e9, -⟩ := hl (m 6 2)
    rw [e9] at e
    exact absurd (congrArg Prod.fst e) (show ¬ true = false by decide)
  · obtain ⟨s9, e9, hR⟩ := hl (m 6 2)
    have e5 : s9 = s' := by
      rw [e9] at e
      exact (Prod.mk.inj (Prod.mk.inj e).2).2
    subst e5
    exact hc s9 hR _ lsame.up ⟨pD_OC (pg_load e), zL_ok h2, m', lup_s _ _ _, x, r⟩
theorem lp_say {P : Int → lwS → Prop} (h : lO D E z o S) (hs : (sR D (zb z) (zn z).toNat 0 s0).1 = -2) (hc : ∀ S', lsame o S S' → lT D (tw (teN D E) (sR D (zb z) (zn z).toNat 0 s0).2) (zP (zY z (-2)) (teN D E)) o S' → P (sN (sR D (zb z) (zn z).toNat 0 s0).2) S') : lNn 105 o [] S P := by
  obtain ⟨h1, h2, m, h3, h4, h5⟩ := h
  refine ⟨m, h3, s_say h1 h2 _ m h4 h5 (fun q => absurd hs q) (fun q m' f x r => hc _ lsame.up ⟨(tw_ok h1.TO (sR_ok _ _ _ s0_ok) (sR_v _ _ _ (Int.le_refl _) q)).OC h1.1, zP_ok (zY_ok h2) h1.TO, m', lup_s _ _ _, x, r⟩)⟩
end LP
