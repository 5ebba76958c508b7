/-! ===== questions for the best ===== -/
def vST (m : vm_M) : Prop := (m 900 0 = 10 ∧ m 900 1 = 1 ∧ m 900 2 = 0 ∧ m 900 3 = 0 ∧ m 900 4 = 0 ∧ m 900 5 = 1) ∧ (m 901 0 = 9999 ∧ m 901 1 = 9999 ∧ m 901 2 = 99 ∧ m 901 3 = 30 ∧ m 901 4 = 99 ∧ m 901 5 = 9)
theorem vST.fr {S : Nat → Int → Bool} {m m' : vm_M} (h : vfr S m m') (hs : ∀ k i, 900 ≤ k → S k i = false) (hT : vST m) : vST m' := by
  unfold vST at hT ⊢
  have a : ∀ i, m' 900 i = m 900 i := fun i => h 900 i (hs _ _ (by omega))
  have b : ∀ i, m' 901 i = m 901 i := fun i => h 901 i (hs _ _ (by omega))
  rw [a, a, a, a, a, a, b, b, b, b, b, b]; exact hT
/-- the greatest from v down, of n -/
noncomputable def ygr (P : Int → Prop) : Nat → Int → Int
  | 0, _ => -2
  | n + 1, v => vif (P v) v (ygr P n (v - 1))
theorem eU_s {E : Int → Int} {k v : Int} : eU E k v k = v := by unfold eU; rw [if_pos rfl]
theorem eU_n {E : Int → Int} {k v i : Int} (h : i ≠ k) : eU E k v i = E i := by unfold eU; rw [if_neg h]
def fitU (D : vD) (E : Int → Int) : Prop := bfits (bR (eB D E)) (E 6) (E 5) (E 2) (E 1)
section QB
variable {D : vD} {E : Int → Int} {m m' : vm_M}
theorem XC.ft (h : vfr (vSt 72) m m') (h0 : m' 74 0 = 0) (hX : XC D E m) : XC D E m' := by
  have n : ∀ (k : Nat) (i : Int), k < 72 ∨ 76 < k → vSt 72 k i = false := fun k i a => vSt_n a
  refine hX.fr0 h (fun k i a b => n k i (by omega)) ?_
  obtain ⟨-, -, -, -, h1, h2, h3⟩ := hX
  refine ⟨?_, by rw [h _ _ (n _ _ (by omega)), h2], h0⟩
  rw [h 0 15 (n _ _ (by omega))]
  rcases h1 with a | a
  · exact Or.inl a
  · exact Or.inr ⟨a.1, a.2.fr h (fun k i b => n _ _ (by omega))⟩
theorem vLd.ft (h : vfr (vSt 72) m m') (hL : vLd D E m) : vLd D E m' := hL.fr h (fun k i b => vSt_n (by omega))
theorem vSt_X (h : vfr (vSt 72) m m') : vfr vSX m m' := h.sub (fun k i hk => vSX_t (by
  unfold vSt at hk
  simp only [Bool.and_eq_true] at hk
  have a := Nat.le_of_ble_eq_true hk.1
  have b := Nat.le_of_ble_eq_true hk.2
  omega))
theorem eBz_ok (hO : OC D E) {g z : Int} (hg : 0 ≤ g ∧ g ≤ dC D) (hz : 1 ≤ z ∧ z ≤ 9) : bOK (vww D g, dN D, E 4, z, E 0) := by
  obtain ⟨hD, hOS, hE⟩ := hO
  exact ⟨hOS.2.1, hOS.2.2.1, fun w a b => vww_bd hD hOS ⟨a, b⟩ hg.2, hE.2.2.2.2.1.1, hE.2.2.2.2.1.2, hz.1, hz.2, hE.1.1, hE.1.2⟩
theorem sx_fitsWith {Q : Int → vm_M → Prop} (hO : OC D E) (hX : XC D E m) (hL : vLd D E m) {g z : Int} (hg : 0 ≤ g ∧ g ≤ dC D) (hz : 1 ≤ z ∧ z ≤ 9) (h1 : ∀ m', vfr (vSt 72) m m' → m' 74 0 = 0 → bfits (bR (vww D g, dN D, E 4, z, E 0)) (E 6) z (E 2) (E 1) → Q 1 m') (h0 : ∀ m', vfr (vSt 72) m m' → m' 74 0 = 0 → ¬ bfits (bR (vww D g, dN D, E 4, z, E 0)) (E 6) z (E 2) (E 1) → Q 0 m') : vm_C 148 [vm_r 0, vm_i g, vm_i z] m (vm_qi Q) := by
  have hB := eBz_ok hO hg hz
  obtain ⟨hD, hOS, hE⟩ := hO
  have hC := hD.2.1
  refine ru10_fitsWith_0 (sx_prep (B := (vww D g, dN D, E 4, z, E 0)) rfl ⟨by omega, by omega⟩ hB ⟨hg.1, by omega⟩ hX.2.1.1 hX.2.2.1.1 hX.2.2.1.2.2.2.2.1 (fun w a b => hL.1 w a b g hg.1 hg.2) hX.2.2.2.2.2.2 (fun m1 f1 p1 => ?_))
  have x1 : XC D E m1 := hX.ft f1 (p1.2.2.2.2.2 0 (Int.le_refl _) hB.1)
  have e6 : m1 9 4 = E 6 := x1.2.2.1.2.2.2.2.2.2.1
  rw [e6]
  refine sx_break rfl hB p1 hE.2.2.2.2.2.2.1 (fun m2 f2 l2 => ?_)
  have p2 := p1.fr f2
  have f12 := f1.tr (vSb_St f2)
  have z2 : m2 74 0 = 0 := p2.2.2.2.2.2 0 (Int.le_refl _) hB.1
  have x2 : XC D E m2 := hX.ft f12 z2
  have e1 : m2 10 1 = E 1 := x2.2.2.1.2.1
  have e2 : m2 10 2 = E 2 := x2.2.2.1.2.2.1
  rw [e1, e2]
  exact sx_isFit rfl hB p2 l2 hE.2.2.1 (fun k => ⟨Or.inr rfl, h1 m2 f12 z2 k⟩) (fun k => ⟨Or.inl rfl, h0 m2 f12 z2 k⟩)
theorem s_bestSize (c : OC D E) (hX : XC D E m) (hs : vST m) {Q : Int → vm_M → Prop} (h : ∀ m', vfr vSX m m' → XC D E m' → Q (ygr (fun v => fitU D (eU E 5 v)) (9 - 1 + 1 : Int).toNat 9) m') : vm_C 139 [vm_r 0] m (vm_qi Q) := by
  have c9 := c
  obtain ⟨hD, hO, hE⟩ := c9
  have hG := hE.2.2.2.1
  refine ru10_bestSize_0 (sx_layOut c hX (fun m' f x l _ => ?_))
  have t := hs.fr f (fun k i a => vSX_n (by omega) (by omega))
  have hP : ∀ v, fitU D (eU E 5 v) = bfits (bR (vww D (E 3), dN D, E 4, v, E 0)) (E 6) v (E 2) (E 1) := fun v => by
    unfold fitU eB
    rw [eU_s, eU_n (by decide), eU_n (by decide), eU_n (by decide), eU_n (by decide), eU_n (by decide), eU_n (by decide)]
  have go : ∀ (n : Nat) (v : Int) (m1 : vm_M), v = n → v ≤ 9 → vfr (vSt 72) m' m1 → m1 74 0 = 0 → ygr (fun v => fitU D (eU E 5 v)) n v = ygr (fun v => fitU D (eU E 5 v)) (9 - 1 + 1 : Int).toNat 9 → ku10_bestSize_10 v m1 Q := by
    intro n
    induction n with
    | zero =>
      intro v m1 a b f1 z1 hy
      have x1 := x.ft f1 z1
      have t1 := t.fr f1 (fun k i a => vSt_n (by omega))
      have h := h m1 (f.tr (vSt_X f1)) x1
      rw [← hy] at h
      refine ru10_bestSize_10 ⟨fun _ => h, fun z => by rw [t1.1.2.2.2.2.2] at z; omega⟩
    | succ n ih =>
      intro v m1 a b f1 z1 hy
      have hy : vif (fitU D (eU E 5 v)) v (ygr (fun v => fitU D (eU E 5 v)) n (v - 1)) = _ := hy
      have x1 := x.ft f1 z1
      have l1 := l.ft f1
      have t1 := t.fr f1 (fun k i a => vSt_n (by omega))
      have e3 : m1 10 3 = E 3 := x1.2.2.1.2.2.2.1
      refine ru10_bestSize_10 ⟨fun z => by rw [t1.1.2.2.2.2.2] at z; omega, fun _ => ?_⟩
      rw [e3]
      refine sx_fitsWith c x1 l1 hG ⟨by omega, b⟩ (fun m2 f2 z2 k => ⟨fun z => by omega, fun _ => ?_⟩) (fun m2 f2 z2 k => ⟨fun _ => ⟨by omega, ?_⟩, fun z => absurd rfl z⟩)
      · have h := h m2 ((f.tr (vSt_X f1)).tr (vSt_X f2)) (x1.ft f2 z2)
        rw [vif_t (by rw [hP]; exact k)] at hy
        rw [← hy] at h; exact h
      · rw [vif_f (by rw [hP]; exact k)] at hy
        exact ih (v + (-1)) m2 (by omega) (by omega) (f1.tr f2) z2 hy
  have e9 : m' 901 5 = 9 := t.2.2.2.2.2.2
  rw [e9]
  exact go 9 9 m' rfl (Int.le_refl _) vfr.rf x.2.2.2.2.2.2 rfl
theorem s_bestGap (c : OC D E) (hX : XC D E m) {Q : Int → vm_M → Prop} (h : ∀ m', vfr vSX m m' → XC D E m' → Q (ygr (fun v => fitU D (eU E 3 v)) (dC D - 0 + 1).toNat (dC D)) m') : vm_C 140 [vm_r 0] m (vm_qi Q) := by
  have c9 := c
  obtain ⟨hD, hO, hE⟩ := c9
  have hC := hD.2.1
  have hC0 := hD.1
  have hZ := hE.2.2.2.2.2.1
  refine ru10_bestGap_0 (sx_layOut c hX (fun m' f x l _ => ?_))
  have hP : ∀ v, fitU D (eU E 3 v) = bfits (bR (vww D v, dN D, E 4, E 5, E 0)) (E 6) (E 5) (E 2) (E 1) := fun v => by
    unfold fitU eB
    rw [eU_s, eU_n (by decide), eU_n (by decide), eU_n (by decide), eU_n (by decide), eU_n (by decide), eU_n (by decide)]
  have go : ∀ (n : Nat) (v : Int) (m1 : vm_M), v + 1 = n → v ≤ dC D → vfr (vSt 72) m' m1 → m1 74 0 = 0 → ygr (fun v => fitU D (eU E 3 v)) n v = ygr (fun v => fitU D (eU E 3 v)) (dC D - 0 + 1).toNat (dC D) → ku10_bestGap_12 v m1 Q := by
    intro n
    induction n with
    | zero =>
      intro v m1 a b f1 z1 hy
      have x1 := x.ft f1 z1
      have h := h m1 (f.tr (vSt_X f1)) x1
      rw [← hy] at h
      exact ru10_bestGap_12 ⟨fun _ => h, fun z => by omega⟩
    | succ n ih =>
      intro v m1 a b f1 z1 hy
      have hy : vif (fitU D (eU E 3 v)) v (ygr (fun v => fitU D (eU E 3 v)) n (v - 1)) = _ := hy
      have x1 := x.ft f1 z1
      have l1 := l.ft f1
      have e5 : m1 10 5 = E 5 := x1.2.2.1.2.2.2.2.2.1
      refine ru10_bestGap_12 ⟨fun z => by omega, fun _ => ?_⟩
      rw [e5]
      refine sx_fitsWith c x1 l1 ⟨by omega, b⟩ hZ (fun m2 f2 z2 k => ⟨fun z => by omega, fun _ => ?_⟩) (fun m2 f2 z2 k => ⟨fun _ => ⟨by omega, ?_⟩, fun z => absurd rfl z⟩)
      · have h := h m2 ((f.tr (vSt_X f1)).tr (vSt_X f2)) (x1.ft f2 z2)
        rw [vif_t (by rw [hP]; exact k)] at hy
        rw [← hy] at h; exact h
      · rw [vif_f (by rw [hP]; exact k)] at hy
        exact ih (v + (-1)) m2 (by omega) (by omega) (f1.tr f2) z2 hy
  rw [x.1.1]
  exact go (dC D - 0 + 1).toNat (dC D) m' (by omega) (Int.le_refl _) vfr.rf x.2.2.2.2.2.2 rfl
theorem sx_prepT {Q : vm_M → Prop} (hO : OC D E) (hX : XC D E m) (hL : vLd D E m) (h : ∀ m', vfr (vSt 72) m m' → vPx (eB D E) 72 m' → Q m') : vm_C 149 [vm_r 0] m (vm_qv Q) := by
  have hB := eB_ok hO.1 hO.2.1 hO.2.2
  have hG := hO.2.2.2.2.2.1
  have hC := hO.1.2.1
  have e3 : m 10 3 = E 3 := hX.2.2.1.2.2.2.1
  have e5 : m 10 5 = bZ (eB D E) := hX.2.2.1.2.2.2.2.2.1
  refine ru10_prepareTrial_0 ?_
  rw [e3, e5]
  exact sx_prep rfl ⟨by omega, by omega⟩ hB ⟨hG.1, by omega⟩ hX.2.1.1 hX.2.2.1.1 hX.2.2.1.2.2.2.2.1 (fun w a b => hL.1 w a b (E 3) hG.1 hG.2) hX.2.2.2.2.2.2 h
theorem s_leastCost (c : OC D E) (hX : XC D E m) {Q : Int → vm_M → Prop} (h : ∀ m', vfr vSX m m' → XC D E m' → Q (if dN D = 0 then -2 else if kK (bR (eB D E)) 12 0 < 1000000000000000 then kK (bR (eB D E)) 12 0 else -2) m') : vm_C 144 [vm_r 0] m (vm_qi Q) := by
  have c9 := c
  obtain ⟨hD, hO, hE⟩ := c9
  have hB := eB_ok hD hO hE
  have hG := hE.2.2.2.1
  have hkb := kK_bd (bR_ok hB) 12 0 (Int.le_refl _) hB.1
  refine ru10_leastCost_0 (sx_layOut c hX (fun m1 f1 x1 l1 _ => sx_prepT c x1 l1 (fun m2 f2 p2 => sx_flc rfl hB p2 (fun m3 f3 t3 => ?_))))
  have f3' := vSc_St f3
  have p3 := p2.fr (vSc_b f3)
  have z3 : m3 74 0 = 0 := p3.2.2.2.2.2 0 (Int.le_refl _) hB.1
  have f23 := f2.tr f3'
  have x3 := x1.ft f23 z3
  have h := h m3 (f1.tr (vSt_X f23)) x3
  have e9 : m3 9 6 = dN D := x3.2.1.1
  rw [e9]
  refine ⟨fun z => by rw [if_pos z] at h; exact h, fun z => ⟨fun q => ?_, fun q => ?_⟩⟩
  · rw [if_neg z] at h
    have k := Classical.not_not.mp (fun k => q ((kX_n hkb.1).mpr k))
    rw [if_pos k] at h
    rw [kX_t k]; exact h
  · rw [if_neg z] at h
    have k := (kX_n hkb.1).mp (Classical.not_not.mp q)
    rw [if_neg k] at h; exact h
end QB
