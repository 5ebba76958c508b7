/-! ===== x reads all of a setup ===== -/
noncomputable def pLets (z : vZs) : Nat → vPS → (vPS → vRS) → vRS
  | 0, s, k => k s
  | n + 1, s, k => vif (tIs (zb z) (zn z) (pp s) 408572082) (pLetter z s fun s' => pLets z n s' k) (k s)
noncomputable def pPairs (z : vZs) : Nat → vPS → (vPS → vRS) → vRS
  | 0, s, k => k s
  | n + 1, s, k => vif (tKd (zb z) (zn z) (pp s) = 0) (k s) (pPair z s fun s' => pPairs z n s' k)
noncomputable def pLoad (z : vZs) (s : vPS) : vRS := pBoard z s fun s1 => pLetter z s1 fun s2 => pLets z 26 s2 fun s3 => pPairs z (zn z).toNat s3 fun s4 => (true, -2, s4)
/-- a parser's beginning -/
def pz0 (C : Int) : vPS := (0, fun _ => 0, fun _ => 0, C, fun _ => 0, fun _ => 0)
section XF
variable {D : vD} {E : Int → Int} {z : vZs} {m m' m0 : vm_M} {U : Int → Prop} {c : Int} {s : vPS} {Q : Int → vm_M → Prop} {k : vPS → vRS} {R : vRS}
theorem sx_lets (hZ : ZO D z) (hT : XT z m0) (h0 : ∀ s' c' U' m', PX z m0 U' c' s' m' → R = pErr z s' → Q 0 m') (h1 : ∀ s' U' m', pOk z s' → PX z m0 U' c s' m' → pLd U' s' → k s' = R → ku5_read_74 0 m' Q) : ∀ (n : Nat) (v1 : Int) (s : vPS) (U : Int → Prop) (m : vm_M), 0 ≤ v1 → v1 + n = 26 → pOk z s → PX z m0 U c s m → pLd U s → pLets z n s k = R → ku5_read_39 v1 m Q := by
  intro n
  induction n with
  | zero =>
    intro v1 s U m hv hn hs hP hL he
    exact ru5_read_39 ⟨fun _ => h1 s U m hs hP hL he, fun x => by omega⟩
  | succ n ih =>
    intro v1 s U m hv hn hs hP hL he
    unfold pLets at he
    refine ru5_read_39 ⟨fun q => by omega, fun _ => sx_isName hZ (hP.T hT) hs hP.2.1 nm_0.1 nm_0.2.1 nm_0.2.2.1 (nm_c nm_0.2.2.2.1) nm_0.2.2.2.2 (fun t => ⟨fun x => absurd x (by decide), fun _ => ?_⟩) (fun t => ⟨fun _ => ?_, fun x => absurd rfl x⟩)⟩
    · rw [vif_t t] at he
      exact sx_readLetter hZ hT hs hP hL he (fun s' c' U' m' p e => ⟨fun x => absurd rfl x, fun _ => h0 s' c' U' m' p e⟩) (fun s' U' m' o p l e => ⟨fun _ => ⟨by omega, ih (v1 + 1) s' U' m' (by omega) (by omega) o p l e⟩, fun x => absurd (show ¬ (1 : Int) = 0 by decide) x⟩)
    · rw [vif_f t] at he
      exact h1 s U m hs hP hL he
theorem sx_pairs (hZ : ZO D z) (hT : XT z m0) (h0 : ∀ s' m', PX z m0 U c s' m' → R = pErr z s' → Q 0 m') (h1 : ∀ s' m', pOk z s' → PX z m0 U c s' m' → pLd U s' → k s' = R → Q 1 m') : ∀ (n : Nat) (v1 : Int) (s : vPS) (m : vm_M), 0 ≤ v1 → v1 + n = zn z → pOk z s → PX z m0 U c s m → pLd U s → pPairs z n s k = R → ku5_read_74 v1 m Q := by
  have hN := hZ.1
  intro n
  induction n with
  | zero =>
    intro v1 s m hv hn hs hP hL he
    refine ru5_read_74 ?_
    rw [(hP.T hT).1]
    exact ⟨fun _ => h1 s m hs hP hL he, fun x => by omega⟩
  | succ n ih =>
    intro v1 s m hv hn hs hP hL he
    unfold pPairs at he
    refine ru5_read_74 ?_
    rw [(hP.T hT).1, hP.2.1.1]
    refine ⟨fun q => by omega, fun _ => ⟨fun t => ?_, fun t => ?_⟩⟩
    · rw [vif_t t] at he
      exact h1 s m hs hP hL he
    · rw [vif_f t] at he
      exact sx_readPair hZ hT hs hP hL he (fun s' m' p e => ⟨fun x => absurd rfl x, fun _ => h0 s' m' p e⟩) (fun s' m' o p l e => ⟨fun _ => ⟨by omega, ih (v1 + 1) s' m' (by omega) (by omega) o p l e⟩, fun x => absurd (show ¬ (1 : Int) = 0 by decide) x⟩)
theorem sx_clearA {Q : vm_M → Prop} (h : ∀ m', vfr (fun k _ => Nat.ble 6 k && Nat.ble k 7) m m' → m' 6 2 = m 6 2 → m' 6 3 = 0 → (∀ a, 0 ≤ a → a < 26 → m' 7 a = 0) → Q m') : vm_C 2 [vm_r 6] m (vm_qv Q) := by
  have go : ∀ (n : Nat) (v : Int) (m1 : vm_M), 0 ≤ v → v + n = 26 → vfr (fun k _ => Nat.ble 6 k && Nat.ble k 7) m m1 → m1 6 2 = m 6 2 → (∀ a, 0 ≤ a → a < v → m1 7 a = 0) → ku0_clear_2 6 v m1 Q := by
    intro n
    induction n with
    | zero =>
      intro v m1 h0 hn f g hw
      exact ru0_clear_2 rfl ⟨fun _ => h _ (f.st rfl) (by rw [vst_i (by decide)]; exact g) (vst_s _ _ _ _) (fun a x y => by rw [vst_k (by decide)]; exact hw a x (by omega)), fun x => by omega⟩
    | succ n ih =>
      intro v m1 h0 hn f g hw
      refine ru0_clear_2 rfl ⟨fun x => by omega, fun _ => ⟨⟨by omega, by omega⟩, ih (v + 1) _ (by omega) (by omega) (f.st rfl) (by rw [vst_k (by decide)]; exact g) (fun a x y => ?_)⟩⟩
      show vm_st m1 7 v 0 7 a = 0
      rw [vst_if]
      split
      · rfl
      · exact hw a x (by omega)
  exact ru0_clear_0 rfl (go 26 0 m (by decide) rfl vfr.rf rfl (fun a x y => by omega))
theorem sx_clearS {Q : vm_M → Prop} (h : ∀ m', vfr (fun k _ => Nat.ble 14 k && Nat.ble k 16) m m' → m' 14 4 = 0 → m' 14 5 = 0 → m' 14 6 = 0 → (∀ k, 0 ≤ k → k < 676 → m' 16 k = 0) → Q m') : vm_C 55 [vm_r 14] m (vm_qv Q) := by
  have go : ∀ (n : Nat) (v : Int) (m1 : vm_M), 0 ≤ v → v + n = 676 → vfr (fun k _ => Nat.ble 14 k && Nat.ble k 16) m m1 → (∀ a, 0 ≤ a → a < v → m1 16 a = 0) → ku4_clear_2 14 v m1 Q := by
    intro n
    induction n with
    | zero =>
      intro v m1 h0 hn f hw
      exact ru4_clear_2 rfl ⟨fun _ => h _ (((f.st rfl).st rfl).st rfl) (by rw [vst_i (by decide), vst_i (by decide), vst_s]) (by rw [vst_i (by decide), vst_s]) (vst_s _ _ _ _) (fun a x y => by rw [vst_k (by decide), vst_k (by decide), vst_k (by decide)]; exact hw a x (by omega)), fun x => by omega⟩
    | succ n ih =>
      intro v m1 h0 hn f hw
      refine ru4_clear_2 rfl ⟨fun x => by omega, fun _ => ⟨⟨by omega, by omega⟩, ih (v + 1) _ (by omega) (by omega) (f.st rfl) (fun a x y => ?_)⟩⟩
      show vm_st m1 16 v 0 16 a = 0
      rw [vst_if]
      split
      · rfl
      · exact hw a x (by omega)
  exact ru4_clear_0 rfl (go 676 0 m (by decide) rfl vfr.rf (fun a x y => by omega))
theorem sx_read (hZ : ZO D z) (hT : XT z m) (hS : vST m) (h0 : ∀ s' c' U' m', PX z m U' c' s' m' → pLoad z (pz0 (m 6 2)) = pErr z s' → Q 0 m') (h1 : ∀ s' U' m', PX z m U' 6 s' m' → pLd U' s' → pLoad z (pz0 (m 6 2)) = (true, -2, s') → Q 1 m') : vm_C 67 [vm_r 19] m (vm_qi Q) := by
  have hN := hZ.1
  refine ru5_read_0 (sx_clearA (fun m1 f1 g1 g2 g3 => sx_clearS (fun m2 f2 k1 k2 k3 k4 => ru8_begin_0 ?_)))
  have f1' : vfr vSp m m1 := f1.sub (fun k i hk => by
    simp only [Bool.and_eq_true] at hk
    have a := Nat.le_of_ble_eq_true hk.1
    have b := Nat.le_of_ble_eq_true hk.2
    have : k = 6 ∨ k = 7 := by omega
    rcases this with q | q <;> subst q <;> rfl)
  have f2' : vfr vSp m1 m2 := f2.sub (fun k i hk => by
    simp only [Bool.and_eq_true] at hk
    have a := Nat.le_of_ble_eq_true hk.1
    have b := Nat.le_of_ble_eq_true hk.2
    have : k = 14 ∨ k = 15 ∨ k = 16 := by omega
    rcases this with q | q | q <;> subst q <;> rfl)
  have f3' : vfr vSp m (vm_st m2 20 3 0) := (f1'.tr f2').st rfl
  have T3 : XT z (vm_st m2 20 3 0) := hT.fr f3' (fun k i a => vSp_n (by omega) (by omega) (by omega))
  have hA : PA (fun _ => False) 0 (pz0 (m 6 2)) (vm_st m2 20 3 0) := by
    refine ⟨?_, ?_, fun a x y => ?_, fun i u => u.elim, fun k x y => by omega, fun k x y => ?_, ?_, ?_, ?_⟩
    · rw [vst_k (by decide), f2 6 2 rfl]; exact g1
    · rw [vst_k (by decide), f2 6 3 rfl, g2]
      show (0 : Int) = vs (fun a => if (0 : Int) < 0 then 1 else 0) 26
      decide
    · rw [vst_k (by decide), f2 7 a rfl]; exact g3 a x y
    · rw [vst_k (by decide)]; exact k4 k x y
    · rw [vst_k (by decide)]; exact k1
    · rw [vst_k (by decide)]; exact k2
    · rw [vst_k (by decide)]; exact k3
  have e3 : vm_st m2 20 3 0 20 3 = 0 := vst_s _ _ _ _
  generalize vm_st m2 20 3 0 = m3 at f3' T3 hA e3 ⊢
  refine sx_advance hZ T3 (p := 0) ⟨by decide, by omega⟩ e3 (fun m4 f4 tk => ?_)
  have P4 : PX z m (fun _ => False) 0 (pz0 (m 6 2)) m4 := ⟨f3'.tr (f4.sub (fun k i hk => by have : k = 20 := vm_beq hk; rw [this]; rfl)), tk, hA.fr f4 (fun k i a => vTk_n (by omega))⟩
  have o4 : pOk z (pz0 (m 6 2)) := ⟨Int.le_refl _, hN.1⟩
  have L4 : ∀ a, 0 ≤ a → a < 26 → ¬ 0 < pW (pz0 (m 6 2)) a := fun a x y => by show ¬ (0 : Int) < 0; decide
  generalize hR : pLoad z (pz0 (m 6 2)) = R at h0 h1
  generalize pz0 (m 6 2) = s0 at o4 P4 L4 hR
  unfold pLoad at hR
  refine sx_readBoard hZ hT hS o4 P4 hR (fun s' c' m' p e => ⟨fun _ => h0 _ _ _ _ p e, fun x => absurd rfl x⟩) (fun s5 m5 o5 p5 w5 e5 => ⟨fun x => absurd x (by decide), fun _ => ?_⟩)
  have L5 : pLd (fun _ => False) s5 := fun a x y w => absurd (by rw [w5] at w; exact w) (L4 a x y)
  refine sx_readLetter hZ hT o5 p5 L5 e5 (fun s' c' U' m' p e => ⟨fun x => absurd rfl x, fun _ => h0 _ _ _ _ p e⟩) (fun s6 U6 m6 o6 p6 l6 e6 => ⟨fun _ => ?_, fun x => absurd (show ¬ (1 : Int) = 0 by decide) x⟩)
  refine sx_lets hZ hT h0 (fun s7 U7 m7 o7 p7 l7 e7 => ?_) 26 0 s6 U6 m6 (by decide) (by decide) o6 p6 l6 e6
  exact sx_pairs hZ hT (fun s' m' p e => h0 _ _ _ _ p e) (fun s8 m8 _ p8 l8 e8 => h1 _ _ _ p8 l8 e8.symm) (zn z).toNat 0 s7 m7 (by decide) (by omega) o7 p7 l7 e7
end XF
