/-! ===== more operations ===== -/
section OQ
variable {D : vD} {E : Int → Int} {z : vZs} {t : vTE} {m m' : vm_M} {S : Nat → Int → Bool}
theorem XC.fo (h : vfr S m m') (hs : ∀ k i, (3 ≤ k ∧ k ≤ 13) ∨ (65 ≤ k ∧ k ≤ 85) → S k i = false) (h15 : S 0 15 = false) (hX : XC D E m) : XC D E m' := by
  obtain ⟨h1, h2, h3, h4, h5, h6, h7⟩ := hX
  refine ⟨h1.fr h (hs _ _ (by omega)) (fun _ => hs _ _ (by omega)) (fun _ => hs _ _ (by omega)), h2.fr h (hs _ _ (by omega)) (fun _ => hs _ _ (by omega)) (fun _ => hs _ _ (by omega)) (fun _ => hs _ _ (by omega)), h3.fr h (fun _ => hs _ _ (by omega)) (hs _ _ (by omega)) (hs _ _ (by omega)), by rw [h _ _ (hs _ _ (by omega)), h4], ?_, by rw [h _ _ (hs _ _ (by omega)), h6], by rw [h _ _ (hs _ _ (by omega)), h7]⟩
  rw [h 0 15 h15]
  rcases h5 with a | a
  · exact Or.inl a
  · exact Or.inr ⟨a.1, a.2.fr h (fun k i b => hs _ _ (by omega))⟩
theorem s_correct (c : OC D E) (hZ : ZO D z) {a b v : Int} : ∀ (Q : Int → vm_M → Prop) (m : vm_M), XC D E m → XR D z m → (¬ (dk D a ∧ dk D b ∧ -9 ≤ v ∧ v ≤ 9) → Q (-1) m) → (dk D a ∧ dk D b ∧ -9 ≤ v ∧ v ≤ 9 → dK D (26 * a + b) = v → Q (-2) m) → (dk D a ∧ dk D b ∧ -9 ≤ v ∧ v ≤ 9 → dK D (26 * a + b) ≠ v → ∀ m', vfr vSxx m m' → XC (teD D (tK (teN D E) (26 * a + b) v)) (tK (teN D E) (26 * a + b) v).2 m' → XR (teD D (tK (teN D E) (26 * a + b) v)) (zP z (teN D E)) m' → Q (dK D (26 * a + b) + 9) m') → vm_C 107 [vm_r 0, vm_i a, vm_i b, vm_i v] m (vm_qi Q) := by
  have hO := c
  have hc8 : zc (zP z (teN D E)) ≤ 8 := (zP_ok hZ hO.TO).2.2.1
  intro Q m hX rX ha hb hc
  refine ru10_correct_0 (sx_knows rfl hX.1 (fun k => ⟨fun q => by omega, fun _ => sx_knows rfl hX.1 (fun k2 => ⟨fun q => by omega, fun _ => ⟨fun q => ha (fun x => by omega), fun q => ⟨fun q2 => ?_, fun q2 => ha (fun x => by omega)⟩⟩⟩) (fun k2 => ⟨fun _ => ha (fun x => k2 x.2.1), fun q => absurd rfl q⟩)⟩) (fun k => ⟨fun _ => ha (fun x => k x.1), fun q => absurd rfl q⟩))
  have hbd := hO.2.1.1 (26 * a + b) (by have := k.1; have := k2.1; omega) (by have := k.2.1; have := k2.2.1; omega)
  have ka := k.1
  have ka2 := k.2.1
  have kb := k2.1
  have kb2 := k2.2.1
  have hV : dk D a ∧ dk D b ∧ -9 ≤ v ∧ v ≤ 9 := ⟨k, k2, by omega, q2⟩
  refine sx_corrOf rfl hX.2.1 ⟨ka, ka2⟩ ⟨kb, kb2⟩ ⟨fun ne => sx_begin hO hZ hX rX (fun m1 f1 b1 T1 => ⟨by omega, ?_⟩), fun e => hb hV (Decidable.not_not.mp e)⟩
  rw [show a * 26 + b = 26 * a + b by omega]
  have r := (b1.st (k := 11) (i := 26 * a + b) (v := v) ⟨by decide, by decide⟩ hc8).new (TX_K T1)
  exact hc hV ne _ ((vSh_xx f1).st (vSxx_t (by decide))) r.1 r.2
theorem s_setBreak (c : OC D E) (hZ : ZO D z) {v : Int} : ∀ (Q : Int → vm_M → Prop) (m : vm_M), XC D E m → XR D z m → (¬ (v = 0 ∨ v = 1) → Q (-1) m) → (v = 0 ∨ v = 1 → E 6 = v → Q (-2) m) → (v = 0 ∨ v = 1 → E 6 ≠ v → ∀ m', vfr vSxx m m' → XC (teD D (tE (teN D E) 6 v)) (tE (teN D E) 6 v).2 m' → XR (teD D (tE (teN D E) 6 v)) (zP z (teN D E)) m' → Q (E 6) m') → vm_C 108 [vm_r 0, vm_i v] m (vm_qi Q) := by
  have hO := c
  have h6 := hO.2.2.2.2.2.2.2.2.1
  have hc8 : zc (zP z (teN D E)) ≤ 8 := (zP_ok hZ hO.TO).2.2.1
  intro Q m hX rX ha hb hc
  have e6 : m 9 4 = E 6 := hX.2.2.1.2.2.2.2.2.2.1
  have op : (v = 0 ∨ v = 1) → (¬ m 9 4 = v → vm_C 114 [vm_r 0] m (vm_qv (fun m1 => Q (m 9 4) (vm_st m1 9 4 v)))) ∧ (¬ ¬ m 9 4 = v → Q (-2) m) := fun q => by
    rw [e6]
    refine ⟨fun ne => sx_begin hO hZ hX rX (fun m1 f1 b1 T1 => ?_), fun e => hb q (Decidable.not_not.mp e)⟩
    have r := (b1.st (k := 9) (i := 4) (v := v) ⟨by decide, by decide⟩ hc8).new (TX_6 T1)
    exact hc q ne _ ((vSh_xx f1).st (vSxx_t (by decide))) r.1 r.2
  exact ru10_setBreak_0 ⟨fun q => op (Or.inl q), fun q => ⟨fun q2 => op (Or.inr q2), fun q2 => ha (by omega)⟩⟩
theorem s_setFill (c : OC D E) (hZ : ZO D z) {v : Int} (hv : v = 0 ∨ v = 1) : ∀ (Q : Int → vm_M → Prop) (m : vm_M), XC D E m → XR D z m → (E 7 = v → Q (-2) m) → (E 7 ≠ v → ∀ m', vfr vSxx m m' → XC (teD D (tE (teN D E) 7 v)) (tE (teN D E) 7 v).2 m' → XR (teD D (tE (teN D E) 7 v)) (zP z (teN D E)) m' → Q 1 m') → vm_C 109 [vm_r 0, vm_i v] m (vm_qi Q) := by
  have hO := c
  have hc8 : zc (zP z (teN D E)) ≤ 8 := (zP_ok hZ hO.TO).2.2.1
  intro Q m hX rX hb hc
  have e7 : m 9 5 = E 7 := hX.2.2.1.2.2.2.2.2.2.2
  refine ru10_setFill_0 ?_
  rw [e7]
  refine ⟨fun ne => sx_begin hO hZ hX rX (fun m1 f1 b1 T1 => ⟨hv, ?_⟩), fun e => hb (Decidable.not_not.mp e)⟩
  have r := (b1.st (k := 9) (i := 5) (v := v) ⟨by decide, by decide⟩ hc8).new (TX_7 T1)
  exact hc ne _ ((vSh_xx f1).st (vSxx_t (by decide))) r.1 r.2
-- TODO q_errorPosition
-- TODO q_tapeLength
def zT (z : vZs) (n : Int) : vZs := (n, z.2)
theorem s_truncate (c : OC D E) (hZ : ZO D z) {v : Int} : ∀ (Q : Int → vm_M → Prop) (m : vm_M), XC D E m → XR D z m → (¬ (0 ≤ v ∧ v ≤ zn z) → Q (-1) m) → (0 ≤ v ∧ v ≤ zn z → ∀ m', vfr vSxx m m' → XC D E m' → XR D (zT z (zn z - v)) m' → Q (zn z - v) m') → vm_C 102 [vm_r 0, vm_i v] m (vm_qi Q) := by
  have hn := hZ.1
  intro Q m hX rX ha hc
  refine ru10_truncate_0 ⟨fun q => ha (by omega), fun q => ?_⟩
  rw [rX.1.1, vst_s]
  refine ⟨fun q2 => ⟨by omega, hc ⟨by omega, q2⟩ _ (vfr.rf.st rfl) ?_ ?_⟩, fun q2 => ha (by omega)⟩
  · exact hX.fo (S := fun a _ => Nat.beq a 1) (vfr.rf.st rfl) (fun k i a => Bool.eq_false_iff.mpr (fun q => by have := vm_beq q; omega)) rfl
  · have r := rX.2
    have f : vfr (fun a _ => Nat.beq a 1) m (vm_st m 1 1 (zn z - v)) := vfr.rf.st rfl
    have n : ∀ (k : Nat) (i : Int), k ≠ 1 → (fun (a : Nat) (_ : Int) => Nat.beq a 1) k i = false := fun k i a => Bool.eq_false_iff.mpr (fun q => a (vm_beq q))
    refine ⟨⟨vst_s _ _ _ _, fun i a b => ?_⟩, by rw [vst_k (by decide)]; exact r.1, r.2.1.fr f (fun k i a b => n k i (by omega)) hZ.2.2.1, r.2.2.1.fr f (fun k i a => n k i (by omega)), r.2.2.2.fr f (fun k i a => n k i (by omega))⟩
    rw [vst_k (by decide)]
    exact rX.1.2 i a (by have : i < zn z - v := b; omega)
end OQ
