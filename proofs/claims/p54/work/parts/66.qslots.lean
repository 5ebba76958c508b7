/-! ===== the slots and the way back ===== -/
section SL
variable {D : vD} {E : Int → Int} {z : vZs} {t : vTE} {m m' : vm_M} {S : Nat → Int → Bool}
theorem TO.OC {t : vTE} (hD : dOA D) (h : TO D t) : OC (teD D t) t.2 := ⟨hD, h.1, h.2⟩
def zK (z : vZs) (v : Nat) (t : vTE) : vZs := (zn z, zb z, ze z, zc z, zh z, fun s => if s = v then 1 else zk z s, fun s => if s = v then t else zs z s)
theorem zK_ok {v : Nat} (hZ : ZO D z) (ht : TO D t) : ZO D (zK z v t) := by
  refine ⟨hZ.1, hZ.2.1, hZ.2.2.1, hZ.2.2.2.1, fun s hs => ?_⟩
  show ((if s = v then (1 : Int) else zk z s) = 0 ∨ (if s = v then (1 : Int) else zk z s) = 1) ∧ ((if s = v then (1 : Int) else zk z s) = 1 → TO D (if s = v then t else zs z s))
  by_cases q : s = v
  · rw [if_pos q, if_pos q]; exact ⟨Or.inr rfl, fun _ => ht⟩
  · rw [if_neg q, if_neg q]; exact hZ.2.2.2.2 s hs
/-- a block of the model copied to the current setting or from it -/
def vSo (o : Nat) (k : Nat) (_ : Int) : Bool := Nat.beq k o
theorem vSo_n {o k : Nat} {i : Int} (h : k ≠ o) : vSo o k i = false := Bool.eq_false_iff.mpr (fun q => h (vm_beq q))
theorem vSo_t {o : Nat} {i : Int} : vSo o o i = true := Nat.beq_refl o
theorem s_keep (c : OC D E) (hZ : ZO D z) {v : Int} : ∀ (Q : Int → vm_M → Prop) (m : vm_M), XC D E m → XR D z m → (¬ (0 ≤ v ∧ v ≤ 1) → Q (-1) m) → (∀ u : Nat, v = u → u < 2 → ∀ m', vfr vSxx m m' → XC D E m' → XR D (zK z u (teN D E)) m' → Q (dN D) m') → vm_C 111 [vm_r 0, vm_i v] m (vm_qi Q) := by
  have hO := c
  intro Q m hX rX ha hc
  refine ru10_keep_0 ⟨fun q => ha (by omega), fun q => ⟨fun q2 => ha (by omega), fun q2 => ⟨⟨by omega, by omega⟩, ⟨by omega, by omega⟩, ?_⟩⟩⟩
  obtain ⟨u, rfl⟩ : ∃ u : Nat, v = u := ⟨v.toNat, by omega⟩
  have hu : u < 2 := by omega
  rw [Int.toNat_natCast]
  have his : vm_is (86 + 5 * u) 4 = true := by
    have : u = 0 ∨ u = 1 := by omega
    rcases this with q | q <;> rw [q] <;> rfl
  refine sx_copy his rfl (Or.inl (by omega)) hO.TO hX.TX (fun m1 f1 T1 => ⟨⟨by omega, by omega⟩, ?_⟩)
  have f : vfr (fun k i => vSt (86 + 5 * u) k i || Nat.beq k 64) m (vm_st m1 64 u 1) := (f1.sub (fun k i hk => by rw [hk]; rfl)).st (by
    show (vSt (86 + 5 * u) 64 (u : Int) || true) = true
    rw [Bool.or_true])
  have n : ∀ (k : Nat) (i : Int), k ≠ 64 → (k < 86 + 5 * u ∨ 86 + 5 * u + 4 < k) → (fun (k : Nat) (i : Int) => vSt (86 + 5 * u) k i || Nat.beq k 64) k i = false := fun k i a b => by
    dsimp only
    rw [vSt_n b, show Nat.beq k 64 = false from Bool.eq_false_iff.mpr (fun q => a (vm_beq q))]; rfl
  have e6 : vm_st m1 64 u 1 9 6 = dN D := by rw [vst_k (by decide), f1 _ _ (vSt_n (by omega))]; exact hX.2.1.1
  rw [e6]
  refine hc u rfl hu _ (f.sub (fun k i hk => vSxx_t (by
    rcases Nat.lt_or_ge k 96 with a | a
    · exact a
    · exact absurd (hk.symm.trans (n k i (by omega) (by omega))) (by decide)))) (hX.fo f (fun k i a => n k i (by omega) (by omega)) (n _ _ (by decide) (by omega))) ?_
  have r := rX
  refine ⟨r.1.fr f (fun k i a => n k i (by omega) (by omega)), by rw [f _ _ (n _ _ (by decide) (by omega))]; exact r.2.1, r.2.2.1.fr f (fun k i a b => n k i (by omega) (by omega)) hZ.2.2.1, fun s hs => ?_, r.2.2.2.2.fr f (fun k i a => n k i (by omega) (by omega))⟩
  show vm_st m1 64 u 1 64 s = (if s = u then (1 : Int) else zk z s) ∧ ((if s = u then (1 : Int) else zk z s) = 1 → TX D (if s = u then teN D E else zs z s) (vm_st m1 64 u 1) (86 + 5 * s))
  by_cases q : s = u
  · rw [if_pos q, if_pos q, q]
    exact ⟨vst_s _ _ _ _, fun _ => T1.fr (S := fun k _ => Nat.beq k 64) (vfr.rf.st rfl) (fun k i a b => Bool.eq_false_iff.mpr (fun q => by have := vm_beq q; omega))⟩
  · rw [if_neg q, if_neg q, vst_i (by omega), f1 64 s (vSt_n (by omega))]
    have x := r.2.2.2.1 s hs
    exact ⟨x.1, fun k => (x.2 k).fr f (fun k i a b => n k i (by omega) (by omega))⟩
/-- the current setting of the model written anew -/
theorem MB.fo (h : vfr (vSo 100) m m') (hZ : ZO D z) (hX : MB D z m) : MB D z m' :=
  ⟨hX.1.fr h rfl rfl (fun _ => rfl) (fun _ => rfl), hX.2.fr h (fun k i a => vSo_n (by omega)) rfl rfl rfl hZ⟩
theorem s_restore (c : OC D E) (hZ : ZO D z) {v : Int} : ∀ (Q : Int → vm_M → Prop) (m : vm_M), XC D E m → XR D z m → (¬ (0 ≤ v ∧ v ≤ 1) → Q (-1) m) → (∀ u : Nat, v = u → u < 2 → zk z u ≠ 1 → Q (-2) m) → (∀ u : Nat, v = u → u < 2 → zk z u = 1 → ∀ m', vfr vSxx m m' → XC (teD D (zs z u)) (zs z u).2 m' → XR (teD D (zs z u)) (zP z (teN D E)) m' → Q (dN (teD D (zs z u))) m') → vm_C 112 [vm_r 0, vm_i v] m (vm_qi Q) := by
  have hO := c
  have hP := zP_ok hZ hO.TO
  intro Q m hX rX ha hb hc
  refine ru10_restore_0 ⟨fun q => ha (by omega), fun q => ⟨fun q2 => ha (by omega), fun q2 => ⟨⟨by omega, by omega⟩, ⟨by omega, by omega⟩, ?_⟩⟩⟩
  obtain ⟨u, rfl⟩ : ∃ u : Nat, v = u := ⟨v.toNat, by omega⟩
  have hu : u < 2 := by omega
  have x := rX.2.2.2.1 u hu
  have y := (hZ.2.2.2.2 u hu)
  rw [x.1, Int.toNat_natCast]
  refine ⟨fun q3 => ?_, fun q3 => hb u rfl hu (by omega)⟩
  have e1 : zk z u = 1 := by omega
  have his : vm_is (86 + 5 * u) 4 = true := by
    have : u = 0 ∨ u = 1 := by omega
    rcases this with q | q <;> rw [q] <;> rfl
  refine sx_begin hO hZ hX rX (fun m1 f1 b1 T1 => ⟨⟨by omega, by omega⟩, sx_copy rfl his (Or.inr (by omega)) (y.2 e1) ?_ (fun m2 f2 T2 => ?_)⟩)
  · exact (b1.2.2.2.2.2.2.2.2.1 u hu).2 e1
  · have b2 := b1.fr f2 (fun k i a => vSt_n (by omega)) hP.2.2.1
    have r := b2.new T2
    have e6 : m2 9 6 = dN (teD D (zs z u)) := T2.1.1
    rw [e6]
    exact hc u rfl hu e1 m2 ((vSh_xx f1).tr (f2.sub (fun k i hk => vSxx_t (by
      rcases Nat.lt_or_ge k 96 with a | a
      · exact a
      · rw [vSt_n (by omega)] at hk; cases hk)))) r.1 r.2
end SL
