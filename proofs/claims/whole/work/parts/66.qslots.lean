/-! ===== the slots and the way back ===== -/
section SL
variable {D : vD} {E : Int → Int} {z : vZs} {t : vTE} {m m' : vm_M} {S : Nat → Int → Bool}
theorem TO.OC {t : vTE} (hD : dOA D) (h : TO D t) : OC (teD D t) t.2 := ⟨hD, h.1, h.2⟩
def zK (z : vZs) (v : Nat) (t : vTE) : vZs := (zn z, zb z, ze z, zc z, zh z, fun s => if s = v then 1 else zk z s, fun s => if s = v then t else zs z s)
theorem zK_ok {v : Nat} (hZ : ZO D z) (ht : TO D t) : ZO D (zK z v t) := by
  refine ⟨hZ.1, hZ.2.1, hZ.2.2.1, hZ.2.2.2.1, fun s hs => ?_⟩
  show ((if s = v then (1 : Int) else zk z s) = 0 ∨ (if s = v then (1 : Int) else zk z s) = 1) ∧ ((if s = v then (1 : Int) else zk z s) = 1 → TO D (if s = v then t else zs z s))
  by_cases q : s = v
  · rw [if_pos q, if_pos q]; exact ⟨Or.inr rfl, fun _ => ht⟩
  · rw [if_neg q, if_neg q]; exact hZ.2.2.2.2 s hs
/-- a block of the model copied to the current setting or from it -/
def vSo (o : Nat) (k : Nat) (_ : Int) : Bool := Nat.beq k o
theorem vSo_n {o k : Nat} {i : Int} (h : k ≠ o) : vSo o k i = false := Bool.eq_false_iff.mpr (fun q => h (vm_beq q))
theorem vSo_t {o : Nat} {i : Int} : vSo o o i = true := Nat.beq_refl o
theorem q_keep (c : CC D E m) (hZ : ZO D z) (rx : XR D z m) (rm : MR D z m) {v : Int} {G : Int → Int → vm_M → Prop} (h : ∀ w m', vP m m' → INV m' → G w w m') : vm_C 111 [vm_r 0, vm_i v] m (vm_qi (fun z1 m1 => vP m m1 ∧ vm_C 231 [vm_r 96, vm_i v] m1 (vm_qi (fun z2 m2 => G z1 z2 m2)))) := by
  have hO := c.1
  have sx : ∀ (Q : Int → vm_M → Prop) (m : vm_M), XC D E m → XR D z m → (¬ (0 ≤ v ∧ v ≤ 1) → Q (-1) m) → (∀ u : Nat, v = u → u < 2 → ∀ m', vfr vSxx m m' → XC D E m' → XR D (zK z u (teN D E)) m' → Q (dN D) m') → vm_C 111 [vm_r 0, vm_i v] m (vm_qi Q) := by
    intro Q m hX rX ha hc
    refine ru10_keep_0 ⟨fun q => ha (by omega), fun q => ⟨fun q2 => ha (by omega), fun q2 => ⟨⟨by omega, by omega⟩, ⟨by omega, by omega⟩, ?_⟩⟩⟩
    obtain ⟨u, rfl⟩ : ∃ u : Nat, v = u := ⟨v.toNat, by omega⟩
    have hu : u < 2 := by omega
    rw [Int.toNat_natCast]
    have his : vm_is (86 + 5 * u) 4 = true := by
      have : u = 0 ∨ u = 1 := by omega
      rcases this with q | q <;> rw [q] <;> rfl
    refine sx_copy his rfl (Or.inl (by omega)) hO.TO hX.TX (fun m1 f1 T1 => ⟨⟨by omega, by omega⟩, ?_⟩)
    have f : vfr (fun k i => vSt (86 + 5 * u) k i || Nat.beq k 64) m (vm_st m1 64 u 1) := (f1.sub (fun k i hk => by rw [hk]; rfl)).st (by
      show (vSt (86 + 5 * u) 64 (u : Int) || true) = true
      rw [Bool.or_true])
    have n : ∀ (k : Nat) (i : Int), k ≠ 64 → (k < 86 + 5 * u ∨ 86 + 5 * u + 4 < k) → (fun (k : Nat) (i : Int) => vSt (86 + 5 * u) k i || Nat.beq k 64) k i = false := fun k i a b => by
      dsimp only
      rw [vSt_n b, show Nat.beq k 64 = false from Bool.eq_false_iff.mpr (fun q => a (vm_beq q))]; rfl
    have e6 : vm_st m1 64 u 1 9 6 = dN D := by rw [vst_k (by decide), f1 _ _ (vSt_n (by omega))]; exact hX.2.1.1
    rw [e6]
    refine hc u rfl hu _ (f.sub (fun k i hk => vSxx_t (by
      rcases Nat.lt_or_ge k 96 with a | a
      · exact a
      · exact absurd (hk.symm.trans (n k i (by omega) (by omega))) (by decide)))) (hX.fo f (fun k i a => n k i (by omega) (by omega)) (n _ _ (by decide) (by omega))) ?_
    have r := rX
    refine ⟨r.1.fr f (fun k i a => n k i (by omega) (by omega)), by rw [f _ _ (n _ _ (by decide) (by omega))]; exact r.2.1, r.2.2.1.fr f (fun k i a b => n k i (by omega) (by omega)) hZ.2.2.1, fun s hs => ?_, r.2.2.2.2.fr f (fun k i a => n k i (by omega) (by omega))⟩
    show vm_st m1 64 u 1 64 s = (if s = u then (1 : Int) else zk z s) ∧ ((if s = u then (1 : Int) else zk z s) = 1 → TX D (if s = u then teN D E else zs z s) (vm_st m1 64 u 1) (86 + 5 * s))
    by_cases q : s = u
    · rw [if_pos q, if_pos q, q]
      exact ⟨vst_s _ _ _ _, fun _ => T1.fr (S := fun k _ => Nat.beq k 64) (vfr.rf.st rfl) (fun k i a b => Bool.eq_false_iff.mpr (fun q => by have := vm_beq q; omega))⟩
    · rw [if_neg q, if_neg q, vst_i (by omega), f1 64 s (vSt_n (by omega))]
      have x := r.2.2.2.1 s hs
      exact ⟨x.1, fun k => (x.2 k).fr f (fun k i a b => n k i (by omega) (by omega))⟩
  have sm : ∀ (Q : Int → vm_M → Prop) (m : vm_M), MC D E m → MR D z m → (¬ (0 ≤ v ∧ v ≤ 1) → Q (-1) m) → (∀ u : Nat, v = u → u < 2 → ∀ m', vfr vSmm m m' → MC D E m' → MR D (zK z u (teN D E)) m' → Q (dN D) m') → vm_C 231 [vm_r 96, vm_i v] m (vm_qi Q) := by
    intro Q m hM rM ha hc
    refine ru11_keep_0 (sm_in (fun q => ⟨fun _ => ?_, fun x => absurd (show ¬ (1 : Int) = 0 by decide) x⟩) (fun q => ⟨fun x => absurd rfl x, fun _ => ha q⟩))
    obtain ⟨u, rfl⟩ : ∃ u : Nat, v = u := ⟨v.toNat, by omega⟩
    have hu : u < 2 := by omega
    have go : ∀ (n : Nat) (j : Int) (m2 : vm_M), 0 ≤ j → j + n = 1075 → vfr (vSo 102) m m2 → (∀ i, i < 1075 * (u : Int) ∨ 1075 * (u : Int) + 1075 ≤ i → m2 102 i = m 102 i) → (∀ k, 0 ≤ k → k < j → m2 102 (1075 * (u : Int) + k) = m 100 k) → ku11_keep_14 u j m2 Q := by
      intro n
      induction n with
      | zero =>
        intro j m2 hj hn f2 hlo hcp
        refine ru11_keep_14 ⟨fun _ => ⟨⟨by omega, by omega⟩, ?_⟩, fun q => by omega⟩
        have f : vfr (fun k _ => Nat.beq k 102 || Nat.beq k 103) m (vm_st m2 103 u 1) := (f2.sub (fun k i hk => by
          have : k = 102 := vm_beq hk
          rw [this]; rfl)).st rfl
        have nn : ∀ (k : Nat) (i : Int), k ≠ 102 → k ≠ 103 → (fun (k : Nat) (_ : Int) => Nat.beq k 102 || Nat.beq k 103) k i = false := fun k i a b => by
          dsimp only
          rw [show Nat.beq k 102 = false from Bool.eq_false_iff.mpr (fun q => a (vm_beq q)), show Nat.beq k 103 = false from Bool.eq_false_iff.mpr (fun q => b (vm_beq q))]; rfl
        have e8 : vm_st m2 103 u 1 100 8 = dN D := by rw [vst_k (by decide), f2 _ _ (vSo_n (by decide))]; exact hM.2.1.1
        rw [e8]
        refine hc u rfl hu _ (f.sub (fun k i hk => vSmm_t (by
          by_cases a : k = 102
          · omega
          · by_cases b : k = 103
            · omega
            · exact absurd (hk.symm.trans (nn k i a b)) (by decide)))) (hM.fr f (fun k i a => nn k i (by omega) (by omega)) rfl rfl) ⟨rM.1.fr f (fun _ => rfl) rfl, by rw [f 96 2 rfl]; exact rM.2.1, rM.2.2.1.fr f (fun _ => rfl) rfl hZ.2.2.2.1, fun s hs => ?_⟩
        show vm_st m2 103 u 1 103 s = (if s = u then (1 : Int) else zk z s) ∧ ((if s = u then (1 : Int) else zk z s) = 1 → TM D (if s = u then teN D E else zs z s) (vm_st m2 103 u 1) 102 (1075 * s))
        by_cases q : s = u
        · rw [if_pos q, if_pos q, q]
          exact ⟨vst_s _ _ _ _, fun _ => hM.TM.cp hO.TO (fun k a b => by rw [vst_k (by decide), hcp k a (by omega), Int.zero_add])⟩
        · rw [if_neg q, if_neg q, vst_i (by omega), f2 103 s (vSo_n (by decide))]
          have x := rM.2.2.2 s hs
          exact ⟨x.1, fun k => (x.2 k).cp ((hZ.2.2.2.2 s hs).2 k) (fun k a b => by rw [vst_k (by decide), hlo _ (by omega)])⟩
      | succ n ih =>
        intro j m2 hj hn f2 hlo hcp
        refine ru11_keep_14 ⟨fun q => by omega, fun _ => ?_⟩
        rw [f2 100 j (vSo_n (by decide))]
        refine ⟨by omega, ih (j + 1) _ (by omega) (by omega) (f2.st vSo_t) (fun i hi => ?_) (fun k a b => ?_)⟩
        · rw [vst_i (by omega)]; exact hlo i hi
        · by_cases q : k = j
          · rw [q, vst_s]
          · rw [vst_i (by omega)]; exact hcp k a (by omega)
    exact go 1075 0 m (Int.le_refl _) (by decide) vfr.rf (fun i _ => rfl) (fun k a b => by omega)
  by_cases q : 0 ≤ v ∧ v ≤ 1
  · obtain ⟨u, rfl⟩ : ∃ u : Nat, v = u := ⟨v.toNat, by omega⟩
    exact opair (z' := zK z u (teN D E)) c hZ rx rm (dN D) (fun Q m hX rX h => sx Q m hX rX (fun n => absurd q n) (fun u2 e _ m' f x r => h m' f x (by obtain rfl := Int.ofNat.inj e; exact r))) (fun Q m hX rX h => sm Q m hX rX (fun n => absurd q n) (fun u2 e _ m' f x r => h m' f x (by obtain rfl := Int.ofNat.inj e; exact r))) hO (zK_ok hZ hO.TO) h
  · exact opair c hZ rx rm (-1) (fun Q m hX rX h => sx Q m hX rX (fun _ => h m vfr.rf hX rX) (fun u e hu => absurd (show 0 ≤ v ∧ v ≤ 1 by omega) q)) (fun Q m hX rX h => sm Q m hX rX (fun _ => h m vfr.rf hX rX) (fun u e hu => absurd (show 0 ≤ v ∧ v ≤ 1 by omega) q)) hO hZ h
/-- the current setting of the model written anew -/
theorem MB.fo (h : vfr (vSo 100) m m') (hZ : ZO D z) (hX : MB D z m) : MB D z m' :=
  ⟨hX.1.fr h rfl rfl (fun _ => rfl) (fun _ => rfl), hX.2.fr h (fun k i a => vSo_n (by omega)) rfl rfl rfl hZ⟩
theorem q_restore (c : CC D E m) (hZ : ZO D z) (rx : XR D z m) (rm : MR D z m) {v : Int} {G : Int → Int → vm_M → Prop} (h : ∀ w m', vP m m' → INV m' → G w w m') : vm_C 112 [vm_r 0, vm_i v] m (vm_qi (fun z1 m1 => vP m m1 ∧ vm_C 232 [vm_r 96, vm_i v] m1 (vm_qi (fun z2 m2 => G z1 z2 m2)))) := by
  have hO := c.1
  have hP := zP_ok hZ hO.TO
  have sx : ∀ (Q : Int → vm_M → Prop) (m : vm_M), XC D E m → XR D z m → (¬ (0 ≤ v ∧ v ≤ 1) → Q (-1) m) → (∀ u : Nat, v = u → u < 2 → zk z u ≠ 1 → Q (-2) m) → (∀ u : Nat, v = u → u < 2 → zk z u = 1 → ∀ m', vfr vSxx m m' → XC (teD D (zs z u)) (zs z u).2 m' → XR (teD D (zs z u)) (zP z (teN D E)) m' → Q (dN (teD D (zs z u))) m') → vm_C 112 [vm_r 0, vm_i v] m (vm_qi Q) := by
    intro Q m hX rX ha hb hc
    refine ru10_restore_0 ⟨fun q => ha (by omega), fun q => ⟨fun q2 => ha (by omega), fun q2 => ⟨⟨by omega, by omega⟩, ⟨by omega, by omega⟩, ?_⟩⟩⟩
    obtain ⟨u, rfl⟩ : ∃ u : Nat, v = u := ⟨v.toNat, by omega⟩
    have hu : u < 2 := by omega
    have x := rX.2.2.2.1 u hu
    have y := (hZ.2.2.2.2 u hu)
    rw [x.1, Int.toNat_natCast]
    refine ⟨fun q3 => ?_, fun q3 => hb u rfl hu (by omega)⟩
    have e1 : zk z u = 1 := by omega
    have his : vm_is (86 + 5 * u) 4 = true := by
      have : u = 0 ∨ u = 1 := by omega
      rcases this with q | q <;> rw [q] <;> rfl
    refine sx_begin hO hZ hX rX (fun m1 f1 b1 T1 => ⟨⟨by omega, by omega⟩, sx_copy rfl his (Or.inr (by omega)) (y.2 e1) ?_ (fun m2 f2 T2 => ?_)⟩)
    · exact (b1.2.2.2.2.2.2.2.2.1 u hu).2 e1
    · have b2 := b1.fr f2 (fun k i a => vSt_n (by omega)) hP.2.2.1
      have r := b2.new T2
      have e6 : m2 9 6 = dN (teD D (zs z u)) := T2.1.1
      rw [e6]
      exact hc u rfl hu e1 m2 ((vSh_xx f1).tr (f2.sub (fun k i hk => vSxx_t (by
        rcases Nat.lt_or_ge k 96 with a | a
        · exact a
        · rw [vSt_n (by omega)] at hk; cases hk)))) r.1 r.2
  have sm : ∀ (Q : Int → vm_M → Prop) (m : vm_M), MC D E m → MR D z m → (¬ (0 ≤ v ∧ v ≤ 1) → Q (-1) m) → (∀ u : Nat, v = u → u < 2 → zk z u ≠ 1 → Q (-2) m) → (∀ u : Nat, v = u → u < 2 → zk z u = 1 → ∀ m', vfr vSmm m m' → MC (teD D (zs z u)) (zs z u).2 m' → MR (teD D (zs z u)) (zP z (teN D E)) m' → Q (dN (teD D (zs z u))) m') → vm_C 232 [vm_r 96, vm_i v] m (vm_qi Q) := by
    intro Q m hM rM ha hb hc
    refine ru11_restore_0 (sm_in (fun q => ⟨fun _ => ⟨⟨by omega, by omega⟩, ?_⟩, fun x => absurd (show ¬ (1 : Int) = 0 by decide) x⟩) (fun q => ⟨fun x => absurd rfl x, fun _ => ha q⟩))
    obtain ⟨u, rfl⟩ : ∃ u : Nat, v = u := ⟨v.toNat, by omega⟩
    have hu : u < 2 := by omega
    have x := rM.2.2.2 u hu
    have y := (hZ.2.2.2.2 u hu)
    rw [x.1]
    refine ⟨fun q3 => ?_, fun q3 => hb u rfl hu (by omega)⟩
    have e1 : zk z u = 1 := by omega
    refine sm_keeps hO hZ hM rM (fun m1 f1 b1 T1 => ?_)
    have T := (b1.2.2.2.2 u hu).2 e1
    have go : ∀ (n : Nat) (j : Int) (m2 : vm_M), 0 ≤ j → j + n = 1075 → vfr (vSo 100) m1 m2 → (∀ k, 0 ≤ k → k < j → m2 100 k = m1 102 (1075 * (u : Int) + k)) → ku11_restore_30 u j m2 Q := by
      intro n
      induction n with
      | zero =>
        intro j m2 hj hn f2 hcp
        refine ru11_restore_30 ⟨fun _ => ?_, fun q => by omega⟩
        have T2 : TM D (zs z u) m2 100 0 := T.cp (y.2 e1) (fun k a b => by rw [Int.zero_add]; exact hcp k a (by omega))
        have b2 := b1.fo f2 hP
        have r := b2.new T2
        have e8 : m2 100 8 = dN (teD D (zs z u)) := by have := T2.1.1; rw [Int.zero_add] at this; exact this
        rw [e8]
        exact hc u rfl hu e1 m2 ((vS1_mm f1).tr (f2.sub (fun k i hk => vSmm_t (by have := vm_beq hk; omega)))) r.1 r.2
      | succ n ih =>
        intro j m2 hj hn f2 hcp
        refine ru11_restore_30 ⟨fun q => by omega, fun _ => ?_⟩
        rw [f2 102 (1075 * (u : Int) + j) (vSo_n (by decide))]
        refine ⟨by omega, ih (j + 1) _ (by omega) (by omega) (f2.st vSo_t) (fun k a b => ?_)⟩
        by_cases q : k = j
        · rw [q, vst_s]
        · rw [vst_i (by omega)]; exact hcp k a (by omega)
    exact go 1075 0 m1 (Int.le_refl _) (by decide) vfr.rf (fun k a b => by omega)
  by_cases q : 0 ≤ v ∧ v ≤ 1
  · obtain ⟨u, rfl⟩ : ∃ u : Nat, v = u := ⟨v.toNat, by omega⟩
    have hu : u < 2 := by omega
    by_cases e : zk z u = 1
    · refine opair c hZ rx rm (dN (teD D (zs z u))) (fun Q m hX rX h => sx Q m hX rX (fun n => absurd q n) (fun u2 e2 _ ne => ?_) (fun u2 e2 _ _ m' f x r => ?_)) (fun Q m hX rX h => sm Q m hX rX (fun n => absurd q n) (fun u2 e2 _ ne => ?_) (fun u2 e2 _ _ m' f x r => ?_)) (((hZ.2.2.2.2 u hu).2 e).OC hO.1) hP h
      · exact absurd (by rw [show u2 = u by omega]; exact e) ne
      · obtain rfl : u = u2 := by omega
        exact h m' f x r
      · exact absurd (by rw [show u2 = u by omega]; exact e) ne
      · obtain rfl : u = u2 := by omega
        exact h m' f x r
    · exact opair c hZ rx rm (-2) (fun Q m hX rX h => sx Q m hX rX (fun n => absurd q n) (fun _ _ _ _ => h m vfr.rf hX rX) (fun u2 e2 _ e3 => absurd (by rw [show u = u2 by omega]; exact e3) e)) (fun Q m hX rX h => sm Q m hX rX (fun n => absurd q n) (fun _ _ _ _ => h m vfr.rf hX rX) (fun u2 e2 _ e3 => absurd (by rw [show u = u2 by omega]; exact e3) e)) hO hZ h
  · exact opair c hZ rx rm (-1) (fun Q m hX rX h => sx Q m hX rX (fun _ => h m vfr.rf hX rX) (fun u e hu => absurd (show 0 ≤ v ∧ v ≤ 1 by omega) q) (fun u e hu => absurd (show 0 ≤ v ∧ v ≤ 1 by omega) q)) (fun Q m hX rX h => sm Q m hX rX (fun _ => h m vfr.rf hX rX) (fun u e hu => absurd (show 0 ≤ v ∧ v ≤ 1 by omega) q) (fun u e hu => absurd (show 0 ≤ v ∧ v ≤ 1 by omega) q)) hO hZ h
end SL
