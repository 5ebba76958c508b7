/-! ===== tokens, as the model reads them ===== -/
/-- the letters of a run, packed -/
def tpk (b : Int → Int) (f : Int) : Nat → Int
  | 0 => 0
  | k + 1 => 32 * tpk b f k + b (f + k) - 96
def tkey (w : Int) : Prop := w = 2590276 ∨ w = 398372 ∨ w = 3120 ∨ w = 7216 ∨ w = 769604 ∨ w = 632645 ∨ w = 408572082 ∨ w = 763013 ∨ w = 398548 ∨ w = 19176724 ∨ w = 508078 ∨ w = 525618 ∨ w = 113757362 ∨ w = 24416434
def tW (b : Int → Int) (n p : Int) : Int := tpk b (tF b n p) (tE0 b n p - tF b n p).toNat
theorem tpk_bd {b : Int → Int} {f : Int} : ∀ (k : Nat), (∀ i, f ≤ i → i < f + k → 97 ≤ b i ∧ b i ≤ 122) → 0 ≤ tpk b f k ∧ (k ≤ 0 → tpk b f k ≤ 0) ∧ (k ≤ 1 → tpk b f k < 32) ∧ (k ≤ 2 → tpk b f k < 1024) ∧ (k ≤ 3 → tpk b f k < 32768) ∧ (k ≤ 4 → tpk b f k < 1048576) ∧ (k ≤ 5 → tpk b f k < 33554432) ∧ (k ≤ 6 → tpk b f k < 1073741824) ∧ (k ≤ 7 → tpk b f k < 34359738368) ∧ (k ≤ 8 → tpk b f k < 1099511627776) ∧ (1 ≤ k → 1 ≤ tpk b f k) ∧ (2 ≤ k → 32 ≤ tpk b f k) ∧ (3 ≤ k → 1024 ≤ tpk b f k) ∧ (4 ≤ k → 32768 ≤ tpk b f k) ∧ (5 ≤ k → 1048576 ≤ tpk b f k) ∧ (6 ≤ k → 33554432 ≤ tpk b f k) ∧ (7 ≤ k → 1073741824 ≤ tpk b f k) ∧ (8 ≤ k → 34359738368 ≤ tpk b f k)
  | 0, _ => by unfold tpk; omega
  | k + 1, h => by
    have i := tpk_bd k (fun i h1 h2 => h i h1 (by omega))
    have d := h (f + k) (by omega) (by omega)
    unfold tpk
    omega
section TM
variable {D : vD} {E : Int → Int} {z : vZs} {m m' : vm_M}
/-- the model's token behind p -/
def TKm (z : vZs) (p : Int) (m : vm_M) : Prop := m 96 27 = tF (zb z) (zn z) p ∧ m 96 26 = tE0 (zb z) (zn z) p ∧ (m 96 28 = 0 ↔ tKd (zb z) (zn z) p = 0) ∧ (m 96 28 = 1 ↔ tKd (zb z) (zn z) p = 1 ∧ 2 ≤ tE0 (zb z) (zn z) p - tF (zb z) (zn z) p ∧ tE0 (zb z) (zn z) p - tF (zb z) (zn z) p ≤ 8 ∧ tkey (tW (zb z) (zn z) p)) ∧ (m 96 28 = 2 ↔ tKd (zb z) (zn z) p = 1 ∧ tE0 (zb z) (zn z) p - tF (zb z) (zn z) p = 1) ∧ (m 96 28 = 3 ↔ tKd (zb z) (zn z) p = 2) ∧ (m 96 28 = 4 ↔ tKd (zb z) (zn z) p = 3) ∧ (m 96 28 = 1 ∨ m 96 28 = 2 → m 96 29 = tW (zb z) (zn z) p) ∧ (m 96 28 = 3 → m 96 30 = tN (zb z) (zn z) p)
def vTo (k : Nat) (i : Int) : Bool := Nat.beq k 96 && decide (26 ≤ i ∧ i ≤ 30)
theorem vTo_n {k : Nat} {i : Int} (h : k = 96 → ¬ (26 ≤ i ∧ i ≤ 30)) : vTo k i = false := Bool.eq_false_iff.mpr (fun q => by
  unfold vTo at q
  simp only [Bool.and_eq_true, decide_eq_true_eq] at q
  exact h (vm_beq q.1) q.2)
theorem sm_byteIn {Q : Int → vm_M → Prop} (hZ : ZO D z) (hT : MT z m) {i lo hi : Int} (h26 : m 96 26 = i) (hi0 : 0 ≤ i) (hlo : 0 ≤ lo) (hhi : hi ≤ 127) (h1 : i < zn z → lo ≤ zb z i ∧ zb z i ≤ hi → Q 1 m) (h0 : ¬ (i < zn z ∧ lo ≤ zb z i ∧ zb z i ≤ hi) → Q 0 m) : vm_C 197 [vm_r 96, vm_i lo, vm_i hi] m (vm_qi Q) := by
  have hn := hZ.1
  refine ru11_isByte_0 ?_
  rw [h26, hT.1]
  refine ⟨fun q => h0 (fun x => by omega), fun q => ?_⟩
  have hb := hZ.2.1 i hi0 (by omega)
  rw [hT.2 i hi0 (by omega)]
  have e : (lo ≤ vsg (zb z i) ∧ vsg (zb z i) ≤ hi) ↔ (lo ≤ zb z i ∧ zb z i ≤ hi) := by unfold vsg; split <;> omega
  refine ⟨⟨hi0, by omega⟩, fun q1 => h0 (fun x => ?_), fun q1 => ⟨⟨hi0, by omega⟩, fun q2 => h0 (fun x => ?_), fun q2 => h1 (by omega) (e.mp ⟨by omega, by omega⟩)⟩⟩
  · have := e.mpr x.2; omega
  · have := e.mpr x.2; omega
theorem sm_isKey {Q : Int → vm_M → Prop} {w : Int} (h1 : tkey w → Q 1 m) (h0 : ¬ tkey w → Q 0 m) : vm_C 198 [vm_l w] m (vm_qi Q) := by
  have lc : ∀ c : Int, (if w < c then (-1 : Int) else if w = c then 0 else 1) = 0 ↔ w = c := fun c => by
    repeat' split
    all_goals omega
  have t : ∀ w2, ku11_isKey_61 w w2 1 m Q ↔ ku11_isKey_61 w w2 1 m Q := fun _ => Iff.rfl
  have yes : ∀ w2, tkey w → ku11_isKey_61 w w2 1 m Q := fun w2 k => ru11_isKey_61 ⟨fun _ => h1 k, fun x => absurd (show ¬ (1 : Int) = 0 by decide) x⟩
  refine ru11_isKey_0 ?_
  simp only [lc]
  refine ⟨fun q => yes _ (by unfold tkey; omega), fun n1 => ⟨fun q => yes _ (by unfold tkey; omega), fun n2 => ⟨fun q => yes _ (by unfold tkey; omega), fun n3 => ⟨fun q => yes _ (by unfold tkey; omega), fun n4 => ⟨fun q => yes _ (by unfold tkey; omega), fun n5 => ⟨fun q => yes _ (by unfold tkey; omega), fun n6 => ⟨fun n7 => ?_, fun q => yes _ (by unfold tkey; omega)⟩⟩⟩⟩⟩⟩⟩
  refine ru11_isKey_61 ⟨fun x => absurd rfl x, fun _ => ?_⟩
  simp only [lc]
  refine ⟨fun q => h1 (by unfold tkey; omega), fun n8 => ⟨fun q => h1 (by unfold tkey; omega), fun n9 => ⟨fun q => h1 (by unfold tkey; omega), fun n10 => ⟨fun q => h1 (by unfold tkey; omega), fun n11 => ⟨fun q => h1 (by unfold tkey; omega), fun n12 => ⟨fun q => h1 (by unfold tkey; omega), fun n13 => ⟨fun n14 => h0 (by unfold tkey; omega), fun q => h1 (by unfold tkey; omega)⟩⟩⟩⟩⟩⟩⟩
/-- a run of letters -/
theorem sm_nextWord {Q : vm_M → Prop} (hZ : ZO D z) (hT : MT z m) {f e : Int} (hf : 0 ≤ f) (he : f < e) (hn : e ≤ zn z) (h26 : m 96 26 = f) (h27 : m 96 27 = f) (hd : ∀ i, f ≤ i → i < e → 97 ≤ zb z i ∧ zb z i ≤ 122) (hend : e < zn z → ¬ (97 ≤ zb z e ∧ zb z e ≤ 122)) (h : ∀ m', vfr vTo m m' → m' 96 27 = f → m' 96 26 = e → (e - f ≤ 8 → m' 96 29 = tpk (zb z) f (e - f).toNat) → (e - f = 1 → m' 96 28 = 2) → (e - f ≠ 1 → e - f ≤ 8 → tkey (tpk (zb z) f (e - f).toNat) → m' 96 28 = 1) → (e - f ≠ 1 → ¬ (e - f ≤ 8 ∧ tkey (tpk (zb z) f (e - f).toNat)) → m' 96 28 = 5) → Q m') : vm_C 199 [vm_r 96] m (vm_qv Q) := by
  have hN := hZ.1
  have fT : ∀ m2, vfr vTo m m2 → MT z m2 := fun m2 f => hT.fr f (fun _ => rfl) rfl
  have go : ∀ (k j : Nat) (w1 : Option vm_V) (m2 : vm_M), f + j + k = e → vfr vTo m m2 → m2 96 27 = f → m2 96 26 = f + j → (j ≤ 8 → m2 96 29 = tpk (zb z) f j) → ku11_nextWord_5 w1 m2 Q := by
    intro k
    induction k with
    | zero =>
      intro j w1 m2 hj f2 g27 g26 g29
      have T2 := fT m2 f2
      have ej : (e - f).toNat = j := by omega
      rw [ej] at h
      refine ru11_nextWord_5 (sm_byteIn hZ T2 g26 (by omega) (by decide) (by decide) (fun x y => absurd y (by rw [show f + (j : Int) = e by omega] at x ⊢; exact hend x)) (fun _ => ⟨fun _ => ?_, fun x => absurd rfl x⟩))
      rw [g26, g27, show f + (j : Int) - f = (j : Int) by omega]
      refine ⟨by omega, fun q1 => ⟨by omega, fun q9 => ?_, fun q9 => ?_⟩, fun q1 => ?_⟩
      · exact h _ (f2.st rfl) (by rw [vst_i (by decide)]; exact g27) (by rw [vst_i (by decide), g26]; omega) (fun x => by omega) (fun x => by omega) (fun _ x => by omega) (fun _ _ => vst_s _ _ _ _)
      · rw [g29 (by omega)]
        exact sm_isKey (fun k1 => ⟨fun x => absurd x (by decide), fun _ => h _ (f2.st rfl) (by rw [vst_i (by decide)]; exact g27) (by rw [vst_i (by decide), g26]; omega) (fun _ => by rw [vst_i (by decide)]; exact g29 (by omega)) (fun x => by omega) (fun _ _ _ => vst_s _ _ _ _) (fun _ x => absurd ⟨by omega, k1⟩ x)⟩) (fun k1 => ⟨fun _ => h _ (f2.st rfl) (by rw [vst_i (by decide)]; exact g27) (by rw [vst_i (by decide), g26]; omega) (fun _ => by rw [vst_i (by decide)]; exact g29 (by omega)) (fun x => by omega) (fun _ _ x => absurd x k1) (fun _ _ => vst_s _ _ _ _), fun x => absurd rfl x⟩)
      · have q1 := Decidable.not_not.mp q1
        exact h _ (f2.st rfl) (by rw [vst_i (by decide)]; exact g27) (by rw [vst_i (by decide), g26]; omega) (fun _ => by rw [vst_i (by decide)]; exact g29 (by omega)) (fun _ => vst_s _ _ _ _) (fun x => by omega) (fun x => by omega)
    | succ k ih =>
      intro j w1 m2 hj f2 g27 g26 g29
      have T2 := fT m2 f2
      have d := hd (f + j) (by omega) (by omega)
      have hb := tpk_bd (b := zb z) (f := f) j (fun i a c => hd i a (by omega))
      have ec : m2 97 (f + j) = zb z (f + j) := by rw [T2.2 _ (by omega) (by omega)]; exact if_pos (by omega)
      refine ru11_nextWord_5 (sm_byteIn hZ T2 g26 (by omega) (by decide) (by decide) (fun _ _ => ⟨fun x => by omega, fun _ => ?_⟩) (fun x => absurd ⟨by omega, d⟩ x))
      rw [g26, g27, show f + (j : Int) - f = (j : Int) by omega]
      refine ⟨by omega, fun q8 => ?_, fun q8 => ?_⟩
      · have e1 : vm_st m2 96 29 0 96 26 = f + j := by rw [vst_i (by decide)]; exact g26
        rw [e1]
        refine ⟨by omega, ih (j + 1) _ _ (by omega) ((f2.st rfl).st rfl) (by rw [vst_i (by decide), vst_i (by decide)]; exact g27) (by rw [vst_s]; omega) (fun x => by omega)⟩
      · have e29 := g29 (by omega)
        rw [e29, ec]
        have e1 : vm_st m2 96 29 (32 * tpk (zb z) f j + zb z (f + j) - 96) 96 26 = f + j := by rw [vst_i (by decide)]; exact g26
        rw [e1]
        have b7 := hb.2.2.2.2.2.2.2.2.1 (by omega)
        refine ⟨by omega, ih (j + 1) _ _ (by omega) ((f2.st rfl).st rfl) (by rw [vst_i (by decide), vst_i (by decide)]; exact g27) (by rw [vst_s]; omega) (fun _ => by rw [vst_i (by decide), vst_s]; rfl)⟩
  refine ru11_nextWord_0 (go (e - f).toNat 0 none _ (by omega) (vfr.rf.st rfl) (by rw [vst_i (by decide)]; exact h27) (by rw [vst_i (by decide), h26]; omega) (fun _ => vst_s _ _ _ _))
/-- a run of digits -/
theorem sm_nextInt {Q : vm_M → Prop} (hZ : ZO D z) (hT : MT z m) {f e : Int} (hf : 0 ≤ f) (he : f < e) (hn : e ≤ zn z) (h26 : m 96 26 = f) (h27 : m 96 27 = f) (hd : ∀ i, f ≤ i → i < e → 48 ≤ zb z i ∧ zb z i ≤ 57) (hend : e < zn z → ¬ (48 ≤ zb z e ∧ zb z e ≤ 57)) (h : ∀ m', vfr vTo m m' → m' 96 27 = f → m' 96 26 = e → (e - f ≤ 4 → m' 96 28 = 3 ∧ m' 96 30 = tnu (zb z) f (e - f).toNat) → (4 < e - f → m' 96 28 = 5) → Q m') : vm_C 200 [vm_r 96] m (vm_qv Q) := by
  have hN := hZ.1
  have fT : ∀ m2, vfr vTo m m2 → MT z m2 := fun m2 f => hT.fr f (fun _ => rfl) rfl
  have go : ∀ (k j : Nat) (m2 : vm_M), f + j + k = e → vfr vTo m m2 → m2 96 27 = f → m2 96 26 = f + j → (j ≤ 4 → m2 96 30 = tnu (zb z) f j) → ku11_nextInt_5 m2 Q := by
    intro k
    induction k with
    | zero =>
      intro j m2 hj f2 g27 g26 g30
      have T2 := fT m2 f2
      have ej : (e - f).toNat = j := by omega
      rw [ej] at h
      refine ru11_nextInt_5 (sm_byteIn hZ T2 g26 (by omega) (by decide) (by decide) (fun x y => absurd y (by rw [show f + (j : Int) = e by omega] at x ⊢; exact hend x)) (fun _ => ⟨fun _ => ?_, fun x => absurd rfl x⟩))
      rw [g26, g27, show f + (j : Int) - f = (j : Int) by omega]
      refine ⟨by omega, fun q5 => ?_, fun q5 => ?_⟩
      · exact h _ (f2.st rfl) (by rw [vst_i (by decide)]; exact g27) (by rw [vst_i (by decide), g26]; omega) (fun x => by omega) (fun _ => vst_s _ _ _ _)
      · exact h _ (f2.st rfl) (by rw [vst_i (by decide)]; exact g27) (by rw [vst_i (by decide), g26]; omega) (fun _ => ⟨vst_s _ _ _ _, by rw [vst_i (by decide)]; exact g30 (by omega)⟩) (fun x => by omega)
    | succ k ih =>
      intro j m2 hj f2 g27 g26 g30
      have T2 := fT m2 f2
      have d := hd (f + j) (by omega) (by omega)
      have ec : m2 97 (f + j) = zb z (f + j) := by rw [T2.2 _ (by omega) (by omega)]; exact if_pos (by omega)
      refine ru11_nextInt_5 (sm_byteIn hZ T2 g26 (by omega) (by decide) (by decide) (fun _ _ => ⟨fun x => by omega, fun _ => ?_⟩) (fun x => absurd ⟨by omega, d⟩ x))
      rw [g26, g27, show f + (j : Int) - f = (j : Int) by omega]
      refine ⟨by omega, fun q4 => ?_, fun q4 => ?_⟩
      · have e1 : vm_st m2 96 30 (m2 96 30) 96 26 = f + j := by rw [vst_i (by decide)]; exact g26
        rw [e1]
        refine ⟨by omega, ih (j + 1) _ (by omega) ((f2.st rfl).st rfl) (by rw [vst_i (by decide), vst_i (by decide)]; exact g27) (by rw [vst_s]; omega) (fun x => by omega)⟩
      · have hb := tnu_bd (b := zb z) (f := f) j (fun i a c => hd i a (by omega)) (by omega)
        rw [g30 (by omega), ec]
        have e1 : vm_st m2 96 30 (10 * tnu (zb z) f j + zb z (f + j) - 48) 96 26 = f + j := by rw [vst_i (by decide)]; exact g26
        rw [e1]
        refine ⟨by omega, ih (j + 1) _ (by omega) ((f2.st rfl).st rfl) (by rw [vst_i (by decide), vst_i (by decide)]; exact g27) (by rw [vst_s]; omega) (fun _ => ?_)⟩
        rw [vst_i (by decide), vst_s]
        show 10 * tnu (zb z) f j + zb z (f + j) - 48 = tnu (zb z) f j * 10 + zb z (f + j) - 48
        omega
  refine ru11_nextInt_0 (go (e - f).toNat 0 _ (by omega) (vfr.rf.st rfl) (by rw [vst_i (by decide)]; exact h27) (by rw [vst_i (by decide), h26]; omega) (fun _ => vst_s _ _ _ _))
end TM
