/-! ===== swap ===== -/
def tS (t : vTE) (i j : Int) : vTE := ((t.1.1, (fun w => if w = i then t.1.2.1 j else if w = j then t.1.2.1 i else t.1.2.1 w), (fun p => if 12 * i ≤ p ∧ p < 12 * i + 12 then t.1.2.2.1 (p - 12 * i + 12 * j) else if 12 * j ≤ p ∧ p < 12 * j + 12 then t.1.2.2.1 (p - 12 * j + 12 * i) else t.1.2.2.1 p), t.1.2.2.2), t.2)
section SV
variable {D : vD} {E : Int → Int} {z : vZs} {t : vTE} {m m' : vm_M} {i j : Int}
/-- the lengths and letters of two words exchanged -/
def tsA (L L' : Int → Int) (i j : Int) : Prop := L' i = L j ∧ L' j = L i ∧ ∀ w, 0 ≤ w → w < 30 → w ≠ i → w ≠ j → L' w = L w
def tsB (P P' : Int → Int) (i j n : Int) : Prop := (∀ k, 0 ≤ k → k < n → P' (12 * i + k) = P (12 * j + k) ∧ P' (12 * j + k) = P (12 * i + k)) ∧ (∀ p, 0 ≤ p → ¬ (12 * i ≤ p ∧ p < 12 * i + n) → ¬ (12 * j ≤ p ∧ p < 12 * j + n) → P' p = P p)
theorem tS_L (t : vTE) (i j : Int) : tsA (dL (teD D t)) (dL (teD D (tS t i j))) i j := by
  refine ⟨if_pos rfl, ?_, fun w _ _ a b => ?_⟩
  · show (if j = i then t.1.2.1 j else if j = j then t.1.2.1 i else t.1.2.1 j) = t.1.2.1 i
    by_cases q : j = i
    · rw [if_pos q, q]
    · rw [if_neg q, if_pos rfl]
  · show (if w = i then t.1.2.1 j else if w = j then t.1.2.1 i else t.1.2.1 w) = t.1.2.1 w
    rw [if_neg a, if_neg b]
theorem tS_P (t : vTE) {i j : Int} (hij : i ≠ j) : tsB (dP (teD D t)) (dP (teD D (tS t i j))) i j 12 := by
  have e : ∀ p, dP (teD D (tS t i j)) p = if 12 * i ≤ p ∧ p < 12 * i + 12 then t.1.2.2.1 (p - 12 * i + 12 * j) else if 12 * j ≤ p ∧ p < 12 * j + 12 then t.1.2.2.1 (p - 12 * j + 12 * i) else t.1.2.2.1 p := fun _ => rfl
  have e2 : ∀ p, dP (teD D t) p = t.1.2.2.1 p := fun _ => rfl
  refine ⟨fun k a b => ⟨?_, ?_⟩, fun p _ a b => ?_⟩
  · rw [e, e2, if_pos ⟨by omega, by omega⟩, show 12 * i + k - 12 * i + 12 * j = 12 * j + k by omega]
  · rw [e, e2, if_neg (by omega), if_pos ⟨by omega, by omega⟩, show 12 * j + k - 12 * j + 12 * i = 12 * i + k by omega]
  · rw [e, e2, if_neg a, if_neg b]
theorem tS_ok (hO : dOS (teD D t)) (hi : 0 ≤ i ∧ i < dN (teD D t)) (hj : 0 ≤ j ∧ j < dN (teD D t)) (hij : i ≠ j) : dOS (teD D (tS t i j)) := by
  obtain ⟨h1, h2, h3, h4, h5⟩ := hO
  obtain ⟨l1, l2, l3⟩ := tS_L (D := D) t i j
  obtain ⟨p1, p2⟩ := tS_P (D := D) t hij
  refine ⟨h1, h2, h3, fun w a b => ?_, fun w a b k c d => ?_⟩
  · have b2 : w < dN (teD D t) := b
    by_cases q : w = i
    · rw [q, l1]; exact h4 j hj.1 hj.2
    · by_cases q2 : w = j
      · rw [q2, l2]; exact h4 i hi.1 hi.2
      · rw [l3 w a (by omega) q q2]; exact h4 w a b
  · show dk D _
    have b2 : w < dN (teD D t) := b
    by_cases q : w = i
    · rw [q, l1] at d
      have := h4 j hj.1 hj.2
      rw [q, (p1 k c (by omega)).1]; exact h5 j hj.1 hj.2 k c d
    · by_cases q2 : w = j
      · rw [q2, l2] at d
        have := h4 i hi.1 hi.2
        rw [q2, (p1 k c (by omega)).2]; exact h5 i hi.1 hi.2 k c d
      · rw [l3 w a (by omega) q q2] at d
        have := h4 w a b
        rw [p2 _ (by omega) (by omega) (by omega)]; exact h5 w a b k c d
/-- what a side holds behind the exchange -/
theorem tS_read {L P : Int → Int} (hO : dOS (teD D t)) (hi : 0 ≤ i ∧ i < dN (teD D t)) (hj : 0 ≤ j ∧ j < dN (teD D t)) (hij : i ≠ j) {L' P' : Int → Int} (hL : tsA L L' i j) (hP : tsB P P' i j 12) (h3 : ∀ w, 0 ≤ w → w < dN (teD D t) → L w = dL (teD D t) w) (h4 : ∀ w, 0 ≤ w → w < dN (teD D t) → ∀ k, 0 ≤ k → k < dL (teD D t) w → P (12 * w + k) = dP (teD D t) (12 * w + k)) : (∀ w, 0 ≤ w → w < dN (teD D t) → L' w = dL (teD D (tS t i j)) w) ∧ ∀ w, 0 ≤ w → w < dN (teD D t) → ∀ k, 0 ≤ k → k < dL (teD D (tS t i j)) w → P' (12 * w + k) = dP (teD D (tS t i j)) (12 * w + k) := by
  obtain ⟨-, -, o3, o4, -⟩ := hO
  obtain ⟨l1, l2, l3⟩ := tS_L (D := D) t i j
  obtain ⟨p1, p2⟩ := tS_P (D := D) t hij
  obtain ⟨a1, a2, a3⟩ := hL
  obtain ⟨b1, b2⟩ := hP
  refine ⟨fun w a b => ?_, fun w a b k c d => ?_⟩
  · by_cases q : w = i
    · rw [q, l1, a1]; exact h3 j hj.1 hj.2
    · by_cases q2 : w = j
      · rw [q2, l2, a2]; exact h3 i hi.1 hi.2
      · rw [l3 w a (by omega) q q2, a3 w a (by omega) q q2]; exact h3 w a b
  · by_cases q : w = i
    · rw [q, l1] at d
      have := o4 j hj.1 hj.2
      rw [q, (p1 k c (by omega)).1, (b1 k c (by omega)).1]; exact h4 j hj.1 hj.2 k c d
    · by_cases q2 : w = j
      · rw [q2, l2] at d
        have := o4 i hi.1 hi.2
        rw [q2, (p1 k c (by omega)).2, (b1 k c (by omega)).2]; exact h4 i hi.1 hi.2 k c d
      · rw [l3 w a (by omega) q q2] at d
        have := o4 w a b
        rw [p2 _ (by omega) (by omega) (by omega), b2 _ (by omega) (by omega) (by omega)]; exact h4 w a b k c d
theorem tsB_0 {P : Int → Int} : tsB P P i j 0 := ⟨fun k a b => by omega, fun p _ _ _ => rfl⟩
/-- one more letter -/
theorem tsB_S {P P1 P2 : Int → Int} {n : Int} (hi : 0 ≤ i) (hj : 0 ≤ j) (hij : i ≠ j) (hn : 0 ≤ n ∧ n < 12) (h : tsB P P1 i j n) (h1 : P2 (12 * i + n) = P1 (12 * j + n)) (h2 : P2 (12 * j + n) = P1 (12 * i + n)) (h3 : ∀ p, 0 ≤ p → p ≠ 12 * i + n → p ≠ 12 * j + n → P2 p = P1 p) : tsB P P2 i j (n + 1) := by
  obtain ⟨a1, a2⟩ := h
  refine ⟨fun k a b => ?_, fun p p0 a b => ?_⟩
  · by_cases q : k = n
    · rw [q, h1, h2, a2 _ (by omega) (by omega) (by omega), a2 _ (by omega) (by omega) (by omega)]; exact ⟨rfl, rfl⟩
    · rw [h3 _ (by omega) (by omega) (by omega), h3 _ (by omega) (by omega) (by omega)]; exact a1 k a (by omega)
  · rw [h3 _ p0 (by omega) (by omega)]; exact a2 p p0 (by omega) (by omega)
theorem sx_exchW {Q : vm_M → Prop} (hO : dOS (teD D t)) (hT : TX D t m 9) (hi : 0 ≤ i ∧ i < dN (teD D t)) (hj : 0 ≤ j ∧ j < dN (teD D t)) (hij : i ≠ j) (h : ∀ m', vfr (fun k _ => Nat.ble 12 k && Nat.ble k 13) m m' → TX D (tS t i j) m' 9 → Q m') : vm_C 62 [vm_r 9, vm_i i, vm_i j] m (vm_qv Q) := by
  have hN := hO.2.2.1
  obtain ⟨⟨s1, s2, s3, s4⟩, hE⟩ := hT
  have n0 : ∀ (k : Nat) (i : Int), k < 12 ∨ 13 < k → (fun (k : Nat) (_ : Int) => Nat.ble 12 k && Nat.ble k 13) k i = false := fun k i a => Bool.eq_false_iff.mpr (fun q => by
    simp only [Bool.and_eq_true] at q
    have := Nat.le_of_ble_eq_true q.1
    have := Nat.le_of_ble_eq_true q.2
    omega)
  have go : ∀ (n : Nat) (k a : Int) (w5 : Option vm_V) (m2 : vm_M), 0 ≤ k → k + n = 12 → vfr (fun k _ => Nat.ble 12 k && Nat.ble k 13) m m2 → tsA (m 12) (m2 12) i j → tsB (m 13) (m2 13) i j k → ku4_exchange_29 9 i j a k w5 m2 Q := by
    intro n
    induction n with
    | zero =>
      intro k a w5 m2 hk hn f2 hA hB
      obtain rfl : k = 12 := by omega
      refine ru4_exchange_29 rfl ⟨fun _ => ?_, fun q => by omega⟩
      obtain ⟨r3, r4⟩ := tS_read hO hi hj hij hA hB s3 s4
      exact h m2 f2 ⟨⟨by rw [f2 9 6 (n0 9 6 (by omega))]; exact s1, fun k a b => by rw [f2 11 k (n0 11 k (by omega))]; exact s2 k a b, r3, r4⟩, hE.fr f2 (fun i => n0 10 i (by omega)) (n0 9 4 (by omega)) (n0 9 5 (by omega))⟩
    | succ n ih =>
      intro k a w5 m2 hk hn f2 hA hB
      refine ru4_exchange_29 rfl ⟨fun q => by omega, fun _ => ?_⟩
      rw [show i * 12 + k = 12 * i + k by omega, show j * 12 + k = 12 * j + k by omega]
      refine ⟨by omega, ih (k + 1) _ _ _ (by omega) (by omega) ((f2.st rfl).st rfl) ?_ (tsB_S hi.1 hj.1 hij ⟨hk, by omega⟩ hB ?_ (vst_s _ _ _ _) (fun p _ a b => ?_))⟩
      · exact hA
      · rw [vst_i (by omega), vst_s]
      · rw [vst_i b, vst_i a]
  refine ru4_exchange_0 rfl ⟨by omega, go 12 0 _ _ _ (Int.le_refl _) (by decide) ((vfr.rf.st rfl).st rfl) ⟨?_, vst_s _ _ _ _, fun w _ _ a b => ?_⟩ ?_⟩
  · rw [vst_i (by omega), vst_s]
  · rw [vst_i b, vst_i a]
  · exact tsB_0
theorem s_swap (c : OC D E) (hZ : ZO D z) : ∀ (Q : Int → vm_M → Prop) (m : vm_M), XC D E m → XR D z m → (¬ ((0 ≤ i ∧ i < dN D) ∧ (0 ≤ j ∧ j < dN D) ∧ i ≠ j) → Q (-1) m) → ((0 ≤ i ∧ i < dN D) ∧ (0 ≤ j ∧ j < dN D) ∧ i ≠ j → ∀ m', vfr vSxx m m' → XC (teD D (tS (teN D E) i j)) (tS (teN D E) i j).2 m' → XR (teD D (tS (teN D E) i j)) (zP z (teN D E)) m' → Q (eQ (teD D (tS (teN D E) i j)) (tS (teN D E) i j).2 : Int) m') → vm_C 110 [vm_r 0, vm_i i, vm_i j] m (vm_qi Q) := by
  have hO := c
  have hP := zP_ok hZ hO.TO
  have hOn : (0 ≤ i ∧ i < dN D) ∧ (0 ≤ j ∧ j < dN D) ∧ i ≠ j → OC (teD D (tS (teN D E) i j)) (tS (teN D E) i j).2 := fun q => ⟨hO.1, tS_ok (t := teN D E) hO.2.1 q.1 q.2.1 q.2.2, hO.2.2⟩
  intro Q m hX rX ha hc
  refine ru10_swap_0 (sx_hasWord hX.2.1 (fun k => ⟨fun q => by omega, fun _ => sx_hasWord hX.2.1 (fun k2 => ⟨fun q => by omega, fun _ => ⟨fun ne => ?_, fun e => ha (fun x => e x.2.2)⟩⟩) (fun k2 => ⟨fun _ => ha (fun x => k2 x.2.1), fun q => absurd rfl q⟩)⟩) (fun k => ⟨fun _ => ha (fun x => k x.1), fun q => absurd rfl q⟩))
  refine sx_begin hO hZ hX rX (fun m1 f1 b1 T1 => sx_exchW (t := teN D E) hO.2.1 T1 k k2 ne (fun m2 f2 T2 => ?_))
  have n0 : ∀ (k : Nat) (i : Int), k < 12 ∨ 13 < k → (fun (k : Nat) (_ : Int) => Nat.ble 12 k && Nat.ble k 13) k i = false := fun k i a => Bool.eq_false_iff.mpr (fun q => by
    simp only [Bool.and_eq_true] at q
    have := Nat.le_of_ble_eq_true q.1
    have := Nat.le_of_ble_eq_true q.2
    omega)
  have r := (b1.fr f2 (fun k i a => n0 k i (by omega)) hP.2.2.1).new T2
  refine sx_layOut (hOn ⟨k, k2, ne⟩) r.1 (fun m3 f3 x3 l3 _ => ?_)
  have e : m3 67 8 = (eQ (teD D (tS (teN D E) i j)) (tS (teN D E) i j).2 : Int) := l3.2.2.1.1
  rw [e]
  exact hc ⟨k, k2, ne⟩ m3 (((vSh_xx f1).tr (f2.sub (fun k i hk => vSxx_t (by
    rcases Nat.lt_or_ge k 96 with a | a
    · exact a
    · exact absurd (hk.symm.trans (n0 k i (by omega))) (by decide))))).tr (vSX_xx f3)) x3 (r.2.fX f3 hP)
end SV
