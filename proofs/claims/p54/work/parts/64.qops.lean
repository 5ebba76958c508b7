/-! ===== operations on a number and a correction ===== -/
def tE (t : vTE) (k v : Int) : vTE := (t.1, fun i => if i = k then v else t.2 i)
def tK (t : vTE) (j v : Int) : vTE := ((fun i => if i = j then v else t.1.1 i, t.1.2), t.2)
def vok (D : vD) (k v : Int) : Prop := (k = 0 ∧ 10 ≤ v ∧ v ≤ 9999) ∨ (k = 1 ∧ 1 ≤ v ∧ v ≤ 9999) ∨ (k = 2 ∧ 0 ≤ v ∧ v ≤ 99) ∨ (k = 3 ∧ 0 ≤ v ∧ v ≤ dC D) ∨ (k = 4 ∧ 0 ≤ v ∧ v ≤ 99) ∨ (k = 5 ∧ 1 ≤ v ∧ v ≤ 9) ∨ (k = 6 ∧ (v = 0 ∨ v = 1)) ∨ (k = 7 ∧ (v = 0 ∨ v = 1))
theorem vst_if {m : vm_M} {ob : Nat} {k v i : Int} : vm_st m ob k v ob i = if i = k then v else m ob i := by
  by_cases q : i = k
  · rw [if_pos q, q, vst_s]
  · rw [if_neg q, vst_i q]
section OP
variable {D : vD} {E : Int → Int} {z : vZs} {t : vTE} {m m' : vm_M}
theorem XB.st {k : Nat} {i v : Int} (hk : 9 ≤ k ∧ k ≤ 13) (hc : zc z ≤ 8) (hX : XB D z m) : XB D z (vm_st m k i v) := by
  refine hX.fr (S := fun a _ => Nat.ble 9 a && Nat.ble a 13) (vfr.rf.st ?_) (fun a j h => ?_) hc
  · show (Nat.ble 9 k && Nat.ble k 13) = true
    rw [Nat.ble_eq_true_of_le hk.1, Nat.ble_eq_true_of_le hk.2]; rfl
  · refine Bool.eq_false_iff.mpr (fun q => ?_)
    simp only [Bool.and_eq_true] at q
    have := Nat.le_of_ble_eq_true q.1
    have := Nat.le_of_ble_eq_true q.2
    omega
theorem MB.st {i v : Int} (hZ : ZO D z) (hX : MB D z m) : MB D z (vm_st m 100 i v) :=
  ⟨hX.1.fr (S := fun a _ => Nat.beq a 100) (vfr.rf.st rfl) rfl rfl (fun _ => rfl) (fun _ => rfl), hX.2.fr (S := fun a _ => Nat.beq a 100) (vfr.rf.st rfl) (fun k i a => Bool.eq_false_iff.mpr (fun q => by have := vm_beq q; omega)) rfl rfl rfl hZ⟩
theorem dEx_k (h : dEx E m 9) {k : Int} (hk : 0 ≤ k ∧ k < 6) : m 10 k = E k := by
  obtain ⟨h0, h1, h2, h3, h4, h5, h6, h7⟩ := h
  have : k = 0 ∨ k = 1 ∨ k = 2 ∨ k = 3 ∨ k = 4 ∨ k = 5 := by omega
  rcases this with q | q | q | q | q | q <;> rw [q] <;> assumption
theorem dEm_k (h : dEm E m) {k : Int} (hk : 0 ≤ k ∧ k < 8) : m 100 k = E k := by
  obtain ⟨h0, h1, h2, h3, h4, h5, h6, h7⟩ := h
  have : k = 0 ∨ k = 1 ∨ k = 2 ∨ k = 3 ∨ k = 4 ∨ k = 5 ∨ k = 6 ∨ k = 7 := by omega
  rcases this with q | q | q | q | q | q | q | q <;> rw [q] <;> assumption
theorem TX_S {k : Nat} {i v : Int} (hk : k = 10 ∨ (k = 9 ∧ i ≠ 6)) (h : dSx D m 9) : dSx D (vm_st m k i v) 9 := by
  obtain ⟨s1, s2, s3, s4⟩ := h
  refine ⟨?_, fun j a b => by rw [vst_k (by omega)]; exact s2 j a b, fun j a b => by rw [vst_k (by omega)]; exact s3 j a b, fun w a b j c d => by rw [vst_k (by omega)]; exact s4 w a b j c d⟩
  by_cases q : k = 10
  · rw [vst_k (by omega)]; exact s1
  · rw [vst_i (by omega)]; exact s1
theorem TX_E {k v : Int} (hk : 0 ≤ k ∧ k < 6) (h : TX D t m 9) : TX D (tE t k v) (vm_st m 10 k v) 9 := by
  obtain ⟨hs, ⟨e0, e1, e2, e3, e4, e5, e6, e7⟩⟩ := h
  refine ⟨TX_S (Or.inl rfl) hs, ?_⟩
  have g : ∀ i, 0 ≤ i → i < 6 → vm_st m 10 k v 10 i = if i = k then v else t.2 i := fun i a b => by
    rw [vst_if]
    split
    · rfl
    · exact dEx_k (E := t.2) ⟨e0, e1, e2, e3, e4, e5, e6, e7⟩ ⟨a, b⟩
  have f6 : (tE t k v).2 6 = t.2 6 := if_neg (by omega)
  have f7 : (tE t k v).2 7 = t.2 7 := if_neg (by omega)
  refine ⟨g 0 (by decide) (by decide), g 1 (by decide) (by decide), g 2 (by decide) (by decide), g 3 (by decide) (by decide), g 4 (by decide) (by decide), g 5 (by decide) (by decide), ?_, ?_⟩
  · rw [f6, vst_k (by decide)]; exact e6
  · rw [f7, vst_k (by decide)]; exact e7
theorem TX_6 {v : Int} (h : TX D t m 9) : TX D (tE t 6 v) (vm_st m 9 4 v) 9 := by
  obtain ⟨hs, ⟨e0, e1, e2, e3, e4, e5, e6, e7⟩⟩ := h
  refine ⟨TX_S (Or.inr ⟨rfl, by decide⟩) hs, ?_⟩
  have g : ∀ i, i ≠ 6 → (tE t 6 v).2 i = t.2 i := fun i a => if_neg a
  refine ⟨?_, ?_, ?_, ?_, ?_, ?_, ?_, ?_⟩
  · rw [g _ (by decide), vst_k (by decide)]; exact e0
  · rw [g _ (by decide), vst_k (by decide)]; exact e1
  · rw [g _ (by decide), vst_k (by decide)]; exact e2
  · rw [g _ (by decide), vst_k (by decide)]; exact e3
  · rw [g _ (by decide), vst_k (by decide)]; exact e4
  · rw [g _ (by decide), vst_k (by decide)]; exact e5
  · rw [vst_s]; exact (show (if (6 : Int) = 6 then v else t.2 6) = v from if_pos rfl).symm
  · rw [g _ (by decide), vst_i (by decide)]; exact e7
theorem TX_7 {v : Int} (h : TX D t m 9) : TX D (tE t 7 v) (vm_st m 9 5 v) 9 := by
  obtain ⟨hs, ⟨e0, e1, e2, e3, e4, e5, e6, e7⟩⟩ := h
  refine ⟨TX_S (Or.inr ⟨rfl, by decide⟩) hs, ?_⟩
  have g : ∀ i, i ≠ 7 → (tE t 7 v).2 i = t.2 i := fun i a => if_neg a
  refine ⟨?_, ?_, ?_, ?_, ?_, ?_, ?_, ?_⟩
  · rw [g _ (by decide), vst_k (by decide)]; exact e0
  · rw [g _ (by decide), vst_k (by decide)]; exact e1
  · rw [g _ (by decide), vst_k (by decide)]; exact e2
  · rw [g _ (by decide), vst_k (by decide)]; exact e3
  · rw [g _ (by decide), vst_k (by decide)]; exact e4
  · rw [g _ (by decide), vst_k (by decide)]; exact e5
  · rw [g _ (by decide), vst_i (by decide)]; exact e6
  · rw [vst_s]; exact (show (if (7 : Int) = 7 then v else t.2 7) = v from if_pos rfl).symm
theorem TX_K {j v : Int} (h : TX D t m 9) : TX D (tK t j v) (vm_st m 11 j v) 9 := by
  obtain ⟨⟨s1, s2, s3, s4⟩, ⟨e0, e1, e2, e3, e4, e5, e6, e7⟩⟩ := h
  refine ⟨⟨by rw [vst_k (by decide)]; exact s1, fun k a b => ?_, fun k a b => by rw [vst_k (by decide)]; exact s3 k a b, fun w a b k c d => by rw [vst_k (by decide)]; exact s4 w a b k c d⟩, ?_⟩
  · show vm_st m 11 j v 11 k = if k = j then v else t.1.1 k
    rw [vst_if]
    split
    · rfl
    · exact s2 k a b
  · unfold dEx
    simp only [vst_k (show (9 + 1 : Nat) ≠ 11 by decide), vst_k (show (9 : Nat) ≠ 11 by decide)]
    exact ⟨e0, e1, e2, e3, e4, e5, e6, e7⟩
theorem TM_E {k v : Int} (hk : 0 ≤ k ∧ k < 8) (h : TM D t m 100 0) : TM D (tE t k v) (vm_st m 100 k v) 100 0 := by
  obtain ⟨⟨s1, s2, s3, s4⟩, s5⟩ := h
  refine ⟨⟨by rw [vst_i (by omega)]; exact s1, fun j a b => by rw [vst_i (by omega)]; exact s2 j a b, fun j a b => by rw [vst_i (by omega)]; exact s3 j a b, fun w a b j c d => by rw [vst_i (by omega)]; exact s4 w a b j c d⟩, fun i a b => ?_⟩
  show vm_st m 100 k v 100 (0 + i) = if i = k then v else t.2 i
  rw [vst_if, Int.zero_add]
  split
  · rfl
  · have := s5 i a b
    rw [Int.zero_add] at this
    exact this
theorem TM_K {j v : Int} (hj : 0 ≤ j ∧ j < 676) (hO : dOS (teD D t)) (h : TM D t m 100 0) : TM D (tK t j v) (vm_st m 100 (9 + j) v) 100 0 := by
  obtain ⟨⟨s1, s2, s3, s4⟩, s5⟩ := h
  refine ⟨⟨by rw [vst_i (by omega)]; exact s1, fun k a b => ?_, fun k a b => by rw [vst_i (by omega)]; exact s3 k a b, fun w a b k c d => by rw [vst_i (by omega)]; exact s4 w a b k c d⟩, fun i a b => by rw [vst_i (by omega)]; exact s5 i a b⟩
  show vm_st m 100 (9 + j) v 100 (0 + (9 + k)) = if k = j then v else t.1.1 k
  rw [vst_if]
  by_cases q : k = j
  · rw [if_pos (by omega), if_pos q]
  · rw [if_neg (by omega), if_neg q]
    exact s2 k a b
theorem dOE_E {k v : Int} (hE : dOE D E) (hv : vok D k v) : dOE D (fun i => if i = k then v else E i) := by
  obtain ⟨h0, h1, h2, h3, h4, h5, h6, h7⟩ := hE
  unfold dOE
  dsimp only
  rcases hv with ⟨rfl, a⟩ | ⟨rfl, a⟩ | ⟨rfl, a⟩ | ⟨rfl, a⟩ | ⟨rfl, a⟩ | ⟨rfl, a⟩ | ⟨rfl, a⟩ | ⟨rfl, a⟩
  all_goals
    refine ⟨?_, ?_, ?_, ?_, ?_, ?_, ?_, ?_⟩
    all_goals
      first
      | (rw [if_neg (by decide)]; assumption)
      | (rw [if_pos rfl]; assumption)
theorem OC_E {k v : Int} (hO : OC D E) (hv : vok D k v) : OC (teD D (tE (teN D E) k v)) (tE (teN D E) k v).2 := ⟨hO.1, hO.2.1, dOE_E hO.2.2 hv⟩
theorem OC_K {j v : Int} (hO : OC D E) (hv : -9 ≤ v ∧ v ≤ 9) : OC (teD D (tK (teN D E) j v)) (tK (teN D E) j v).2 := by
  obtain ⟨h1, ⟨s1, s2⟩, h3⟩ := hO
  refine ⟨h1, ⟨fun k a b => ?_, s2⟩, h3⟩
  show -9 ≤ (if k = j then v else dK D k) ∧ (if k = j then v else dK D k) ≤ 9
  split
  · exact hv
  · exact s1 k a b
theorem vok_st (hT : vST m) {k v : Int} (hk : 0 ≤ k ∧ k < 6) : vok D k v ↔ (m 900 k ≤ v ∧ v ≤ if k = 3 then dC D else m 901 k) := by
  obtain ⟨⟨a0, a1, a2, a3, a4, a5⟩, ⟨b0, b1, b2, b3, b4, b5⟩⟩ := hT
  have : k = 0 ∨ k = 1 ∨ k = 2 ∨ k = 3 ∨ k = 4 ∨ k = 5 := by omega
  unfold vok
  rcases this with q | q | q | q | q | q <;> rw [q]
  · rw [a0, b0, if_neg (by decide)]; omega
  · rw [a1, b1, if_neg (by decide)]; omega
  · rw [a2, b2, if_neg (by decide)]; omega
  · rw [a3, if_pos rfl]; omega
  · rw [a4, b4, if_neg (by decide)]; omega
  · rw [a5, b5, if_neg (by decide)]; omega
/-- one number set in x -/
theorem sx_setNumber {Q : Int → vm_M → Prop} (hO : OC D E) (hZ : ZO D z) (hX : XC D E m) (rx : XR D z m) {k v : Int} (ha : ¬ (k < 6 ∧ vok D k v) → Q (-1) m) (hb : k < 6 ∧ vok D k v → E k = v → Q (-2) m) (hc : k < 6 ∧ vok D k v → E k ≠ v → ∀ m', vfr vSxx m m' → XC (teD D (tE (teN D E) k v)) (tE (teN D E) k v).2 m' → XR (teD D (tE (teN D E) k v)) (zP z (teN D E)) m' → Q (E k) m') : vm_C 106 [vm_r 0, vm_i k, vm_i v] m (vm_qi Q) := by
  have hT := rx.2.2.2.2
  have hc8 : zc (zP z (teN D E)) ≤ 8 := (zP_ok hZ hO.TO).2.2.1
  have op : 0 ≤ k → k < 6 → vok D k v → (¬ m 10 k = v → vm_C 114 [vm_r 0] m (vm_qv (fun m1 => (0 ≤ k ∧ k < 6) ∧ Q (m 10 k) (vm_st m1 10 k v)))) ∧ (¬ ¬ m 10 k = v → Q (-2) m) := fun k0 k6 q => by
    rw [dEx_k hX.2.2.1 ⟨k0, k6⟩]
    refine ⟨fun ne => sx_begin hO hZ hX rx (fun m1 f1 b1 T1 => ⟨⟨k0, k6⟩, ?_⟩), fun e => hb ⟨k6, q⟩ (Decidable.not_not.mp e)⟩
    have r := (b1.st (k := 10) (i := k) (v := v) ⟨by decide, by decide⟩ hc8).new (TX_E ⟨k0, k6⟩ T1)
    exact hc ⟨k6, q⟩ ne _ ((vSh_xx f1).st (vSxx_t (by decide))) r.1 r.2
  refine ru10_setNumber_0 ⟨fun c => ha (fun q => by have := q.2; unfold vok at this; omega), fun c => ⟨fun c2 => ?_, fun c2 => ha (fun q => c2 q.1)⟩⟩
  have hk : 0 ≤ k ∧ k < 6 := by omega
  have hv := vok_st (D := D) (v := v) hT hk
  refine ⟨fun c3 => ⟨⟨hk, hk⟩, fun q => ha (fun a => ?_), fun q => ⟨fun q2 => ⟨hk, op hk.1 hk.2 ?_⟩, fun q2 => ha (fun a => ?_)⟩⟩, fun c3 => ⟨hk, fun q => ha (fun a => ?_), fun q => ⟨fun q2 => ⟨hk, op hk.1 hk.2 ?_⟩, fun q2 => ha (fun a => ?_)⟩⟩⟩
  · have := hv.mp a.2; omega
  · rw [if_neg c3] at hv; exact hv.mpr ⟨by omega, q2⟩
  · rw [if_neg c3] at hv; have := hv.mp a.2; omega
  · have := hv.mp a.2; omega
  · rw [if_pos (Decidable.not_not.mp c3)] at hv; rw [hX.1.1] at q2; exact hv.mpr ⟨by omega, q2⟩
  · rw [if_pos (Decidable.not_not.mp c3)] at hv; rw [hX.1.1] at q2; have := hv.mp a.2; omega
-- TODO q_setNumber
end OP
