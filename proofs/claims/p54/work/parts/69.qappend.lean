/-! ===== the tape grows ===== -/
def vby (v s : Int) : Int := vm_and (vm_ushr v s) 255
theorem vby_b (b : BitVec 32) (n : Nat) (hn : n ≤ 24) : (0 ≤ ((b >>> n) &&& 255#32).toInt ∧ ((b >>> n) &&& 255#32).toInt ≤ 255) ∧ ((b.sshiftRight n).setWidth 8).toInt = vsg ((b >>> n) &&& 255#32).toInt := by
  have e1 : ((b >>> n) &&& 255#32).toNat = (b >>> n).toNat % 256 := by
    rw [BitVec.toNat_and]
    exact Nat.and_two_pow_sub_one_eq_mod _ 8
  have e2 : (b.sshiftRight n).setWidth 8 = (b >>> n).setWidth 8 := by
    apply BitVec.eq_of_getLsbD_eq
    intro i hi
    rw [BitVec.getLsbD_setWidth, BitVec.getLsbD_setWidth, BitVec.getLsbD_sshiftRight, BitVec.getLsbD_ushiftRight]
    have a : ¬ (32 ≤ i) := by omega
    have c : n + i < 32 := by omega
    simp only [decide_eq_true hi, a, c, decide_false, Bool.not_false, Bool.true_and, if_true]
  have e3 : ((b >>> n).setWidth 8).toNat = (b >>> n).toNat % 256 := BitVec.toNat_setWidth _ _
  have e4 : ((b >>> n) &&& 255#32).toInt = ((b >>> n).toNat % 256 : Nat) := by
    rw [BitVec.toInt_eq_toNat_cond, e1]
    rw [if_pos (by omega)]
  rw [e2, e4, BitVec.toInt_eq_toNat_cond, e3]
  unfold vsg
  refine ⟨by omega, ?_⟩
  split <;> split <;> omega
theorem vby_ok (v : Int) (n : Nat) (hn : n < 4) : (0 ≤ vby v (8 * n) ∧ vby v (8 * n) ≤ 255) ∧ vm_w8 (vm_shr v (8 * n)) = vsg (vby v (8 * n)) := by
  have h := vby_b (Int32.ofInt v).toBitVec (8 * n) (by omega)
  have e1 : vby v (8 * n) = (((Int32.ofInt v).toBitVec >>> (8 * n)) &&& 255#32).toInt := by
    unfold vby vm_and vm_ushr
    rw [Int32.ofInt_toInt]
    have : n = 0 ∨ n = 1 ∨ n = 2 ∨ n = 3 := by omega
    rcases this with q | q | q | q <;> subst q <;> rfl
  have e2 : vm_w8 (vm_shr v (8 * n)) = (((Int32.ofInt v).toBitVec.sshiftRight (8 * n)).setWidth 8).toInt := by
    unfold vm_w8 vm_shr
    rw [Int32.ofInt_toInt, Int8.toInt_toInt32]
    have sh : ∀ (X s : Int32) (k : Nat), (s.toBitVec.smod 32).toNat = k → (X >>> s).toInt8.toInt = ((X.toBitVec.sshiftRight k).setWidth 8).toInt := fun X s k e => by
      subst e
      rw [← BitVec.signExtend_eq_setWidth_of_le _ (show 8 ≤ 32 by decide)]
      rfl
    have : n = 0 ∨ n = 1 ∨ n = 2 ∨ n = 3 := by omega
    rcases this with q | q | q | q <;> subst q <;> exact sh _ _ _ (by decide)
  rw [e1, e2]
  exact h
def zA1 (z : vZs) (b : Int) : vZs := (zn z + 1, fun i => if i = zn z then b else zb z i, z.2.2)
def zF : Nat → Int → vZs → vZs
  | 0, _, z => z
  | n + 1, v, z => zF n v (zA1 z (vby v (8 * n)))
section AP
variable {D : vD} {E : Int → Int} {z : vZs} {m m' : vm_M}
theorem zA1_ok {b : Int} (hb : 0 ≤ b ∧ b ≤ 255) (hn : zn z < 2000) (hZ : ZO D z) : ZO D (zA1 z b) := by
  refine ⟨⟨by show 0 ≤ zn z + 1; have := hZ.1.1; omega, by show zn z + 1 ≤ 2000; omega⟩, fun i a c => ?_, hZ.2.2⟩
  show 0 ≤ (if i = zn z then b else zb z i) ∧ (if i = zn z then b else zb z i) ≤ 255
  split
  · exact hb
  · exact hZ.2.1 i a (by have : i < zn z + 1 := c; omega)
theorem zF_ok (v : Int) : ∀ (n : Nat) (z : vZs), n ≤ 4 → zn z + n ≤ 2000 → ZO D z → ZO D (zF n v z) ∧ zn (zF n v z) = zn z + n
  | 0, z, _, _, hZ => ⟨hZ, by show zn z = zn z + 0; omega⟩
  | n + 1, z, hn, h, hZ => by
    have e : zn (zA1 z (vby v (8 * n))) = zn z + 1 := rfl
    have i := zF_ok v n (zA1 z (vby v (8 * n))) (by omega) (by rw [e]; omega) (zA1_ok (vby_ok v n (by omega)).1 (by omega) hZ)
    exact ⟨i.1, by show zn (zF n v (zA1 z (vby v (8 * n)))) = zn z + ((n + 1 : Nat) : Int); rw [i.2, e]; omega⟩
def vGx (k : Nat) (_ : Int) : Bool := Nat.beq k 1 || Nat.beq k 2
theorem vGx_n {k : Nat} {i : Int} (h : k ≠ 1) (h2 : k ≠ 2) : vGx k i = false := Bool.eq_false_iff.mpr (fun q => by
  unfold vGx at q
  simp only [Bool.or_eq_true] at q
  rcases q with q | q
  · exact h (vm_beq q)
  · exact h2 (vm_beq q))
def vGm (k : Nat) (i : Int) : Bool := Nat.beq k 97 || (Nat.beq k 96 && decide (i = 1))
theorem vGm_n {k : Nat} {i : Int} (h : k ≠ 97) (h2 : ¬ (k = 96 ∧ i = 1)) : vGm k i = false := Bool.eq_false_iff.mpr (fun q => by
  unfold vGm at q
  simp only [Bool.or_eq_true, Bool.and_eq_true, decide_eq_true_eq] at q
  rcases q with q | q
  · exact h (vm_beq q)
  · exact h2 ⟨vm_beq q.1, q.2⟩)
theorem sx_four {Q : vm_M → Prop} {v : Int} (h0 : 0 ≤ zn z) (hn : zn z + 4 ≤ 2000) (hT : XT z m) (h : ∀ m', vfr vGx m m' → XT (zF 4 v z) m' → Q m') : vm_C 84 [vm_r 1, vm_i v] m (vm_qv Q) := by
  have go : ∀ (n : Nat) (z : vZs) (m2 : vm_M), n ≤ 4 → 0 ≤ zn z → zn z + n ≤ 2000 → vfr vGx m m2 → XT z m2 → (∀ m', vfr vGx m m' → XT (zF n v z) m' → Q m') → ku7_addFour_3 v (8 * (n : Int) - 8) m2 Q := by
    intro n
    induction n with
    | zero =>
      intro z m2 _ _ _ f2 T2 h
      exact ru7_addFour_3 ⟨fun _ => h m2 f2 T2, fun q => by omega⟩
    | succ n ih =>
      intro z m2 hn4 h0 hn f2 T2 h
      have e0 := T2.1
      refine ru7_addFour_3 ⟨fun q => by omega, fun _ => ?_⟩
      rw [e0]
      refine ⟨fun q => by omega, fun _ => ?_⟩
      rw [show 8 * ((n + 1 : Nat) : Int) - 8 = 8 * (n : Int) by omega, show 8 * (n : Int) + -8 = 8 * (n : Int) - 8 by omega, vst_k (show (1 : Nat) ≠ 2 by decide), e0]
      refine ⟨by omega, ih (zA1 z (vby v (8 * n))) _ (by omega) (by show 0 ≤ zn z + 1; omega) (by show zn z + 1 + (n : Int) ≤ 2000; omega) ((f2.st rfl).st rfl) ⟨vst_s _ _ _ _, fun i a b => ?_⟩ h⟩
      show vm_st (vm_st m2 2 (zn z) (vby v (8 * n))) 1 1 (zn z + 1) 2 i = if i = zn z then vby v (8 * n) else zb z i
      rw [vst_k (by decide), vst_if]
      split
      · rfl
      · exact T2.2 i a (by have : i < zn z + 1 := b; omega)
  exact ru7_addFour_0 (go 4 z m (by decide) h0 (by omega) vfr.rf hT h)
theorem zF_2 (v : Int) : ∀ (n : Nat) (z : vZs), (zF n v z).2.2 = z.2.2
  | 0, _ => rfl
  | n + 1, z => zF_2 v n (zA1 z (vby v (8 * n)))
-- TODO q_append
end AP
