/-! ===== the model: bits of told letters; a side ===== -/
theorem vsh_n : ∀ n : Nat, n < 26 → ((Int32.ofInt (n : Int) &&& 31).toBitVec.smod 32).toNat = n := by decide +kernel
theorem vbt_i (T : Int32) (n : Nat) (hn : n < 26) : ((T >>> (Int32.ofInt (n : Int) &&& 31)) &&& Int32.ofInt 1).toInt = 1 ↔ T.toBitVec.getLsbD n = true := by
  have sh : ∀ (s : Int32) (k : Nat), (s.toBitVec.smod 32).toNat = k → (T >>> s).toBitVec = T.toBitVec.sshiftRight k := fun s k e => by subst e; rfl
  have e1 := sh _ n (vsh_n n hn)
  have e2 : ((T >>> (Int32.ofInt (n : Int) &&& 31)) &&& Int32.ofInt 1).toInt = (T.toBitVec.sshiftRight n &&& 1#32).toInt := by
    show ((T >>> (Int32.ofInt (n : Int) &&& 31)).toBitVec &&& 1#32).toInt = _
    rw [e1]
  have e3 : (T.toBitVec.sshiftRight n).getLsbD 0 = T.toBitVec.getLsbD n := by
    rw [BitVec.getLsbD_sshiftRight]
    have a : ¬ (32 ≤ 0) := by omega
    have c : n < 32 := by omega
    simp only [a, decide_false, Bool.not_false, Bool.true_and, Nat.add_zero, if_pos c]
  rw [e2, ← e3]
  generalize T.toBitVec.sshiftRight n = y
  have e4 : (y &&& 1#32).toNat = y.toNat % 2 := by
    rw [BitVec.toNat_and]
    exact Nat.and_two_pow_sub_one_eq_mod _ 1
  have e5 : y.getLsbD 0 = decide (y.toNat % 2 = 1) := Nat.testBit_zero _
  rw [e5, decide_eq_true_eq, BitVec.toInt_eq_toNat_cond, e4]
  split <;> omega
theorem vbt_1 : ∀ a : Nat, a < 26 → ∀ b : Nat, b < 26 → (Int32.ofInt 1 <<< (Int32.ofInt (a : Int) &&& 31)).toBitVec.getLsbD b = decide (b = a) := by decide +kernel
/-- a bit more -/
theorem vbt_or (t : Int) {a b : Int} (ha : 0 ≤ a ∧ a < 26) (hb : 0 ≤ b ∧ b < 26) : vm_and (vm_shr (vm_or t (vm_shl 1 a)) b) 1 = 1 ↔ (b = a ∨ vm_and (vm_shr t b) 1 = 1) := by
  obtain ⟨x, rfl⟩ : ∃ x : Nat, a = x := ⟨a.toNat, by omega⟩
  obtain ⟨y, rfl⟩ : ∃ y : Nat, b = y := ⟨b.toNat, by omega⟩
  have hx : x < 26 := by omega
  have hy : y < 26 := by omega
  unfold vm_and vm_shr vm_or vm_shl
  simp only [Int32.ofInt_toInt]
  rw [vbt_i _ y hy, vbt_i _ y hy]
  have e : (Int32.ofInt t ||| Int32.ofInt 1 <<< (Int32.ofInt (x : Int) &&& 31)).toBitVec.getLsbD y = ((Int32.ofInt t).toBitVec.getLsbD y || (Int32.ofInt 1 <<< (Int32.ofInt (x : Int) &&& 31)).toBitVec.getLsbD y) := by
    show ((Int32.ofInt t).toBitVec ||| (Int32.ofInt 1 <<< (Int32.ofInt (x : Int) &&& 31)).toBitVec).getLsbD y = _
    exact BitVec.getLsbD_or
  rw [e, vbt_1 x hx y hy, Bool.or_eq_true, decide_eq_true_eq]
  constructor
  · rintro (h | h)
    · exact Or.inr h
    · exact Or.inl (by omega)
  · rintro (h | h)
    · exact Or.inr (by omega)
    · exact Or.inl h
theorem vbt_0 {b : Int} (hb : 0 ≤ b ∧ b < 26) : ¬ vm_and (vm_shr 0 b) 1 = 1 := by
  obtain ⟨y, rfl⟩ : ∃ y : Nat, b = y := ⟨b.toNat, by omega⟩
  unfold vm_and vm_shr
  rw [Int32.ofInt_toInt, vbt_i _ y (by omega)]
  have : (Int32.ofInt 0).toBitVec = 0#32 := rfl
  rw [this, BitVec.getLsbD_zero]
  decide
section MS
variable {D : vD} {E : Int → Int} {z : vZs} {m m' m0 : vm_M} {U : Int → Prop} {g c : Int} {W K : Int → Int} {s : vPS} {k : vPS → vRS} {R : vRS}
/-- a letter's token, as the model holds it -/
theorem tLt_m (hZ : ZO D z) (hs : pOk z s) (hK : TKm z (pp s) m) : (m 96 28 = 2 ↔ ¬ tLt (zb z) (zn z) (pp s) = -1) ∧ (m 96 28 = 2 → vm_w32 ((vm_w32 (m 96 29)) - 1) = tLt (zb z) (zn z) (pp s)) := by
  obtain ⟨k1, k2, k3, k4, k5, k6, k7, k8, k9⟩ := hK
  have a : tKd (zb z) (zn z) (pp s) = 1 ∧ tE0 (zb z) (zn z) (pp s) - tF (zb z) (zn z) (pp s) = 1 → 97 ≤ zb z (tF (zb z) (zn z) (pp s)) ∧ zb z (tF (zb z) (zn z) (pp s)) ≤ 122 ∧ tLt (zb z) (zn z) (pp s) = zb z (tF (zb z) (zn z) (pp s)) - 97 := fun q => by
    have h := (tok_let hZ hs q.1).2 _ (Int.le_refl _) (by omega)
    exact ⟨h.1, h.2, if_pos q⟩
  refine ⟨k5.trans ⟨fun q => ?_, fun q => ?_⟩, fun q => ?_⟩
  · have := a q; omega
  · refine Decidable.byContradiction (fun n => q ?_)
    unfold tLt
    rw [if_neg n]
  · have q2 := k5.mp q
    have h := a q2
    have e : tW (zb z) (zn z) (pp s) = zb z (tF (zb z) (zn z) (pp s)) - 96 := by
      unfold tW
      rw [q2.2]
      show 32 * 0 + zb z (tF (zb z) (zn z) (pp s) + 0) - 96 = _
      rw [Int.add_zero]; omega
    rw [k8 (Or.inr q), e, vm_w32_of (show vm_32 (zb z (tF (zb z) (zn z) (pp s)) - 96) by omega), vm_w32_of (by omega), h.2.2]
    omega
end MS
