/-! ===== quotients of whole numbers as floats and doubles: none is a NaN ===== -/
theorem fl_i2f {z : Int} (h : 0 ≤ z ∧ z ≤ 16777216) : ∃ s c q, FP.Core.val32 (FP.i2f (Int32.ofInt z)) = .fin s c q ∧ (z ≠ 0 → c ≠ 0) := by
  have e : (Int32.ofInt z).toInt = z := Int32.toInt_ofInt_of_le (by omega) (by omega)
  have w := FP.Core.i2f_int (a := Int32.ofInt z) (by rw [e]; omega)
  unfold FP.Core.FInt at w
  rw [e] at w
  have w : FP.Core.Whole z (FP.Core.val32 (FP.i2f (Int32.ofInt z))) := w
  cases hd : FP.Core.val32 (FP.i2f (Int32.ofInt z)) with
  | nan => rw [hd] at w; exact w.elim
  | inf s => rw [hd] at w; exact w.elim
  | fin s c q =>
    rw [hd] at w
    refine ⟨s, c, q, rfl, fun hz hc => hz ?_⟩
    subst hc
    have w : FP.Core.signed s (0 * 2 ^ q.toNat) = z * ((2 ^ (-q).toNat : Nat) : Int) := w
    rw [Nat.zero_mul] at w
    have w0 : FP.Core.signed s 0 = 0 := by unfold FP.Core.signed; split <;> rfl
    rw [w0] at w
    rcases Int.mul_eq_zero.mp w.symm with a | a
    · exact a
    · have := Nat.two_pow_pos (-q).toNat
      omega
theorem fl_i2d {z : Int} (h : 0 ≤ z ∧ z ≤ 16777216) : ∃ s c q, FP.Core.val64 (FP.i2d (Int32.ofInt z)) = .fin s c q ∧ (z ≠ 0 → c ≠ 0) := by
  have e : (Int32.ofInt z).toInt = z := Int32.toInt_ofInt_of_le (by omega) (by omega)
  have w := FP.Core.i2d_int (Int32.ofInt z)
  unfold FP.Core.DInt at w
  rw [e] at w
  have w : FP.Core.Whole z (FP.Core.val64 (FP.i2d (Int32.ofInt z))) := w
  cases hd : FP.Core.val64 (FP.i2d (Int32.ofInt z)) with
  | nan => rw [hd] at w; exact w.elim
  | inf s => rw [hd] at w; exact w.elim
  | fin s c q =>
    rw [hd] at w
    refine ⟨s, c, q, rfl, fun hz hc => hz ?_⟩
    subst hc
    have w : FP.Core.signed s (0 * 2 ^ q.toNat) = z * ((2 ^ (-q).toNat : Nat) : Int) := w
    rw [Nat.zero_mul] at w
    have w0 : FP.Core.signed s 0 = 0 := by unfold FP.Core.signed; split <;> rfl
    rw [w0] at w
    rcases Int.mul_eq_zero.mp w.symm with a | a
    · exact a
    · have := Nat.two_pow_pos (-q).toNat
      omega
theorem fl_fdiv {a b : Int} (ha : 0 ≤ a ∧ a ≤ 16777216) (hb : 1 ≤ b ∧ b ≤ 16777216) : FP.Core.val32 (FP.fdiv (FP.i2f (Int32.ofInt a)) (FP.i2f (Int32.ofInt b))) ≠ .nan := by
  obtain ⟨s, c, q, e1, -⟩ := fl_i2f ha
  obtain ⟨t, d, r, e2, h2⟩ := fl_i2f (z := b) ⟨by omega, hb.2⟩
  have hd := h2 (by omega)
  have e : FP.Core.val32 (FP.fdiv (FP.i2f (Int32.ofInt a)) (FP.i2f (Int32.ofInt b))) = FP.Core.quotient FP.Core.b32 (FP.Core.val32 (FP.i2f (Int32.ofInt a))) (FP.Core.val32 (FP.i2f (Int32.ofInt b))) := FP.Core.val32_fdiv _ _
  rw [e, e1, e2]
  show (if d = 0 then (if c = 0 then FP.Core.Datum.nan else .inf (s != t)) else FP.Core.roundRatio FP.Core.b32 (s != t) c d (q - r)) ≠ .nan
  rw [if_neg hd]
  exact FP.Core.roundRatio_ne_nan _ _ _ _ _
theorem fl_ddiv {a b : Int} (ha : 0 ≤ a ∧ a ≤ 16777216) (hb : 1 ≤ b ∧ b ≤ 16777216) : FP.Core.val64 (FP.ddiv (FP.i2d (Int32.ofInt a)) (FP.i2d (Int32.ofInt b))) ≠ .nan := by
  obtain ⟨s, c, q, e1, -⟩ := fl_i2d ha
  obtain ⟨t, d, r, e2, h2⟩ := fl_i2d (z := b) ⟨by omega, hb.2⟩
  have hd := h2 (by omega)
  have e : FP.Core.val64 (FP.ddiv (FP.i2d (Int32.ofInt a)) (FP.i2d (Int32.ofInt b))) = FP.Core.quotient FP.Core.b64 (FP.Core.val64 (FP.i2d (Int32.ofInt a))) (FP.Core.val64 (FP.i2d (Int32.ofInt b))) := FP.Core.val64_ddiv _ _
  rw [e, e1, e2]
  show (if d = 0 then (if c = 0 then FP.Core.Datum.nan else .inf (s != t)) else FP.Core.roundRatio FP.Core.b64 (s != t) c d (q - r)) ≠ .nan
  rw [if_neg hd]
  exact FP.Core.roundRatio_ne_nan _ _ _ _ _
theorem fl_n64 {a : UInt64} (h : FP.Core.val64 a ≠ .nan) : a &&& 0x7fffffffffffffff ≤ 0x7ff0000000000000 := by
  have h1 := (FP.Core.ne_nan a).mp h
  rw [UInt64.le_iff_toNat_le, UInt64.toNat_and, show (0x7fffffffffffffff : UInt64).toNat = 2 ^ 63 - 1 from rfl, Nat.and_two_pow_sub_one_eq_mod]
  exact h1
theorem fl_n32 {a : UInt32} (h : FP.Core.val32 a ≠ .nan) : a &&& 0x7fffffff ≤ 0x7f800000 := by
  have h1 : ¬ FP.Core.decode FP.Core.b32 a.toNat = .nan := h
  rw [FP.Core.decode_nan] at h1
  have e1 : FP.Core.infBits FP.Core.b32 = 2139095040 := by decide
  have e2 : FP.Core.mag FP.Core.b32 a.toNat = a.toNat % 2 ^ 31 := by
    unfold FP.Core.mag
    have : FP.Core.half FP.Core.b32 = 2 ^ 31 := by decide
    rw [this]
  rw [e1, e2] at h1
  rw [UInt32.le_iff_toNat_le, UInt32.toNat_and, show (0x7fffffff : UInt32).toNat = 2 ^ 31 - 1 from rfl, Nat.and_two_pow_sub_one_eq_mod]
  have e3 : (0x7f800000 : UInt32).toNat = 2139095040 := rfl
  rw [e3]
  omega
