/-! ===== breaking: the mathematics (T: sums of widths with their spaces, C: a space, N: how many words, I: INNER) ===== -/
theorem vmul_bd {a b A B : Int} (ha : 0 ≤ a ∧ a ≤ A) (hb : 0 ≤ b ∧ b ≤ B) : 0 ≤ a * b ∧ a * b ≤ A * B :=
  ⟨Int.mul_nonneg ha.1 hb.1, Int.le_trans (Int.mul_le_mul_of_nonneg_right ha.2 hb.1) (Int.mul_le_mul_of_nonneg_left hb.2 (Int.le_trans ha.1 ha.2))⟩
def vpi (f : Int → Int) (z : Int) : Int := vs f z.toNat
theorem vpi_0 (f : Int → Int) : vpi f 0 = 0 := rfl
theorem vpi_s {f : Int → Int} {z : Int} (h : 0 ≤ z) : vpi f (z + 1) = vpi f z + f z := by
  obtain ⟨n, rfl⟩ := Int.eq_ofNat_of_zero_le h
  unfold vpi
  rw [show ((n : Int) + 1).toNat = n + 1 by omega, show ((n : Int)).toNat = n by omega]
  rfl
abbrev vR : Type := (Int → Int) × Int × Int × Int
def rT (R : vR) : Int → Int := R.1
def rC (R : vR) : Int := R.2.1
def rN (R : vR) : Int := R.2.2.1
def rI (R : vR) : Int := R.2.2.2
def rOK (R : vR) : Prop := 0 ≤ rN R ∧ rN R ≤ 30 ∧ 0 ≤ rC R ∧ rC R ≤ 891 ∧ 10 ≤ rI R ∧ rI R ≤ 9999 ∧ rT R 0 = 0 ∧ ∀ z, 0 ≤ z → z < rN R → rT R z + rC R + 1 ≤ rT R (z + 1) ∧ rT R (z + 1) ≤ rT R z + 11583
/-- the width of a row -/
def rwd (R : vR) (f t : Int) : Int := rT R t - rT R f - rC R
section BR
variable {R : vR}
theorem rT_up (h : rOK R) {f : Int} (hf : 0 ≤ f) : ∀ n : Nat, f + 1 + n ≤ rN R → rT R f + rC R + 1 ≤ rT R (f + 1 + n) ∧ rT R (f + 1 + n) ≤ rT R f + 11583 * (n + 1) := by
  obtain ⟨h1, h2, h3, h4, h5, h6, h7, h8⟩ := h
  intro n
  induction n with
  | zero =>
    intro hn
    have := h8 f hf (by omega)
    rw [show f + 1 + ((0 : Nat) : Int) = f + 1 by omega]
    omega
  | succ n ih =>
    intro hn
    have i1 := ih (by omega)
    have i2 := h8 (f + 1 + n) (by omega) (by omega)
    rw [show f + 1 + ((n + 1 : Nat) : Int) = f + 1 + n + 1 by omega]
    omega
theorem rT_lt (h : rOK R) {f t : Int} (hf : 0 ≤ f) (hft : f < t) (ht : t ≤ rN R) : rT R f + rC R + 1 ≤ rT R t ∧ rT R t ≤ rT R f + 11583 * (t - f) := by
  have := rT_up h hf (t - f - 1).toNat (by omega)
  rw [show f + 1 + ((t - f - 1).toNat : Int) = t by omega] at this
  omega
theorem rwd_bd (h : rOK R) {f t : Int} (hf : 0 ≤ f) (hft : f < t) (ht : t ≤ rN R) : 1 ≤ rwd R f t ∧ rwd R f t ≤ 347490 := by
  have h1 := rT_lt h hf hft ht
  have h2 := h.2.1
  have h3 := h.2.2.1
  unfold rwd
  omega
theorem rwd_r (h : rOK R) {f t u : Int} (hf : 0 ≤ f) (hft : f < t) (htu : t < u) (hu : u ≤ rN R) : rwd R f t < rwd R f u := by
  have h1 := rT_lt h (f := t) (t := u) (by omega) htu hu
  have h3 := h.2.2.1
  unfold rwd
  omega
theorem rwd_l (h : rOK R) {f g t : Int} (hf : 0 ≤ f) (hfg : f < g) (hgt : g < t) (ht : t ≤ rN R) : rwd R g t < rwd R f t := by
  have h1 := rT_lt h (f := f) (t := g) (by omega) hfg (by omega)
  have h3 := h.2.2.1
  unfold rwd
  omega
/-- the end of a row that begins at f and takes as many words as it can -/
def gE (R : vR) (f : Int) : Nat → Int → Int
  | 0, e => e
  | n + 1, e => if e < rN R ∧ rwd R f (e + 1) ≤ rI R then gE R f n (e + 1) else e
def gend (R : vR) (f : Int) : Int := gE R f 30 (f + 1)
abbrev kval (R : vR) (f e : Int) : Prop := e = f + 1 ∨ rwd R f e ≤ rI R
theorem gE_ok {f : Int} : ∀ (n : Nat) (e : Int), f + 1 ≤ e → e ≤ rN R → rN R ≤ e + n → kval R f e → f + 1 ≤ gE R f n e ∧ gE R f n e ≤ rN R ∧ kval R f (gE R f n e) ∧ (gE R f n e < rN R → rI R < rwd R f (gE R f n e + 1))
  | 0, e, h1, h2, h3, h4 => ⟨h1, h2, h4, fun q => by unfold gE at q; omega⟩
  | n + 1, e, h1, h2, h3, h4 => by
    unfold gE
    by_cases hq : e < rN R ∧ rwd R f (e + 1) ≤ rI R
    · rw [if_pos hq]
      exact gE_ok n (e + 1) (by omega) (by omega) (by omega) (Or.inr hq.2)
    · rw [if_neg hq]
      exact ⟨h1, h2, h4, fun q => by
        rcases Int.lt_or_le (rI R) (rwd R f (e + 1)) with a | a
        · exact a
        · exact absurd ⟨q, a⟩ hq⟩
theorem gend_ok (h : rOK R) {f : Int} (hf : 0 ≤ f) (hN : f < rN R) : f + 1 ≤ gend R f ∧ gend R f ≤ rN R ∧ kval R f (gend R f) ∧ (gend R f < rN R → rI R < rwd R f (gend R f + 1)) :=
  gE_ok 30 (f + 1) (by omega) (by omega) (by have := h.2.1; omega) (Or.inl rfl)
def gF (R : vR) : Nat → Int
  | 0 => 0
  | r + 1 => if gF R r < rN R then gend R (gF R r) else gF R r
/-- how many steps lead to the end -/
def vfst (F : Nat → Int) (N : Int) : Nat → Nat → Nat
  | 0, r => r
  | n + 1, r => if F r < N then vfst F N n (r + 1) else r
def vcnt (F : Nat → Int) (N : Int) : Nat := vfst F N 30 0
theorem vfst_ok {F : Nat → Int} {N : Int} (hF : ∀ r, F r ≤ N) (hi : ∀ r, F r < N → F r + 1 ≤ F (r + 1)) : ∀ (n r : Nat), N ≤ F r + n → (∀ j, j < r → F j < N) → F (vfst F N n r) = N ∧ (∀ j, j < vfst F N n r → F j < N) ∧ r ≤ vfst F N n r
  | 0, r, h1, h2 => ⟨by have := hF r; unfold vfst; omega, h2, Nat.le_refl _⟩
  | n + 1, r, h1, h2 => by
    unfold vfst
    by_cases hq : F r < N
    · rw [if_pos hq]
      have i1 := vfst_ok hF hi n (r + 1) (by have := hi r hq; omega) (fun j hj => by
        rcases Nat.lt_or_ge j r with a | a
        · exact h2 j a
        · rw [show j = r by omega]; exact hq)
      exact ⟨i1.1, i1.2.1, by omega⟩
    · rw [if_neg hq]
      exact ⟨by have := hF r; omega, h2, Nat.le_refl _⟩
theorem vcnt_ok {F : Nat → Int} {N : Int} (h0 : F 0 = 0) (hN : N ≤ 30) (hF : ∀ r, F r ≤ N) (hi : ∀ r, F r < N → F r + 1 ≤ F (r + 1)) : F (vcnt F N) = N ∧ ∀ j, j < vcnt F N → F j < N := by
  have := vfst_ok hF hi 30 0 (by rw [h0]; omega) (fun j hj => by omega)
  exact ⟨this.1, this.2.1⟩
theorem gF_bd (h : rOK R) : ∀ r, 0 ≤ gF R r ∧ gF R r ≤ rN R
  | 0 => ⟨Int.le_refl _, h.1⟩
  | r + 1 => by
    have i := gF_bd h r
    unfold gF
    by_cases hq : gF R r < rN R
    · rw [if_pos hq]
      have := gend_ok h i.1 hq
      omega
    · rw [if_neg hq]; exact i
theorem gF_s (r : Nat) (hq : gF R r < rN R) : gF R (r + 1) = gend R (gF R r) := by
  show (if gF R r < rN R then gend R (gF R r) else gF R r) = _
  rw [if_pos hq]
theorem gF_up (h : rOK R) (r : Nat) (hq : gF R r < rN R) : gF R r + 1 ≤ gF R (r + 1) := by
  rw [gF_s r hq]
  exact (gend_ok h (gF_bd h r).1 hq).1
def gcnt (R : vR) : Nat := vcnt (gF R) (rN R)
theorem gcnt_ok (h : rOK R) : gF R (gcnt R) = rN R ∧ ∀ j, j < gcnt R → gF R j < rN R :=
  vcnt_ok rfl h.2.1 (fun r => (gF_bd h r).2) (gF_up h)
theorem gF_ge (h : rOK R) : ∀ r : Nat, (r : Int) ≤ gF R r ∨ gF R r = rN R
  | 0 => Or.inl (Int.le_refl _)
  | r + 1 => by
    have h2 := gF_bd h r
    rcases Int.lt_or_le (gF R r) (rN R) with a | a
    · have := gF_up h r a
      rcases gF_ge h r with b | b
      · left; omega
      · omega
    · right
      unfold gF
      rw [if_neg (by omega)]
      omega
theorem gcnt_30 (h : rOK R) : gcnt R ≤ 30 := by
  rcases Nat.lt_or_ge 30 (gcnt R) with a | a
  · have h1 := (gcnt_ok h).2 30 a
    have h2 := h.2.1
    rcases gF_ge h 30 with b | b <;> omega
  · exact a
/-! the least cost -/
def vsq (I w : Int) : Int := if w < I then (I - w) * (I - w) else 0
theorem vsq_bd {I w : Int} (hI : I ≤ 9999) (hw : 1 ≤ w) : 0 ≤ vsq I w ∧ vsq I w ≤ 99960004 := by
  unfold vsq
  by_cases hq : w < I
  · rw [if_pos hq]
    have := vmul_bd (a := I - w) (b := I - w) (A := 9998) (B := 9998) ⟨by omega, by omega⟩ ⟨by omega, by omega⟩
    omega
  · rw [if_neg hq]; omega
def kcd (R : vR) (K : Int → Int) (f e : Int) : Int := if e = rN R then 0 else vsq (rI R) (rwd R f e) + K e
end BR
