/-! ===== rows in the model ===== -/
/-- how many letters the words from f up to w have -/
def vcl (D : vD) (f w : Int) : Int := vpi (dL D) w - vpi (dL D) f
theorem vcl_f {D : vD} {f : Int} : vcl D f f = 0 := by unfold vcl; omega
theorem vcl_s {D : vD} {f w : Int} (hw : 0 ≤ w) : vcl D f (w + 1) = vcl D f w + dL D w := by unfold vcl; rw [vpi_s hw]; omega
theorem vcl_bd {D : vD} (hO : dOS D) {f : Int} (hf : 0 ≤ f) : ∀ n : Nat, f + n ≤ dN D → n ≤ vcl D f (f + n) ∧ vcl D f (f + n) ≤ 12 * n := by
  intro n
  induction n with
  | zero => intro _; rw [show f + ((0 : Nat) : Int) = f by omega, vcl_f]; omega
  | succ n ih =>
    intro hn
    have i := ih (by omega)
    have l := hO.2.2.2.1 (f + n) (by omega) (by omega)
    rw [show f + ((n + 1 : Nat) : Int) = f + n + 1 by omega, vcl_s (by omega)]
    omega
theorem vcl_bd2 {D : vD} (hO : dOS D) {f w : Int} (hf : 0 ≤ f) (hw : f ≤ w) (hN : w ≤ dN D) : 0 ≤ vcl D f w ∧ vcl D f w ≤ 12 * (w - f) ∧ vcl D f w ≤ 360 := by
  have h := vcl_bd hO hf (w - f).toNat (by omega)
  have h3 := hO.2.2.1
  rw [show f + ((w - f).toNat : Int) = w by omega] at h
  omega
theorem vcl_mono {D : vD} (hO : dOS D) {f w x : Int} (hf : 0 ≤ f) (hw : f ≤ w) (hx : w ≤ x) (hN : x ≤ dN D) : vcl D f w ≤ vcl D f x := by
  have h := vcl_bd2 hO (f := w) (w := x) (by omega) hx hN
  unfold vcl at *
  omega
/-- a letter's cells -/
def vMl (D : vD) (g p n w : Int) (E : Int → Int) (k : Int) (m : vm_M) : Prop := m 108 (n + k) = dP D (12 * w + k) ∧ m 109 (n + k) = p + yq D E g w k ∧ m 110 (n + k) = (if k + 1 < dL D w then yd D g w k else 1000)
def vMr (D : vD) (E : Int → Int) (f t : Int) (m : vm_M) : Prop := m 96 17 = yG D E f t ∧ m 96 18 = yW D E f t ∧ m 96 19 = yS D E f t ∧ m 96 20 = yX D E f t ∧ m 96 21 = y0 D E f t ∧ m 96 22 = vcl D f t ∧ ∀ w, f ≤ w → w < t → ∀ k, 0 ≤ k → k < dL D w → vMl D (yG D E f t) (yp D E f t w) (vcl D f w) w E k m
def vSlw (n : Int) (k : Nat) (i : Int) : Bool := (Nat.ble 108 k && Nat.ble k 110 && decide (n ≤ i)) || (Nat.beq k 96 && decide (i = 22))
theorem vSlw_t {n i : Int} {k : Nat} (h : (108 ≤ k ∧ k ≤ 110 ∧ n ≤ i) ∨ (k = 96 ∧ i = 22)) : vSlw n k i = true := by
  unfold vSlw
  rcases h with h | h
  · rw [Nat.ble_eq_true_of_le h.1, Nat.ble_eq_true_of_le h.2.1, decide_eq_true h.2.2]; rfl
  · rw [h.1, h.2]; simp
theorem vSlw_n {n i : Int} {k : Nat} (h : ¬ (108 ≤ k ∧ k ≤ 110 ∧ n ≤ i)) (h2 : ¬ (k = 96 ∧ i = 22)) : vSlw n k i = false := by
  refine Bool.eq_false_iff.mpr (fun q => ?_)
  unfold vSlw at q
  simp only [Bool.or_eq_true, Bool.and_eq_true, decide_eq_true_eq] at q
  rcases q with a | a
  · exact h ⟨Nat.le_of_ble_eq_true a.1.1, Nat.le_of_ble_eq_true a.1.2, a.2⟩
  · exact h2 ⟨vm_beq a.1, a.2⟩
theorem vSlw_le {n n' : Int} {m m' : vm_M} (hn : n' ≤ n) (h : vfr (vSlw n) m m') : vfr (vSlw n') m m' := h.sub (fun k i hk => by
  unfold vSlw at hk
  simp only [Bool.or_eq_true, Bool.and_eq_true, decide_eq_true_eq] at hk
  rcases hk with a | a
  · exact vSlw_t (Or.inl ⟨Nat.le_of_ble_eq_true a.1.1, Nat.le_of_ble_eq_true a.1.2, by omega⟩)
  · exact vSlw_t (Or.inr ⟨vm_beq a.1, a.2⟩))
section MY
variable {D : vD} {E : Int → Int} {m : vm_M}
def vSmr (k : Nat) (i : Int) : Bool := (Nat.ble 108 k && Nat.ble k 110) || (Nat.beq k 96 && decide (17 ≤ i ∧ i ≤ 22))
theorem vSmr_t {i : Int} {k : Nat} (h : (108 ≤ k ∧ k ≤ 110) ∨ (k = 96 ∧ 17 ≤ i ∧ i ≤ 22)) : vSmr k i = true := by
  unfold vSmr
  rcases h with h | h
  · rw [Nat.ble_eq_true_of_le h.1, Nat.ble_eq_true_of_le h.2]; rfl
  · rw [h.1, decide_eq_true h.2]; simp
theorem vSmr_n {i : Int} {k : Nat} (h : ¬ (108 ≤ k ∧ k ≤ 110)) (h2 : ¬ (k = 96 ∧ 17 ≤ i ∧ i ≤ 22)) : vSmr k i = false := by
  refine Bool.eq_false_iff.mpr (fun q => ?_)
  unfold vSmr at q
  simp only [Bool.or_eq_true, Bool.and_eq_true, decide_eq_true_eq] at q
  rcases q with a | a
  · exact h ⟨Nat.le_of_ble_eq_true a.1, Nat.le_of_ble_eq_true a.2⟩
  · exact h2 ⟨vm_beq a.1, a.2⟩
theorem vSlw_mr {n : Int} {m m' : vm_M} (h : vfr (vSlw n) m m') : vfr vSmr m m' := h.sub (fun k i hk => by
  unfold vSlw at hk
  simp only [Bool.or_eq_true, Bool.and_eq_true, decide_eq_true_eq] at hk
  rcases hk with a | a
  · exact vSmr_t (Or.inl ⟨Nat.le_of_ble_eq_true a.1.1, Nat.le_of_ble_eq_true a.1.2⟩)
  · exact vSmr_t (Or.inr ⟨vm_beq a.1, by omega⟩))
theorem vSmr_m {m m' : vm_M} (h : vfr vSmr m m') : vfr vSm m m' := h.sub (fun k i hk => by
  unfold vSmr at hk
  simp only [Bool.or_eq_true, Bool.and_eq_true, decide_eq_true_eq] at hk
  unfold vSm
  rcases hk with a | a
  · have a1 := Nat.le_of_ble_eq_true a.1
    have a2 := Nat.le_of_ble_eq_true a.2
    rw [Nat.ble_eq_true_of_le (by omega : 104 ≤ k), Nat.ble_eq_true_of_le (by omega : k ≤ 110)]; rfl
  · rw [vm_beq a.1, decide_eq_true a.2.1, decide_eq_true a.2.2]; simp)
end MY
