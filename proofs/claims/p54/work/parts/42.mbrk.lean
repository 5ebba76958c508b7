/-! ===== breaking in the model ===== -/
def vPm (B : vB) (m : vm_M) : Prop := m 100 8 = bN B ∧ m 100 0 = bI B ∧ m 100 4 = bP B ∧ m 100 5 = bZ B ∧ ∀ w, 0 ≤ w → w < bN B → m 104 w = bW B w
/-- what the model's breaking writes -/
def vSr (k : Nat) (i : Int) : Bool := (Nat.ble 105 k && Nat.ble k 107) || (Nat.beq k 96 && decide (i = 14))
theorem vSr_n {k : Nat} {i : Int} (h : k < 105 ∨ 107 < k) (h2 : ¬ (k = 96 ∧ i = 14)) : vSr k i = false := by
  refine Bool.eq_false_iff.mpr (fun q => ?_)
  unfold vSr at q
  simp only [Bool.or_eq_true, Bool.and_eq_true, decide_eq_true_eq] at q
  rcases q with a | a
  · have a1 := Nat.le_of_ble_eq_true a.1
    have a2 := Nat.le_of_ble_eq_true a.2
    omega
  · exact h2 ⟨vm_beq a.1, a.2⟩
theorem vPm.fr {B : vB} {m m' : vm_M} (h : vfr vSr m m') (hP : vPm B m) : vPm B m' := by
  obtain ⟨h1, h2, h3, h4, h5⟩ := hP
  have a : ∀ i, m' 100 i = m 100 i := fun i => h 100 i (vSr_n (by omega) (by omega))
  refine ⟨by rw [a, h1], by rw [a, h2], by rw [a, h3], by rw [a, h4], fun w a1 a2 => ?_⟩
  rw [h 104 w (vSr_n (by omega) (by omega))]; exact h5 w a1 a2
section MB
variable {B : vB} {m : vm_M}
/-- rows as the model has them -/
def vLm (R : vR) (how : Int) (m : vm_M) : Prop := m 96 14 = (bQ R how : Int) ∧ ∀ r : Nat, r ≤ bQ R how → 0 < bQ R how → m 105 r = bF R how r
/-- the model's table of costs, rows up to L -/
def vTm (R : vR) (L : Nat) (m : vm_M) : Prop := ∀ l : Nat, l < L → ∀ e, 0 ≤ e → e ≤ rN R → m 106 (31 * l + e) = kK R l e ∧ m 107 (31 * l + e) = kT R l e
def vSk (k : Nat) (_ : Int) : Bool := Nat.beq k 106 || Nat.beq k 107
theorem vSk_r {m m' : vm_M} (h : vfr vSk m m') : vfr vSr m m' := h.sub (fun k i hk => by
  unfold vSk at hk
  simp only [Bool.or_eq_true] at hk
  rcases hk with a | a
  · have := vm_beq a; subst this; rfl
  · have := vm_beq a; subst this; rfl)
/-- cells of the table that are left as they are -/
def vSkx (z : Int) (k : Nat) (i : Int) : Bool := (Nat.beq k 106 || Nat.beq k 107) && decide (i = z)
theorem vSkx_k {z : Int} {m m' : vm_M} (h : vfr (vSkx z) m m') : vfr vSk m m' := h.sub (fun k i hk => by
  unfold vSkx at hk
  simp only [Bool.and_eq_true] at hk
  exact hk.1)
theorem vSkx_n {z : Int} {k : Nat} {i : Int} (h : i ≠ z) : vSkx z k i = false := by unfold vSkx; rw [decide_eq_false h, Bool.and_false]
end MB
