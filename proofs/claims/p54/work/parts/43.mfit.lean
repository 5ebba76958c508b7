/-! ===== the numbers; the model's rows, cost, height, fitting ===== -/
def dOE (D : vD) (E : Int → Int) : Prop := (10 ≤ E 0 ∧ E 0 ≤ 9999) ∧ (1 ≤ E 1 ∧ E 1 ≤ 9999) ∧ (0 ≤ E 2 ∧ E 2 ≤ 99) ∧ (0 ≤ E 3 ∧ E 3 ≤ dC D) ∧ (0 ≤ E 4 ∧ E 4 ≤ 99) ∧ (1 ≤ E 5 ∧ E 5 ≤ 9) ∧ (E 6 = 0 ∨ E 6 = 1) ∧ (E 7 = 0 ∨ E 7 = 1)
def dEm (E : Int → Int) (m : vm_M) : Prop := m 100 0 = E 0 ∧ m 100 1 = E 1 ∧ m 100 2 = E 2 ∧ m 100 3 = E 3 ∧ m 100 4 = E 4 ∧ m 100 5 = E 5 ∧ m 100 6 = E 6 ∧ m 100 7 = E 7
def dEx (E : Int → Int) (m : vm_M) (th : Nat) : Prop := m (th + 1) 0 = E 0 ∧ m (th + 1) 1 = E 1 ∧ m (th + 1) 2 = E 2 ∧ m (th + 1) 3 = E 3 ∧ m (th + 1) 4 = E 4 ∧ m (th + 1) 5 = E 5 ∧ m th 4 = E 6 ∧ m th 5 = E 7
theorem dEm.fr {E : Int → Int} {S : Nat → Int → Bool} {m m' : vm_M} (h : vfr S m m') (h1 : ∀ i, S 100 i = false) (hE : dEm E m) : dEm E m' := by
  unfold dEm at hE ⊢
  have a : ∀ i, m' 100 i = m 100 i := fun i => h 100 i (h1 i)
  rw [a, a, a, a, a, a, a, a]; exact hE
theorem dEx.fr {E : Int → Int} {S : Nat → Int → Bool} {m m' : vm_M} {th : Nat} (h : vfr S m m') (h1 : ∀ i, S (th + 1) i = false) (h4 : S th 4 = false) (h5 : S th 5 = false) (hE : dEx E m th) : dEx E m' th := by
  unfold dEx at hE ⊢
  have a : ∀ i, m' (th + 1) i = m (th + 1) i := fun i => h _ i (h1 i)
  rw [a, a, a, a, a, a, h th 4 h4, h th 5 h5]; exact hE
/-- the board: widths for GAP, how many words, WORD, SIZE, INNER -/
def eB (D : vD) (E : Int → Int) : vB := (vww D (E 3), dN D, E 4, E 5, E 0)
theorem eB_ok {D : vD} {E : Int → Int} (hD : dOA D) (hO : dOS D) (hE : dOE D E) : bOK (eB D E) :=
  ⟨hO.2.1, hO.2.2.1, fun w a b => vww_bd hD hO ⟨a, b⟩ hE.2.2.2.1.2, hE.2.2.2.2.1.1, hE.2.2.2.2.1.2, hE.2.2.2.2.2.1.1, hE.2.2.2.2.2.1.2, hE.1.1, hE.1.2⟩
section MF
variable {B : vB} {m : vm_M} {how : Int}
/-- what the model's laying of rows writes -/
def vSl (k : Nat) (i : Int) : Bool := (Nat.ble 104 k && Nat.ble k 107) || (Nat.beq k 96 && decide (i = 14))
theorem vSl_n {k : Nat} {i : Int} (h : k < 104 ∨ 107 < k) (h2 : ¬ (k = 96 ∧ i = 14)) : vSl k i = false := by
  refine Bool.eq_false_iff.mpr (fun q => ?_)
  unfold vSl at q
  simp only [Bool.or_eq_true, Bool.and_eq_true, decide_eq_true_eq] at q
  rcases q with a | a
  · have a1 := Nat.le_of_ble_eq_true a.1
    have a2 := Nat.le_of_ble_eq_true a.2
    omega
  · exact h2 ⟨vm_beq a.1, a.2⟩
theorem vSl_t {k : Nat} {i : Int} (h : 104 ≤ k ∧ k ≤ 107) : vSl k i = true := by
  unfold vSl
  rw [Nat.ble_eq_true_of_le h.1, Nat.ble_eq_true_of_le h.2]; rfl
theorem vSr_l {m m' : vm_M} (h : vfr vSr m m') : vfr vSl m m' := h.sub (fun k i hk => by
  unfold vSr at hk
  simp only [Bool.or_eq_true, Bool.and_eq_true, decide_eq_true_eq] at hk
  rcases hk with a | a
  · have a1 := Nat.le_of_ble_eq_true a.1
    have a2 := Nat.le_of_ble_eq_true a.2
    exact vSl_t (by omega)
  · have := vm_beq a.1
    unfold vSl
    rw [this, a.2]; rfl)
theorem vSw_l {m m' : vm_M} (h : vfr vSw m m') : vfr vSl m m' := h.sub (fun k i hk => vSl_t (by have := vm_beq hk; omega))
end MF
