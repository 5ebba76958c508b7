/-! ===== tokens, as the model reads them ===== -/
/-- the letters of a run, packed -/
def tpk (b : Int → Int) (f : Int) : Nat → Int
  | 0 => 0
  | k + 1 => 32 * tpk b f k + b (f + k) - 96
def tkey (w : Int) : Prop := w = 2590276 ∨ w = 398372 ∨ w = 3120 ∨ w = 7216 ∨ w = 769604 ∨ w = 632645 ∨ w = 408572082 ∨ w = 763013 ∨ w = 398548 ∨ w = 19176724 ∨ w = 508078 ∨ w = 525618 ∨ w = 113757362 ∨ w = 24416434
def tW (b : Int → Int) (n p : Int) : Int := tpk b (tF b n p) (tE0 b n p - tF b n p).toNat
theorem tpk_bd {b : Int → Int} {f : Int} : ∀ (k : Nat), (∀ i, f ≤ i → i < f + k → 97 ≤ b i ∧ b i ≤ 122) → 0 ≤ tpk b f k ∧ (k ≤ 0 → tpk b f k ≤ 0) ∧ (k ≤ 1 → tpk b f k < 32) ∧ (k ≤ 2 → tpk b f k < 1024) ∧ (k ≤ 3 → tpk b f k < 32768) ∧ (k ≤ 4 → tpk b f k < 1048576) ∧ (k ≤ 5 → tpk b f k < 33554432) ∧ (k ≤ 6 → tpk b f k < 1073741824) ∧ (k ≤ 7 → tpk b f k < 34359738368) ∧ (k ≤ 8 → tpk b f k < 1099511627776) ∧ (1 ≤ k → 1 ≤ tpk b f k) ∧ (2 ≤ k → 32 ≤ tpk b f k) ∧ (3 ≤ k → 1024 ≤ tpk b f k) ∧ (4 ≤ k → 32768 ≤ tpk b f k) ∧ (5 ≤ k → 1048576 ≤ tpk b f k) ∧ (6 ≤ k → 33554432 ≤ tpk b f k) ∧ (7 ≤ k → 1073741824 ≤ tpk b f k) ∧ (8 ≤ k → 34359738368 ≤ tpk b f k)
  | 0, _ => by unfold tpk; omega
  | k + 1, h => by
    have i := tpk_bd k (fun i h1 h2 => h i h1 (by omega))
    have d := h (f + k) (by omega) (by omega)
    unfold tpk
    omega
section TM
variable {D : vD} {E : Int → Int} {z : vZs} {m m' : vm_M}
/-- the model's token behind p -/
def TKm (z : vZs) (p : Int) (m : vm_M) : Prop := m 96 27 = tF (zb z) (zn z) p ∧ m 96 26 = tE0 (zb z) (zn z) p ∧ (m 96 28 = 0 ↔ tKd (zb z) (zn z) p = 0) ∧ (m 96 28 = 1 ↔ tKd (zb z) (zn z) p = 1 ∧ 2 ≤ tE0 (zb z) (zn z) p - tF (zb z) (zn z) p ∧ tE0 (zb z) (zn z) p - tF (zb z) (zn z) p ≤ 8 ∧ tkey (tW (zb z) (zn z) p)) ∧ (m 96 28 = 2 ↔ tKd (zb z) (zn z) p = 1 ∧ tE0 (zb z) (zn z) p - tF (zb z) (zn z) p = 1) ∧ (m 96 28 = 3 ↔ tKd (zb z) (zn z) p = 2) ∧ (m 96 28 = 4 ↔ tKd (zb z) (zn z) p = 3) ∧ (m 96 28 = 1 ∨ m 96 28 = 2 → m 96 29 = tW (zb z) (zn z) p) ∧ (m 96 28 = 3 → m 96 30 = tN (zb z) (zn z) p)
def vTo (k : Nat) (i : Int) : Bool := Nat.beq k 96 && decide (26 ≤ i ∧ i ≤ 30)
theorem vTo_n {k : Nat} {i : Int} (h : k = 96 → ¬ (26 ≤ i ∧ i ≤ 30)) : vTo k i = false := Bool.eq_false_iff.mpr (fun q => by
  unfold vTo at q
  simp only [Bool.and_eq_true, decide_eq_true_eq] at q
  exact h (vm_beq q.1) q.2)
end TM
