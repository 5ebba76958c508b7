/-! ===== the model reads the board ===== -/
/-- all is well, with what is left to read; or it was wrong -/
def LV (z : vZs) (m0 : vm_M) (U : Int → Prop) (g c : Int) (W K : Int → Int) (R : vRS) (k : vPS → vRS) (m : vm_M) : Prop := (∃ s, pOk z s ∧ PM z m0 U g c W K s m ∧ pW s = W ∧ pK s = K ∧ k s = R) ∨ (∃ s, R = pErr z s ∧ DD m0 (tF (zb z) (zn z) (pp s)) m)
section MB
variable {D : vD} {E : Int → Int} {z : vZs} {m m' m0 : vm_M} {U : Int → Prop} {g c : Int} {W K : Int → Int} {s : vPS} {k : vPS → vRS} {R : vRS}
theorem DD.st {e : Int} {a : Nat} {i v : Int} (h : DD m0 e m) (ha : vMp a i = true) (h2 : a = 96 → i ≠ 31 ∧ i ≠ 2) : DD m0 e (vm_st m a i v) := by
  have n : ∀ j, (j = 31 ∨ j = 2) → vm_st m a i v 96 j = m 96 j := fun j hj => by
    unfold vm_st
    rw [if_neg (fun q => by have := h2 q.1.symm; omega)]
  exact ⟨h.1.st ha, by rw [n 31 (Or.inl rfl)]; exact h.2.1, by rw [n 2 (Or.inr rfl)]; exact h.2.2⟩
theorem LV.dead {k' : vPS → vRS} {g' c' : Int} {a : Nat} {i v : Int} (ha : vMp a i = true) (h2 : a = 96 → i ≠ 31 ∧ i ≠ 2) (he : R = pErr z s) (d : DD m0 (tF (zb z) (zn z) (pp s)) m) : LV z m0 U g' c' W K R k' (vm_st m a i v) := Or.inr ⟨s, he, d.st ha h2⟩
end MB
