/-! ===== frames ===== -/
def vfr (S : Nat → Int → Bool) (m m' : vm_M) : Prop := ∀ k i, S k i = false → m' k i = m k i
theorem vfr.rf {S : Nat → Int → Bool} {m : vm_M} : vfr S m m := fun _ _ _ => rfl
theorem vfr.tr {S : Nat → Int → Bool} {m m1 m2 : vm_M} (h1 : vfr S m m1) (h2 : vfr S m1 m2) : vfr S m m2 := fun k i h => (h2 k i h).trans (h1 k i h)
theorem vfr.st {S : Nat → Int → Bool} {m m1 : vm_M} {k : Nat} {i v : Int} (h : vfr S m m1) (hS : S k i = true) : vfr S m (vm_st m1 k i v) := by
  intro a b hab
  unfold vm_st
  by_cases hq : a = k ∧ b = i
  · rw [hq.1, hq.2, hS] at hab; cases hab
  · rw [if_neg hq]; exact h a b hab
theorem vfr.sub {S S' : Nat → Int → Bool} {m m1 : vm_M} (h : vfr S m m1) (hs : ∀ k i, S k i = true → S' k i = true) : vfr S' m m1 := fun k i hk => h k i (by
  cases hq : S k i with
  | false => rfl
  | true => rw [hs k i hq] at hk; cases hk)
theorem vst_s (m : vm_M) (k : Nat) (i v : Int) : vm_st m k i v k i = v := by unfold vm_st; rw [if_pos ⟨rfl, rfl⟩]
theorem vst_k {m : vm_M} {k k' : Nat} {i i' v : Int} (h : k' ≠ k) : vm_st m k i v k' i' = m k' i' := by unfold vm_st; rw [if_neg (fun q => h q.1)]
theorem vst_i {m : vm_M} {k k' : Nat} {i i' v : Int} (h : i' ≠ i) : vm_st m k i v k' i' = m k' i' := by unfold vm_st; rw [if_neg (fun q => h q.2)]
/-- what queries of the model write: laid widths, firsts, rows, costs, letters of a row, texts -/
def vSm (k : Nat) (i : Int) : Bool := (Nat.ble 104 k && Nat.ble k 110) || (Nat.beq k 96 && (decide (i = 14) || (decide (17 ≤ i) && decide (i ≤ 22)) || (decide (41 ≤ i) && decide (i ≤ 43))))
/-- what the laying of rows writes -/
def vSw (k : Nat) (_ : Int) : Bool := Nat.beq k 104
section FR
variable {D : vD} {m m' : vm_M}
theorem dAm.fr {S : Nat → Int → Bool} (h : vfr S m m') (h1 : S 96 3 = false) (h2 : S 96 4 = false) (h3 : ∀ i, S 98 i = false) (h4 : ∀ i, S 99 i = false) (hA : dAm D m) : dAm D m' := by
  unfold dAm at hA ⊢
  rw [h 96 3 h1, h 96 4 h2]
  exact ⟨hA.1, hA.2.1, fun a ha => by rw [h 98 _ (h3 _)]; exact hA.2.2.1 a ha, fun a ha i hi1 hi2 => by rw [h 99 _ (h4 _)]; exact hA.2.2.2 a ha i hi1 hi2⟩
theorem dSm.fr {S : Nat → Int → Bool} (h : vfr S m m') (h1 : ∀ i, S 100 i = false) (hS : dSm D m) : dSm D m' := by
  unfold dSm at hS ⊢
  rw [h 100 8 (h1 _)]
  exact ⟨hS.1, fun k a b => by rw [h 100 _ (h1 _)]; exact hS.2.1 k a b, fun k a b => by rw [h 100 _ (h1 _)]; exact hS.2.2.1 k a b, fun w a b k c d => by rw [h 100 _ (h1 _)]; exact hS.2.2.2 w a b k c d⟩
end FR
