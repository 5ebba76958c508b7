/-! ===== frames ===== -/
def vfr (S : Nat → Int → Bool) (m m' : vm_M) : Prop := ∀ k i, S k i = false → m' k i = m k i
theorem vfr.rf {S : Nat → Int → Bool} {m : vm_M} : vfr S m m := fun _ _ _ => rfl
theorem vfr.tr {S : Nat → Int → Bool} {m m1 m2 : vm_M} (h1 : vfr S m m1) (h2 : vfr S m1 m2) : vfr S m m2 := fun k i h => (h2 k i h).trans (h1 k i h)
theorem vfr.st {S : Nat → Int → Bool} {m m1 : vm_M} {k : Nat} {i v : Int} (h : vfr S m m1) (hS : S k i = true) : vfr S m (vm_st m1 k i v) := by
  intro a b hab
  unfold vm_st
  by_cases hq : a = k ∧ b = i
  · rw [hq.1, hq.2, hS] at hab; cases hab
  · rw [if_neg hq]; exact h a b hab
theorem vfr.sub {S S' : Nat → Int → Bool} {m m1 : vm_M} (h : vfr S m m1) (hs : ∀ k i, S k i = true → S' k i = true) : vfr S' m m1 := fun k i hk => h k i (by
  cases hq : S k i with
  | false => rfl
  | true => rw [hs k i hq] at hk; cases hk)
theorem vst_s (m : vm_M) (k : Nat) (i v : Int) : vm_st m k i v k i = v := by unfold vm_st; rw [if_pos ⟨rfl, rfl⟩]
theorem vst_k {m : vm_M} {k k' : Nat} {i i' v : Int} (h : k' ≠ k) : vm_st m k i v k' i' = m k' i' := by unfold vm_st; rw [if_neg (fun q => h q.1)]
theorem vst_i {m : vm_M} {k k' : Nat} {i i' v : Int} (h : i' ≠ i) : vm_st m k i v k' i' = m k' i' := by unfold vm_st; rw [if_neg (fun q => h q.2)]
/-- what queries of the model write: laid widths, firsts, rows, costs, letters of a row, texts -/
def vSm (k : Nat) (i : Int) : Bool := (Nat.ble 104 k && Nat.ble k 110) || (Nat.beq k 96 && (decide (i = 14) || (decide (17 ≤ i) && decide (i ≤ 22)) || (decide (41 ≤ i) && decide (i ≤ 43))))
/-- what the laying of rows writes -/
def vSw (k : Nat) (_ : Int) : Bool := Nat.beq k 104
section FR
variable {D : vD} {m m' : vm_M}
theorem dAm.fr {S : Nat → Int → Bool} (h : vfr S m m') (h1 : S 96 3 = false) (h2 : S 96 4 = false) (h3 : ∀ i, S 98 i = false) (h4 : ∀ i, S 99 i = false) (hA : dAm D m) : dAm D m' := by
  unfold dAm at hA ⊢
  rw [h 96 3 h1, h 96 4 h2]
  exact ⟨hA.1, hA.2.1, fun a ha => by rw [h 98 _ (h3 _)]; exact hA.2.2.1 a ha, fun a ha i hi1 hi2 => by rw [h 99 _ (h4 _)]; exact hA.2.2.2 a ha i hi1 hi2⟩
theorem dSm.fr {S : Nat → Int → Bool} (h : vfr S m m') (h1 : ∀ i, S 100 i = false) (hS : dSm D m) : dSm D m' := by
  unfold dSm at hS ⊢
  rw [h 100 8 (h1 _)]
  exact ⟨hS.1, fun k a b => by rw [h 100 _ (h1 _)]; exact hS.2.1 k a b, fun k a b => by rw [h 100 _ (h1 _)]; exact hS.2.2.1 k a b, fun w a b k c d => by rw [h 100 _ (h1 _)]; exact hS.2.2.2 w a b k c d⟩
theorem sm_laysW2 {Q : vm_M → Prop} {g : Int} (hD : dOA D) (hO : dOS D) (hg : g ≤ dC D) (hA : dAm D m) (hS : dSm D m) (hm : m 100 3 = g) (h : ∀ m', vfr vSw m m' → (∀ w, 0 ≤ w → w < dN D → m' 104 w = vww D g w) → Q m') : ∀ (n : Nat) (j : Int) (m1 : vm_M), 0 ≤ j → j + n = dN D → vfr vSw m m1 → (∀ w, 0 ≤ w → w < j → m1 104 w = vww D g w) → ku11_laysWidths_2 j m1 Q := by
  have hN := hO.2.2.1
  intro n
  induction n with
  | zero =>
    intro j m1 h0 hj hf hw
    have hS1 := hS.fr hf (fun _ => rfl)
    exact ru11_laysWidths_2 ⟨fun _ => h m1 hf (fun w a b => hw w a (by omega)), fun c => absurd (show m1 100 8 ≤ j by rw [hS1.1]; omega) c⟩
  | succ n ih =>
    intro j m1 h0 hj hf hw
    have hS1 := hS.fr hf (fun _ => rfl)
    have hA1 := hA.fr hf rfl rfl (fun _ => rfl) (fun _ => rfl)
    refine ru11_laysWidths_2 ⟨fun c => by rw [hS1.1] at c; omega, fun _ => ?_⟩
    rw [hf 100 3 rfl, hm]
    refine sm_width hD hO hA1 hS1 ⟨h0, by omega⟩ hg ⟨by omega, ih (j + 1) _ (by omega) (by omega) (hf.st rfl) (fun w a b => ?_)⟩
    by_cases hq : w = j
    · rw [hq, vst_s]
    · rw [vst_i hq]; exact hw w a (by omega)
theorem sm_laysW {Q : vm_M → Prop} {g : Int} (hD : dOA D) (hO : dOS D) (hg : g ≤ dC D) (hA : dAm D m) (hS : dSm D m) (hm : m 100 3 = g) (h : ∀ m', vfr vSw m m' → (∀ w, 0 ≤ w → w < dN D → m' 104 w = vww D g w) → Q m') : vm_C 177 [vm_r 96] m (vm_qv Q) :=
  ru11_laysWidths_0 (sm_laysW2 hD hO hg hA hS hm h (dN D).toNat 0 m (by omega) (by have := hO.2.1; omega) vfr.rf (fun w a b => by omega))
end FR
