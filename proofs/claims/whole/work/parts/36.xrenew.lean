/-! ===== x's widths, all words ===== -/
def vS6 (k : Nat) (_ : Int) : Bool := Nat.beq k 66
theorem vS66_6 {w : Int} {m m' : vm_M} (h : vfr (vS66 w) m m') : vfr vS6 m m' := h.sub (fun k i hk => by
  unfold vS66 at hk
  simp only [Bool.and_eq_true] at hk
  exact hk.1)
theorem vS6_n {k : Nat} {i : Int} (h : k ≠ 66) : vS6 k i = false := Bool.eq_false_iff.mpr (fun q => h (vm_beq q))
section XR
variable {D : vD} {m : vm_M}
theorem sx_ren73 {w : Int} (hD : dOA D) (hA : dAx D m 3) (hw : 0 ≤ w ∧ w < 30) {V : Int → Int} (hVm : ∀ g, 0 ≤ g → g ≤ dC D → m 66 (30 * g + w) = V g) {R : vm_M → Prop} : ∀ (n : Nat) (g : Int) (m1 : vm_M) (w3' : Option vm_V), 0 ≤ g → g + n = dC D + 1 → vfr (vS66 w) m m1 → (∀ x, 0 ≤ x → x < g → m1 66 (30 * x + w) = vone (V x)) → (∀ x, g ≤ x → x ≤ dC D → m1 66 (30 * x + w) = V x) → (∀ m' w2 w4, vfr (vS66 w) m m' → (∀ g, 0 ≤ g → g ≤ dC D → m' 66 (30 * g + w) = vone (V g)) → ku9_renew_2 (w + 1) w2 w4 m' R) → ku9_renew_73 w g w3' m1 R := by
  have hC := hD.2.1
  intro n
  induction n with
  | zero =>
    intro g m1 w3' h0 hg hf hlo hhi hk
    have hA1 := hA.fr hf (vS66_n (by decide)) (fun _ => vS66_n (by decide)) (fun _ => vS66_n (by decide))
    exact ru9_renew_73 ⟨fun _ => ⟨by omega, hk _ _ _ hf (fun x x1 x2 => hlo x x1 (by omega))⟩, fun c => absurd (show m1 3 2 < g by rw [hA1.1]; omega) c⟩
  | succ n ih =>
    intro g m1 w3' h0 hg hf hlo hhi hk
    have hA1 := hA.fr hf (vS66_n (by decide)) (fun _ => vS66_n (by decide)) (fun _ => vS66_n (by decide))
    refine ru9_renew_73 ⟨fun c => by rw [hA1.1] at c; omega, fun _ => ⟨by omega, ?_⟩⟩
    rw [show g * 30 + w = 30 * g + w by omega, hhi g (by omega) (by omega)]
    refine ih (g + 1) _ _ (by omega) (by omega) (hf.st (by unfold vS66; simp; omega)) (fun x x1 x2 => ?_) (fun x x1 x2 => ?_) hk
    · by_cases hq : x = g
      · rw [hq, vst_s]
        unfold vone
        repeat' split
        all_goals omega
      · rw [vst_i (by omega)]; exact hlo x x1 (by omega)
    · rw [vst_i (by omega)]; exact hhi x (by omega) x2
end XR
