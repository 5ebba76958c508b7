/-! ===== more questions about rows ===== -/
noncomputable def ytn (D : vD) (E : Int → Int) (f t i : Int) : Int := vif (ytc D E f t i) 1 0
/-- the first letter from i on, of n, that holds x -/
noncomputable def yfi (D : vD) (E : Int → Int) (f t x : Int) : Nat → Int → Int
  | 0, _ => -2
  | n + 1, i => vif (yho D E f t i x) i (yfi D E f t x n (i + 1))
/-- the fullest or the emptiest of the first rows -/
def yws (D : vD) (E : Int → Int) (g : Int) : Nat → Int × Int
  | 0 => (-2, 0)
  | n + 1 => if (yws D E g n).1 = -2 ∨ (g = 0 ∧ yW D E (eF D E n) (eF D E (n + 1)) < (yws D E g n).2) ∨ (¬ g = 0 ∧ (yws D E g n).2 < yW D E (eF D E n) (eF D E (n + 1))) then ((n : Int), yW D E (eF D E n) (eF D E (n + 1))) else yws D E g n
theorem yws_bd {D : vD} {E : Int → Int} {g : Int} : ∀ n, (yws D E g n).1 = -2 ∨ 0 ≤ (yws D E g n).1
  | 0 => Or.inl rfl
  | n + 1 => by
    have i := yws_bd (D := D) (E := E) (g := g) n
    unfold yws
    split
    · right; dsimp only; omega
    · exact i
section QR2
variable {D : vD} {E : Int → Int} {m : vm_M}
theorem s_row (c : OC D E) (hX : XC D E m) {row w : Int} {Q : Int → vm_M → Prop} (h : ∀ m', vfr vSX m m' → XC D E m' → Q (vif (yv D E row) (if w = 0 then yf D E row else if w = 1 then yt D E row - yf D E row else if w = 2 then vcl D (yf D E row) (yt D E row) else if w = 3 then yG D E (yf D E row) (yt D E row) else if w = 4 then yW D E (yf D E row) (yt D E row) else if w = 5 then y0 D E (yf D E row) (yt D E row) else if w = 6 then ylack E (yW D E (yf D E row) (yt D E row)) else if w = 7 then (if yt D E row - yf D E row = 1 then -2 else yS D E (yf D E row) (yt D E row)) else if w = 8 then (if yt D E row - yf D E row = 1 then -2 else yS D E (yf D E row) (yt D E row) + (if 0 < yX D E (yf D E row) (yt D E row) then 1 else 0)) else -1) (-1)) m') : vm_C 128 [vm_r 0, vm_i row, vm_i w] m (vm_qi Q) := by
  have hN := c.2.1.2.2.1
  refine ru10_row_0 (sx_rowq c hX (fun m' f x l k => ⟨fun _ => ?_, fun z => by omega⟩) (fun m' f x k => ⟨fun z => absurd rfl z, fun _ => ?_⟩))
  · replace h := h m' f x
    rw [vif_t k] at h
    obtain ⟨a1, a2, a3, a4, a5⟩ := yv_ok c k
    have R := vRx_of c l k
    have hWb := yW_bd c.1 c.2.1 c.2.2 a1 a2 a3
    have hXb := yX_bd c.1 c.2.1 c.2.2 a1 a2 a3
    have hI := c.2.2.1
    have e0 : m' 10 0 = E 0 := x.2.2.1.1
    generalize yf D E row = ff at *
    generalize yt D E row = tt at *
    obtain ⟨r, rfl⟩ : ∃ r : Nat, row = r := ⟨row.toNat, a5.symm⟩
    rw [Int.toNat_natCast] at R
    obtain ⟨R1, R2, R3, ⟨R4, R5, R6, R7, R8⟩, R9⟩ := R
    have hmx : (if 0 < E 0 - yW D E ff tt then E 0 - yW D E ff tt else 0) = ylack E (yW D E ff tt) := by
      unfold ylack
      repeat' split
      all_goals omega
    refine ru1_wordsIn_0 rfl ⟨by rw [show (67 : Nat) + 3 = 70 from rfl, R2, R3]; omega, ?_⟩
    rw [show (67 : Nat) + 3 = 70 from rfl, R2, R3]
    refine ⟨fun q => ⟨fun w0 => ⟨by omega, ?_⟩, fun w0 => ⟨fun w1 => ?_, fun w1 => ⟨fun w2 => ?_, fun w2 => ⟨fun w3 => ⟨by omega, ?_⟩, fun w3 => ⟨fun w4 => ⟨by omega, ?_⟩, fun w4 => ⟨fun w5 => ⟨by omega, ?_⟩, fun w5 => ⟨fun w6 => ?_, fun w6 => ⟨fun w7 => ⟨fun _ => ?_, fun z => absurd rfl z⟩, fun w7 => ⟨fun w8 => ⟨fun _ => ?_, fun z => absurd rfl z⟩, fun w8 => ?_⟩⟩⟩⟩⟩⟩⟩⟩⟩, fun q => ⟨fun w0 => ⟨by omega, ?_⟩, fun w0 => ⟨fun w1 => ?_, fun w1 => ⟨fun w2 => ?_, fun w2 => ⟨fun w3 => ⟨by omega, ?_⟩, fun w3 => ⟨fun w4 => ⟨by omega, ?_⟩, fun w4 => ⟨fun w5 => ⟨by omega, ?_⟩, fun w5 => ⟨fun w6 => ?_, fun w6 => ⟨fun w7 => ⟨fun z => by omega, fun _ => ?_⟩, fun w7 => ⟨fun w8 => ⟨fun z => by omega, fun _ => ?_⟩, fun w8 => ?_⟩⟩⟩⟩⟩⟩⟩⟩⟩⟩
    · rw [if_pos w0] at h; exact h
    · rw [if_neg w0, if_pos w1] at h
      refine ru1_wordsIn_0 rfl ?_
      rw [show (67 : Nat) + 3 = 70 from rfl, R2, R3]
      exact ⟨by omega, h⟩
    · rw [if_neg w0, if_neg w1, if_pos w2] at h
      exact sx_lettersIn c.2.1 x.2.1 R1 a1 a2 a3 R2 R3 h
    · rw [if_neg w0, if_neg w1, if_neg w2, if_pos w3] at h; rw [R4]; exact h
    · rw [if_neg w0, if_neg w1, if_neg w2, if_neg w3, if_pos w4] at h; rw [R5]; exact h
    · rw [if_neg w0, if_neg w1, if_neg w2, if_neg w3, if_neg w4, if_pos w5] at h; rw [R6]; exact h
    · rw [if_neg w0, if_neg w1, if_neg w2, if_neg w3, if_neg w4, if_neg w5, if_pos w6] at h
      rw [R5, e0, hmx]
      exact ⟨by omega, h⟩
    · rw [if_neg w0, if_neg w1, if_neg w2, if_neg w3, if_neg w4, if_neg w5, if_neg w6, if_pos w7, if_pos (by omega)] at h; exact h
    · rw [if_neg w0, if_neg w1, if_neg w2, if_neg w3, if_neg w4, if_neg w5, if_neg w6, if_neg w7, if_pos w8, if_pos (by omega)] at h; exact h
    · rw [if_neg w0, if_neg w1, if_neg w2, if_neg w3, if_neg w4, if_neg w5, if_neg w6, if_neg w7, if_neg w8] at h; exact h
    · rw [if_pos w0] at h; exact h
    · rw [if_neg w0, if_pos w1] at h
      refine ru1_wordsIn_0 rfl ?_
      rw [show (67 : Nat) + 3 = 70 from rfl, R2, R3]
      exact ⟨by omega, h⟩
    · rw [if_neg w0, if_neg w1, if_pos w2] at h
      exact sx_lettersIn c.2.1 x.2.1 R1 a1 a2 a3 R2 R3 h
    · rw [if_neg w0, if_neg w1, if_neg w2, if_pos w3] at h; rw [R4]; exact h
    · rw [if_neg w0, if_neg w1, if_neg w2, if_neg w3, if_pos w4] at h; rw [R5]; exact h
    · rw [if_neg w0, if_neg w1, if_neg w2, if_neg w3, if_neg w4, if_pos w5] at h; rw [R6]; exact h
    · rw [if_neg w0, if_neg w1, if_neg w2, if_neg w3, if_neg w4, if_neg w5, if_pos w6] at h
      rw [R5, e0, hmx]
      exact ⟨by omega, h⟩
    · rw [if_neg w0, if_neg w1, if_neg w2, if_neg w3, if_neg w4, if_neg w5, if_neg w6, if_pos w7, if_neg (by omega)] at h
      refine ru1_wordsIn_0 rfl ?_
      rw [show (67 : Nat) + 3 = 70 from rfl, R2, R3]
      refine ⟨by omega, by omega, sx_space c.1 c.2.1 c.2.2 R1 a1 a2 a3 ⟨R4, R5, R6, R7, R8⟩ ?_⟩
      rw [if_neg (by have := hXb.2.2; omega), Int.add_zero]; exact h
    · rw [if_neg w0, if_neg w1, if_neg w2, if_neg w3, if_neg w4, if_neg w5, if_neg w6, if_neg w7, if_pos w8, if_neg (by omega)] at h
      exact sx_space c.1 c.2.1 c.2.2 R1 a1 a2 a3 ⟨R4, R5, R6, R7, R8⟩ h
    · rw [if_neg w0, if_neg w1, if_neg w2, if_neg w3, if_neg w4, if_neg w5, if_neg w6, if_neg w7, if_neg w8] at h; exact h
  · replace h := h m' f x
    rw [vif_f k] at h; exact h
end QR2
