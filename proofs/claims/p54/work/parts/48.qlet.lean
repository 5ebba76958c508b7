/-! ===== questions about letters and pairs ===== -/
def vsd (D : vD) (a s i : Int) : Int := if dS D (12 * a + (6 * s + i)) = -1 then 0 else dS D (12 * a + (6 * s + i))
def vsame (D : vD) (a s b t : Int) : Prop := ∀ i, 0 ≤ i → i < 6 → dS D (12 * a + (6 * s + i)) = dS D (12 * b + (6 * t + i))
def vopn (D : vD) (a : Int) (k : Int) : Int := if dS D (12 * a + k) = -1 then 1 else 0
theorem vs_12 (f : Int → Int) : vs (fun i => f i + f (6 + i)) 6 = vs f 12 := by
  have e1 : vs f 12 = 0 + f 0 + f 1 + f 2 + f 3 + f 4 + f 5 + f 6 + f 7 + f 8 + f 9 + f 10 + f 11 := rfl
  have e2 : vs (fun i => f i + f (6 + i)) 6 = 0 + (f 0 + f 6) + (f 1 + f 7) + (f 2 + f 8) + (f 3 + f 9) + (f 4 + f 10) + (f 5 + f 11) := rfl
  rw [e1, e2]
  omega
def vltc (D : vD) (a w k : Int) : Int := if dP D (12 * w + k) = a then 1 else 0
def vlto (D : vD) (a w : Int) : Int := vs (vltc D a w) (dL D w).toNat
theorem vltc_bd {D : vD} {a w k : Int} : 0 ≤ vltc D a w k ∧ vltc D a w k ≤ 1 := by unfold vltc; split <;> omega
theorem vlto_bd {D : vD} (hO : dOS D) {a w : Int} (hw : 0 ≤ w ∧ w < dN D) : 0 ≤ vlto D a w ∧ vlto D a w ≤ 12 := by
  have h1 := hO.2.2.2.1 w hw.1 hw.2
  have := vs_bd (f := vltc D a w) (lo := 0) (hi := 1) (dL D w).toNat (fun i _ _ => vltc_bd)
  unfold vlto
  omega
section QL
variable {D : vD} {E : Int → Int} {m : vm_M}
theorem sx_sumOf {Q : Int → vm_M → Prop} (hD : dOA D) (hA : dAx D m 3) {a s : Int} (ha : dk D a) (hs : s = 0 ∨ s = 1) (h : Q (vs (vsd D a s) 6) m) : vm_C 7 [vm_r 3, vm_i a, vm_i s] m (vm_qi Q) := by
  have go : ∀ (n j : Nat) (w5 : Option vm_V), j + n = 6 → ku0_sumOfInsets_5 3 a s (vs (vsd D a s) j) j w5 m Q := by
    intro n
    induction n with
    | zero =>
      intro j w5 hj
      have hj : j = 6 := by omega
      subst hj
      exact ru0_sumOfInsets_5 rfl ⟨fun _ => h, fun c => by omega⟩
    | succ n ih =>
      intro j w5 hj
      have hb := hD.2.2.2 a ha (6 * s + j) (by omega) (by omega)
      have e := hA.2.2 a ha (6 * s + j) (by omega) (by omega)
      have b := vs_bd (f := vsd D a s) (lo := 0) (hi := 9) j (fun i i1 i2 => by
        have := hD.2.2.2 a ha (6 * s + i) (by omega) (by omega)
        unfold vsd
        split <;> omega)
      have hv : vsd D a s (j : Int) = if dS D (12 * a + (6 * s + (j : Int))) = -1 then 0 else dS D (12 * a + (6 * s + (j : Int))) := rfl
      refine ru0_sumOfInsets_5 rfl ⟨fun c => by omega, fun _ => sx_inset rfl ⟨ha.1, ha.2.1⟩ hs ⟨by omega, by omega⟩ ?_⟩
      rw [e]
      refine ⟨fun z => ⟨by omega, ?_⟩, fun z => ⟨by omega, ?_⟩⟩
      · rw [if_neg z] at hv; rw [← hv]; exact ih (j + 1) _ (by omega)
      · rw [if_pos (Classical.not_not.mp z)] at hv; rw [← hv]; exact ih (j + 1) _ (by omega)
  exact ru0_sumOfInsets_0 rfl (go 6 0 none rfl)
theorem sx_open {Q : Int → vm_M → Prop} (hA : dAx D m 3) {a : Int} (ha : dk D a) (h : Q (vs (vopn D a) 12) m) : vm_C 8 [vm_r 3, vm_i a] m (vm_qi Q) := by
  rw [← vs_12] at h
  have go : ∀ (n j : Nat), j + n = 6 → ku0_countOpen_4 3 a (vs (fun i => vopn D a i + vopn D a (6 + i)) j) j m Q := by
    intro n
    induction n with
    | zero =>
      intro j hj
      have hj : j = 6 := by omega
      subst hj
      exact ru0_countOpen_4 rfl ⟨fun _ => h, fun c => by omega⟩
    | succ n ih =>
      intro j hj
      have e0 := hA.2.2 a ha j (by omega) (by omega)
      have e1 := hA.2.2 a ha (6 + j) (by omega) (by omega)
      have b := vs_bd (f := fun i => vopn D a i + vopn D a (6 + i)) (lo := 0) (hi := 2) j (fun i i1 i2 => by
        unfold vopn
        split <;> split <;> omega)
      have hv0 : vopn D a (j : Int) = if dS D (12 * a + (j : Int)) = -1 then 1 else 0 := rfl
      have hv1 : vopn D a (6 + (j : Int)) = if dS D (12 * a + (6 + (j : Int))) = -1 then 1 else 0 := rfl
      have i1 := ih (j + 1) (by omega)
      have es : vs (fun i => vopn D a i + vopn D a (6 + i)) (j + 1) = vs (fun i => vopn D a i + vopn D a (6 + i)) j + (vopn D a j + vopn D a (6 + j)) := rfl
      rw [es, show ((j + 1 : Nat) : Int) = (j : Int) + 1 by omega] at i1
      refine ru0_countOpen_4 rfl ⟨fun c => by omega, fun _ => sx_inset rfl ⟨ha.1, ha.2.1⟩ (Or.inl rfl) ⟨by omega, by omega⟩ ?_⟩
      rw [show (6 * (0 : Int) + (j : Int)) = (j : Int) by omega, e0]
      refine ⟨fun z => ⟨by omega, sx_inset rfl ⟨ha.1, ha.2.1⟩ (Or.inr rfl) ⟨by omega, by omega⟩ ?_⟩, fun z => ⟨by omega, sx_inset rfl ⟨ha.1, ha.2.1⟩ (Or.inr rfl) ⟨by omega, by omega⟩ ?_⟩⟩
      · rw [if_neg z] at hv0
        rw [show (6 * (1 : Int) + (j : Int)) = 6 + (j : Int) by omega, e1]
        refine ⟨fun z1 => ⟨by omega, ?_⟩, fun z1 => ⟨by omega, ?_⟩⟩
        · rw [if_neg z1] at hv1; rw [hv0, hv1] at i1; rw [Int.add_assoc]; exact i1
        · rw [if_pos (Classical.not_not.mp z1)] at hv1; rw [hv0, hv1] at i1; rw [Int.add_assoc]; exact i1
      · rw [if_pos (Classical.not_not.mp z)] at hv0
        rw [show (6 * (1 : Int) + (j : Int)) = 6 + (j : Int) by omega, e1]
        refine ⟨fun z1 => ⟨by omega, ?_⟩, fun z1 => ⟨by omega, ?_⟩⟩
        · rw [if_neg z1] at hv1; rw [hv0, hv1] at i1; rw [Int.add_assoc]; exact i1
        · rw [if_pos (Classical.not_not.mp z1)] at hv1; rw [hv0, hv1] at i1; rw [Int.add_assoc]; exact i1
  exact ru0_countOpen_0 rfl (go 6 0 rfl)
theorem sx_often {Q : Int → vm_M → Prop} (hO : dOS D) (hS : dSx D m 9) {a : Int} (h : Q (vs (vlto D a) (dN D).toNat) m) : vm_C 61 [vm_r 9, vm_i a] m (vm_qi Q) := by
  have hN := hO.2.2.1
  have hN0 := hO.2.1
  have vb : ∀ w : Nat, (w : Int) ≤ dN D → 0 ≤ vs (vlto D a) w ∧ vs (vlto D a) w ≤ 12 * w := fun w hw => by
    have := vs_bd (f := vlto D a) (lo := 0) (hi := 12) w (fun i i1 i2 => vlto_bd hO ⟨i1, by omega⟩)
    omega
  have go : ∀ (n w : Nat) (w4 : Option vm_V), (w : Int) + n = dN D → ku4_countLetter_4 9 a (vs (vlto D a) w) w w4 m Q := by
    intro n
    induction n with
    | zero =>
      intro w w4 hw
      have e : (dN D).toNat = w := by omega
      rw [e] at h
      exact ru4_countLetter_4 rfl ⟨fun _ => h, fun c => by rw [hS.1] at c; omega⟩
    | succ n ih =>
      intro w w4 hw
      have hwN : 0 ≤ (w : Int) ∧ (w : Int) < dN D := ⟨by omega, by omega⟩
      have hl := hO.2.2.2.1 w hwN.1 hwN.2
      have hvb := vb w (by omega)
      have el : m 12 w = dL D w := hS.2.2.1 w hwN.1 hwN.2
      refine ru4_countLetter_4 rfl ⟨fun c => by rw [hS.1] at c; omega, fun _ => ?_⟩
      have gi : ∀ (r k : Nat), (k : Int) + r = dL D w → ku4_countLetter_15 9 a (vs (vlto D a) w + vs (vltc D a w) k) w k m Q := by
        intro r
        induction r with
        | zero =>
          intro k hk
          have e : (dL D w).toNat = k := by omega
          have i1 := ih (w + 1) (some (vm_i k)) (by omega)
          have es : vs (vlto D a) (w + 1) = vs (vlto D a) w + vlto D a w := rfl
          have eo : vlto D a w = vs (vltc D a w) k := by unfold vlto; rw [e]
          rw [es, eo] at i1
          exact ru4_countLetter_15 rfl ⟨by omega, fun _ => ⟨by omega, i1⟩, fun c => absurd (show m 12 w ≤ (k : Int) by rw [el]; omega) c⟩
        | succ r ihr =>
          intro k hk
          have b := vs_bd (f := vltc D a w) (lo := 0) (hi := 1) k (fun i _ _ => vltc_bd)
          have ep : m 13 (12 * w + k) = dP D (12 * w + k) := hS.2.2.2 w hwN.1 hwN.2 k (by omega) (by omega)
          have hv : vltc D a w (k : Int) = if dP D (12 * w + (k : Int)) = a then 1 else 0 := rfl
          have i1 := ihr (k + 1) (by omega)
          have es : vs (vltc D a w) (k + 1) = vs (vltc D a w) k + vltc D a w k := rfl
          rw [es, ← Int.add_assoc, show ((k + 1 : Nat) : Int) = (k : Int) + 1 by omega] at i1
          refine ru4_countLetter_15 rfl ⟨by omega, fun c => by have c : m 12 w ≤ (k : Int) := c; rw [el] at c; omega, fun _ => ⟨by omega, ?_⟩⟩
          rw [show (w : Int) * 12 + k = 12 * w + k by omega]
          refine ⟨fun z => ⟨by omega, ?_⟩, fun z => ⟨by omega, ?_⟩⟩
          · have z : ¬ m 13 (12 * w + k) = a := z
            rw [ep] at z
            rw [if_neg z] at hv; rw [hv] at i1; exact i1
          · have z : ¬ ¬ m 13 (12 * w + k) = a := z
            rw [ep] at z
            rw [if_pos (Classical.not_not.mp z)] at hv; rw [hv] at i1; exact i1
      have := gi (dL D w).toNat 0 (by omega)
      rw [show vs (vlto D a) w + vs (vltc D a w) 0 = vs (vlto D a) w from Int.add_zero _] at this
      exact this
  exact ru4_countLetter_0 rfl (go (dN D).toNat 0 none (by omega))
theorem s_letter (c : OC D E) (hX : XC D E m) {a w : Int} {Q : Int → vm_M → Prop} (h : ∀ m', vfr vSX m m' → XC D E m' → Q (vif (dk D a) (if w = 0 then dW D a else if w = 1 then vs (vsd D a 0) 6 else if w = 2 then vs (vsd D a 1) 6 else if w = 3 then vs (vopn D a) 12 else if w = 4 then vs (vlto D a) (dN D).toNat else -1) (-1)) m') : vm_C 117 [vm_r 0, vm_i a, vm_i w] m (vm_qi Q) := by
  have c9 := c
  obtain ⟨hD, hO, hE⟩ := c9
  have h := h m vfr.rf hX
  refine ru10_letter_0 (sx_knows rfl hX.1 (fun k => ⟨fun _ => ?_, fun q => by omega⟩) (fun k => ⟨fun q => absurd rfl q, fun _ => ?_⟩))
  · rw [vif_t k] at h
    refine ⟨fun q => ⟨⟨k.1, k.2.1⟩, ?_⟩, fun q0 => ⟨fun q => ?_, fun q1 => ⟨fun q => ?_, fun q2 => ⟨fun q => ?_, fun q3 => ⟨fun q => ?_, fun q4 => ?_⟩⟩⟩⟩⟩
    · rw [if_pos q] at h
      have e : m 4 a = dW D a := hX.1.2.1 a k.1 k.2.1
      rw [e]; exact h
    · rw [if_neg q0, if_pos q] at h
      exact sx_sumOf hD hX.1 k (Or.inl rfl) h
    · rw [if_neg q0, if_neg q1, if_pos q] at h
      exact sx_sumOf hD hX.1 k (Or.inr rfl) h
    · rw [if_neg q0, if_neg q1, if_neg q2, if_pos q] at h
      exact sx_open hX.1 k h
    · rw [if_neg q0, if_neg q1, if_neg q2, if_neg q3, if_pos q] at h
      exact sx_often hO hX.2.1 h
    · rw [if_neg q0, if_neg q1, if_neg q2, if_neg q3, if_neg q4] at h; exact h
  · rw [vif_f k] at h; exact h
end QL
