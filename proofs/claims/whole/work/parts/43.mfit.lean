/-! ===== the numbers; the model's rows, cost, height, fitting ===== -/
def dOE (D : vD) (E : Int → Int) : Prop := (10 ≤ E 0 ∧ E 0 ≤ 9999) ∧ (1 ≤ E 1 ∧ E 1 ≤ 9999) ∧ (0 ≤ E 2 ∧ E 2 ≤ 99) ∧ (0 ≤ E 3 ∧ E 3 ≤ dC D) ∧ (0 ≤ E 4 ∧ E 4 ≤ 99) ∧ (1 ≤ E 5 ∧ E 5 ≤ 9) ∧ (E 6 = 0 ∨ E 6 = 1) ∧ (E 7 = 0 ∨ E 7 = 1)
def dEm (E : Int → Int) (m : vm_M) : Prop := m 100 0 = E 0 ∧ m 100 1 = E 1 ∧ m 100 2 = E 2 ∧ m 100 3 = E 3 ∧ m 100 4 = E 4 ∧ m 100 5 = E 5 ∧ m 100 6 = E 6 ∧ m 100 7 = E 7
def dEx (E : Int → Int) (m : vm_M) (th : Nat) : Prop := m (th + 1) 0 = E 0 ∧ m (th + 1) 1 = E 1 ∧ m (th + 1) 2 = E 2 ∧ m (th + 1) 3 = E 3 ∧ m (th + 1) 4 = E 4 ∧ m (th + 1) 5 = E 5 ∧ m th 4 = E 6 ∧ m th 5 = E 7
theorem dEm.fr {E : Int → Int} {S : Nat → Int → Bool} {m m' : vm_M} (h : vfr S m m') (h1 : ∀ i, S 100 i = false) (hE : dEm E m) : dEm E m' := by
  unfold dEm at hE ⊢
  have a : ∀ i, m' 100 i = m 100 i := fun i => h 100 i (h1 i)
  rw [a, a, a, a, a, a, a, a]; exact hE
theorem dEx.fr {E : Int → Int} {S : Nat → Int → Bool} {m m' : vm_M} {th : Nat} (h : vfr S m m') (h1 : ∀ i, S (th + 1) i = false) (h4 : S th 4 = false) (h5 : S th 5 = false) (hE : dEx E m th) : dEx E m' th := by
  unfold dEx at hE ⊢
  have a : ∀ i, m' (th + 1) i = m (th + 1) i := fun i => h _ i (h1 i)
  rw [a, a, a, a, a, a, h th 4 h4, h th 5 h5]; exact hE
/-- the board: widths for GAP, how many words, WORD, SIZE, INNER -/
def eB (D : vD) (E : Int → Int) : vB := (vww D (E 3), dN D, E 4, E 5, E 0)
theorem eB_ok {D : vD} {E : Int → Int} (hD : dOA D) (hO : dOS D) (hE : dOE D E) : bOK (eB D E) :=
  ⟨hO.2.1, hO.2.2.1, fun w a b => vww_bd hD hO ⟨a, b⟩ hE.2.2.2.1.2, hE.2.2.2.2.1.1, hE.2.2.2.2.1.2, hE.2.2.2.2.2.1.1, hE.2.2.2.2.2.1.2, hE.1.1, hE.1.2⟩
section MF
variable {B : vB} {m : vm_M} {how : Int}
theorem sm_rowq {Q : Int → vm_M → Prop} (hB : bOK B) (hP : vPm B m) (hL : vLm (bR B) how m) {r : Nat} (hr : r < bQ (bR B) how) (h : Q (vsq (bI B) (rwd (bR B) (bF (bR B) how r) (bF (bR B) how (r + 1)))) m) : vm_C 180 [vm_r 96, vm_i (m 105 r), vm_i (m 105 ((r : Int) + 1))] m (vm_ql Q) := by
  have h1 := (bQ_ok (bR_ok hB) how).2.2.2.1 r hr
  have e1 := hL.2 r (by omega) (by omega)
  have e2 := hL.2 (r + 1) (by omega) (by omega)
  rw [show ((r + 1 : Nat) : Int) = (r : Int) + 1 by omega] at e2
  rw [e1, e2]
  exact sm_sq hB hP h1.1 (by omega) h1.2.2.1 h
theorem sm_rowr {Q : Int → vm_M → Prop} (hB : bOK B) (hP : vPm B m) (hL : vLm (bR B) how m) {r : Nat} (hr : r < bQ (bR B) how) (h : Q (rwd (bR B) (bF (bR B) how r) (bF (bR B) how (r + 1))) m) : vm_C 178 [vm_r 96, vm_i (m 105 r), vm_i (m 105 ((r : Int) + 1))] m (vm_qi Q) := by
  have h1 := (bQ_ok (bR_ok hB) how).2.2.2.1 r hr
  have e1 := hL.2 r (by omega) (by omega)
  have e2 := hL.2 (r + 1) (by omega) (by omega)
  rw [show ((r + 1 : Nat) : Int) = (r : Int) + 1 by omega] at e2
  rw [e1, e2]
  exact sm_rw hB hP h1.1 (by omega) h1.2.2.1 h
theorem sm_cost {Q : Int → vm_M → Prop} (hB : bOK B) (hP : vPm B m) (hL : vLm (bR B) how m) (h : Q (bcost (bR B) how) m) : vm_C 187 [vm_r 96] m (vm_ql Q) := by
  have hR := bR_ok hB
  have hb := bQ_ok hR how
  have go : ∀ (n r : Nat), r + n = bQ (bR B) how - 1 → ku11_costOfRows_4 (vs (bsq (bR B) how) r) r m Q := by
    intro n
    induction n with
    | zero =>
      intro r hr
      have e : vs (bsq (bR B) how) r = bcost (bR B) how := by unfold bcost; rw [← hr]; rfl
      refine ru11_costOfRows_4 ?_
      rw [hL.1]
      exact ⟨by omega, fun _ => by rw [e]; exact h, fun c => by omega⟩
    | succ n ih =>
      intro r hr
      have b1 := bcost_bd hR how r (by omega)
      have b2 := bsq_bd hR how (r := r) (by omega) (by omega)
      have e : bsq (bR B) how r = vsq (bI B) (rwd (bR B) (bF (bR B) how r) (bF (bR B) how (r + 1))) := rfl
      refine ru11_costOfRows_4 ?_
      rw [hL.1]
      refine ⟨by omega, fun c => by omega, fun _ => ⟨by omega, sm_rowq hB hP hL (by omega) ?_⟩⟩
      rw [← e]
      exact ⟨by omega, ih (r + 1) (by omega)⟩
  exact ru11_costOfRows_0 (go _ 0 (Nat.zero_add _))
theorem sm_height {Q : Int → vm_M → Prop} (hB : bOK B) (hP : vPm B m) (hL : vLm (bR B) how m) {lead : Int} (hm : m 100 2 = lead) (hl : 0 ≤ lead ∧ lead ≤ 99) (h : Q (bht (bR B) how (bZ B) lead) m) : vm_C 188 [vm_r 96] m (vm_qi Q) := by
  have hb := (bQ_ok (bR_ok hB) how).1
  have hZ := hB.2.2.2.2.2
  refine ru11_heightOfRows_0 ?_
  rw [hL.1, hP.2.2.2.1, hm]
  unfold bht at h
  refine ⟨fun c => ?_, fun c => ?_⟩
  · have c : bQ (bR B) how ≠ 0 := fun q => c (by rw [q]; rfl)
    rw [if_neg c] at h
    have := bht_bd (bR_ok hB) how (Z := bZ B) (lead := lead) ⟨by omega, by omega⟩ hl c
    exact ⟨⟨by omega, by omega, by omega, by omega, by omega⟩, h⟩
  · rw [if_pos (by omega)] at h; exact h
/-- what the model's laying of rows writes -/
def vSl (k : Nat) (i : Int) : Bool := (Nat.ble 104 k && Nat.ble k 107) || (Nat.beq k 96 && decide (i = 14))
theorem vSl_n {k : Nat} {i : Int} (h : k < 104 ∨ 107 < k) (h2 : ¬ (k = 96 ∧ i = 14)) : vSl k i = false := by
  refine Bool.eq_false_iff.mpr (fun q => ?_)
  unfold vSl at q
  simp only [Bool.or_eq_true, Bool.and_eq_true, decide_eq_true_eq] at q
  rcases q with a | a
  · have a1 := Nat.le_of_ble_eq_true a.1
    have a2 := Nat.le_of_ble_eq_true a.2
    omega
  · exact h2 ⟨vm_beq a.1, a.2⟩
theorem vSl_t {k : Nat} {i : Int} (h : 104 ≤ k ∧ k ≤ 107) : vSl k i = true := by
  unfold vSl
  rw [Nat.ble_eq_true_of_le h.1, Nat.ble_eq_true_of_le h.2]; rfl
theorem vSr_l {m m' : vm_M} (h : vfr vSr m m') : vfr vSl m m' := h.sub (fun k i hk => by
  unfold vSr at hk
  simp only [Bool.or_eq_true, Bool.and_eq_true, decide_eq_true_eq] at hk
  rcases hk with a | a
  · have a1 := Nat.le_of_ble_eq_true a.1
    have a2 := Nat.le_of_ble_eq_true a.2
    exact vSl_t (by omega)
  · have := vm_beq a.1
    unfold vSl
    rw [this, a.2]; rfl)
theorem vSw_l {m m' : vm_M} (h : vfr vSw m m') : vfr vSl m m' := h.sub (fun k i hk => vSl_t (by have := vm_beq hk; omega))
theorem sm_laysRows {Q : vm_M → Prop} {D : vD} {E : Int → Int} (hD : dOA D) (hO : dOS D) (hE : dOE D E) (hA : dAm D m) (hS : dSm D m) (hm : dEm E m) (h : ∀ m', vfr vSl m m' → vPm (eB D E) m' → vLm (bR (eB D E)) (E 6) m' → Q m') : vm_C 186 [vm_r 96] m (vm_qv Q) := by
  refine ru11_laysRows_0 (sm_laysW hD hO hE.2.2.2.1.2 hA hS hm.2.2.2.1 (fun m1 f1 hv => ?_))
  have hm1 : dEm E m1 := hm.fr f1 (fun _ => rfl)
  have hS1 : dSm D m1 := hS.fr f1 (fun _ => rfl)
  have hB := eB_ok hD hO hE
  have hP : vPm (eB D E) m1 := ⟨hS1.1, hm1.1, hm1.2.2.2.2.1, hm1.2.2.2.2.2.1, hv⟩
  exact sm_break hB hP hE.2.2.2.2.2.2.1 hm1.2.2.2.2.2.2.1 (fun m2 f2 l2 => h m2 ((vSw_l f1).tr (vSr_l f2)) (hP.fr f2) l2)
theorem sm_fits42 {Q : Int → vm_M → Prop} (hB : bOK B) (hP : vPm B m) (hL : vLm (bR B) how m) (h1 : ¬ bwide (bR B) how → Q 1 m) (h0 : bwide (bR B) how → Q 0 m) : ku11_fitsNow_42 1 0 m Q := by
  have hb := bQ_ok (bR_ok hB) how
  have e : rI (bR B) = bI B := rfl
  have g0 : bwide (bR B) how → ∀ (n r : Nat), r + n = bQ (bR B) how → ku11_fitsNow_42 0 r m Q := by
    intro hw n
    induction n with
    | zero =>
      intro r hr
      exact ru11_fitsNow_42 ⟨fun _ => ⟨Or.inl rfl, h0 hw⟩, fun c => by rw [hL.1] at c; omega⟩
    | succ n ih =>
      intro r hr
      exact ru11_fitsNow_42 ⟨fun c => by rw [hL.1] at c; omega, fun _ => ⟨fun _ => ⟨by omega, ih (r + 1) (by omega)⟩, fun q => absurd rfl q⟩⟩
  have g1 : ∀ (n r : Nat), r + n = bQ (bR B) how → (∀ j, j < r → ¬ rI (bR B) < rwd (bR B) (bF (bR B) how j) (bF (bR B) how (j + 1))) → ku11_fitsNow_42 1 r m Q := by
    intro n
    induction n with
    | zero =>
      intro r hr hj
      refine ru11_fitsNow_42 ⟨fun _ => ⟨Or.inr rfl, h1 (fun k => ?_)⟩, fun c => by rw [hL.1] at c; omega⟩
      obtain ⟨j, j1, j2⟩ := k
      exact hj j (by omega) j2
    | succ n ih =>
      intro r hr hj
      refine ru11_fitsNow_42 ⟨fun c => by rw [hL.1] at c; omega, fun _ => ⟨fun q => by omega, fun _ => ⟨by omega, sm_rowr hB hP hL (by omega) ⟨fun c => ⟨by omega, ?_⟩, fun c => ⟨by omega, ?_⟩⟩⟩⟩⟩
      · rw [hP.2.1] at c
        exact g0 ⟨r, by omega, by omega⟩ n (r + 1) (by omega)
      · rw [hP.2.1] at c
        exact ih (r + 1) (by omega) (fun j hj2 => by
          rcases Nat.lt_or_ge j r with a | a
          · exact hj j a
          · rw [show j = r by omega]; omega)
  exact g1 _ 0 (Nat.zero_add _) (fun j hj => by omega)
theorem sm_fits42z {Q : Int → vm_M → Prop} (hB : bOK B) (hL : vLm (bR B) how m) (h0 : Q 0 m) : ku11_fitsNow_42 0 0 m Q := by
  have g0 : ∀ (n r : Nat), r + n = bQ (bR B) how → ku11_fitsNow_42 0 r m Q := by
    intro n
    induction n with
    | zero =>
      intro r hr
      exact ru11_fitsNow_42 ⟨fun _ => ⟨Or.inl rfl, h0⟩, fun c => by rw [hL.1] at c; omega⟩
    | succ n ih =>
      intro r hr
      have hb := (bQ_ok (bR_ok hB) how).1
      exact ru11_fitsNow_42 ⟨fun c => by rw [hL.1] at c; omega, fun _ => ⟨fun _ => ⟨by omega, ih (r + 1) (by omega)⟩, fun q => absurd rfl q⟩⟩
  exact g0 _ 0 (Nat.zero_add _)
theorem sm_fits {Q : Int → vm_M → Prop} {D : vD} {E : Int → Int} (hD : dOA D) (hO : dOS D) (hE : dOE D E) (hA : dAm D m) (hS : dSm D m) (hm : dEm E m) (h1 : ∀ m', vfr vSl m m' → bfits (bR (eB D E)) (E 6) (E 5) (E 2) (E 1) → Q 1 m') (h0 : ∀ m', vfr vSl m m' → ¬ bfits (bR (eB D E)) (E 6) (E 5) (E 2) (E 1) → Q 0 m') : vm_C 189 [vm_r 96] m (vm_qi Q) := by
  have hB := eB_ok hD hO hE
  have eN : rN (bR (eB D E)) = dN D := rfl
  refine ru11_fitsNow_0 (sm_laysRows hD hO hE hA hS hm (fun m1 f1 p1 l1 => ?_))
  have hm1 : dEm E m1 := hm.fr f1 (fun _ => rfl)
  have hmid : (0 < bQ (bR (eB D E)) (E 6) ∨ dN D = 0) → vm_C 188 [vm_r 96] m1 (vm_qi (fun z2 m2 =>
          (((m2 100 1) < z2 →
            ku11_fitsNow_42 0 0 m2 Q) ∧ (¬ (m2 100 1) < z2 →
            ku11_fitsNow_42 1 0 m2 Q)))) := by
    intro hor
    refine sm_height hB p1 l1 hm1.2.2.1 hE.2.2.1 ⟨fun c => sm_fits42z hB l1 (h0 m1 f1 (fun k => ?_)), fun c => sm_fits42 hB p1 l1 (fun hw => h1 m1 f1 ⟨hor, hw, ?_⟩) (fun hw => h0 m1 f1 (fun k => k.2.1 hw))⟩
    · rw [hm1.2.1] at c
      have := k.2.2
      have e : bZ (eB D E) = E 5 := rfl
      rw [e] at c
      omega
    · rw [hm1.2.1] at c
      have e : bZ (eB D E) = E 5 := rfl
      rw [e] at c
      omega
  refine ⟨fun c => hmid (Or.inl (by rw [l1.1] at c; omega)), fun c => ⟨fun c2 => sm_fits42z hB l1 (h0 m1 f1 (fun k => ?_)), fun c2 => hmid (Or.inr (by rw [p1.1] at c2; exact Classical.not_not.mp c2))⟩⟩
  rw [l1.1] at c
  rw [p1.1] at c2
  have := k.1
  rw [eN] at this
  have e : bN (eB D E) = dN D := rfl
  omega
end MF
