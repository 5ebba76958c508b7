/-! ===== how wide the board must be: the mathematics ===== -/
section ML
variable {B : vB}
theorem bJ_ok (hB : bOK B) {i : Int} (hi : 10 ≤ i ∧ i ≤ 9999) : bOK (bJ B i) := ⟨hB.1, hB.2.1, hB.2.2.1, hB.2.2.2.1, hB.2.2.2.2.1, hB.2.2.2.2.2.1, hB.2.2.2.2.2.2.1, hi.1, hi.2⟩
theorem rwd_one {w : Int} (hw : 0 ≤ w) : rwd (bR B) w (w + 1) = bW B w * bZ B := by
  show (vpi (bW B) (w + 1) + (w + 1) * bP B) * bZ B - (vpi (bW B) w + w * bP B) * bZ B - bP B * bZ B = bW B w * bZ B
  rw [vpi_s hw, Int.add_mul w 1, Int.one_mul, ← Int.sub_mul, ← Int.sub_mul]
  congr 1
  omega
/-- enough: so few rows, and no word wider -/
def benough (B : vB) (most : Int) : Prop := (gcnt (bR B) : Int) ≤ most ∧ ∀ w, 0 ≤ w → w < bN B → bW B w * bZ B ≤ bI B
theorem row_of {F : Nat → Int} {w : Int} (h0 : F 0 ≤ w) : ∀ n : Nat, w < F n → ∃ r, r < n ∧ F r ≤ w ∧ w < F (r + 1)
  | 0, h => by omega
  | n + 1, h => by
    rcases Int.lt_or_le w (F n) with a | a
    · obtain ⟨r, h1, h2, h3⟩ := row_of h0 n a
      exact ⟨r, by omega, h2, h3⟩
    · exact ⟨n, by omega, a, h⟩
theorem rwd_in {R : vR} (h : rOK R) {f t g u : Int} (hf : 0 ≤ f) (h1 : f ≤ g) (h2 : g < u) (h3 : u ≤ t) (ht : t ≤ rN R) : rwd R g u ≤ rwd R f t := by
  have a : rwd R f u ≤ rwd R f t := by
    by_cases q : u = t
    · rw [q]; exact Int.le_refl _
    · exact Int.le_of_lt (rwd_r h hf (by omega) (by omega) ht)
  have b : rwd R g u ≤ rwd R f u := by
    by_cases q : f = g
    · rw [q]; exact Int.le_refl _
    · exact Int.le_of_lt (rwd_l h hf (by omega) h2 (by omega))
  omega
theorem benough_iff (hB : bOK B) (hN : 0 < bN B) {most : Int} (hm : most ≤ 12) : (0 < bQ (bR B) 0 ∧ (bQ (bR B) 0 : Int) ≤ most ∧ ¬ bwide (bR B) 0) ↔ benough B most := by
  have hR := bR_ok hB
  have g := gcnt_ok hR
  have hb := bQ_ok hR 0
  have eN : rN (bR B) = bN B := rfl
  have eI : rI (bR B) = bI B := rfl
  have e0 : bQ (bR B) 0 = if gcnt (bR B) ≤ 12 then gcnt (bR B) else 0 := by unfold bQ; rw [if_pos rfl]
  have hgp : 0 < gcnt (bR B) := by
    rcases Nat.eq_zero_or_pos (gcnt (bR B)) with a | a
    · have h1 := g.1
      rw [a] at h1
      have h2 : gF (bR B) 0 = 0 := rfl
      omega
    · exact a
  constructor
  · rintro ⟨h1, h2, h3⟩
    have hg : gcnt (bR B) ≤ 12 := by
      rcases Nat.lt_or_ge 12 (gcnt (bR B)) with a | a
      · rw [if_neg (by omega)] at e0; omega
      · exact a
    rw [if_pos hg] at e0
    refine ⟨by omega, fun w w0 w1 => ?_⟩
    have hF0 := hb.2.1
    have hFn := hb.2.2.1 h1
    obtain ⟨r, r1, r2, r3⟩ := row_of (F := bF (bR B) 0) (w := w) (by omega) (bQ (bR B) 0) (by omega)
    have hr := hb.2.2.2.1 r r1
    have a := rwd_in hR (f := bF (bR B) 0 r) (t := bF (bR B) 0 (r + 1)) (g := w) (u := w + 1) hr.1 r2 (by omega) (by omega) hr.2.2.1
    rw [rwd_one w0] at a
    rcases Int.lt_or_le (bI B) (bW B w * bZ B) with c | c
    · exact absurd ⟨r, r1, by omega⟩ h3
    · exact c
  · rintro ⟨h1, h2⟩
    rw [if_pos (by omega)] at e0
    refine ⟨by omega, by omega, fun k => ?_⟩
    obtain ⟨r, r1, r2⟩ := k
    have hr := hb.2.2.2.1 r r1
    rcases hr.2.2.2 with a | a
    · rw [a, rwd_one hr.1] at r2
      have := h2 (bF (bR B) 0 r) hr.1 (by omega)
      omega
    · omega
theorem rwd_J (B : vB) (i : Int) : rwd (bR (bJ B i)) = rwd (bR B) := rfl
theorem gend_mono (hB : bOK B) {i j f g : Int} (hi : 10 ≤ i ∧ i ≤ 9999) (hj : 10 ≤ j ∧ j ≤ 9999) (hij : i ≤ j) (hf : 0 ≤ f) (hfg : f ≤ g) (hg : g < bN B) : gend (bR (bJ B i)) f ≤ gend (bR (bJ B j)) g := by
  have hR := bR_ok hB
  have a := gend_ok (bR_ok (bJ_ok hB hi)) (f := f) hf (show f < bN B by omega)
  have b := gend_ok (bR_ok (bJ_ok hB hj)) (f := g) (by omega) hg
  rw [rwd_J] at a b
  have eNi : rN (bR (bJ B i)) = bN B := rfl
  have eNj : rN (bR (bJ B j)) = bN B := rfl
  have eN : rN (bR B) = bN B := rfl
  have eIi : rI (bR (bJ B i)) = i := rfl
  have eIj : rI (bR (bJ B j)) = j := rfl
  generalize gend (bR (bJ B i)) f = e at *
  generalize gend (bR (bJ B j)) g = e' at *
  rcases Int.lt_or_le e' e with c | c
  · have d := b.2.2.2 (by omega)
    have h1 := rwd_in hR (f := f) (t := e) (g := g) (u := e' + 1) hf hfg (by omega) (by omega) (by omega)
    rcases a.2.2.1 with k | k
    · omega
    · rw [rwd_J] at k; omega
  · exact c
theorem gF_mono (hB : bOK B) {i j : Int} (hi : 10 ≤ i ∧ i ≤ 9999) (hj : 10 ≤ j ∧ j ≤ 9999) (hij : i ≤ j) : ∀ r, gF (bR (bJ B i)) r ≤ gF (bR (bJ B j)) r
  | 0 => Int.le_refl _
  | r + 1 => by
    have ih := gF_mono hB hi hj hij r
    have eNi : rN (bR (bJ B i)) = bN B := rfl
    have eNj : rN (bR (bJ B j)) = bN B := rfl
    have bi := gF_bd (bR_ok (bJ_ok hB hi)) r
    have bi2 := gF_bd (bR_ok (bJ_ok hB hi)) (r + 1)
    have bj := gF_bd (bR_ok (bJ_ok hB hj)) r
    by_cases q : gF (bR (bJ B j)) r < bN B
    · rw [gF_s r (by omega), gF_s r (by omega)]
      exact gend_mono hB hi hj hij bi.1 ih q
    · have : gF (bR (bJ B j)) (r + 1) = gF (bR (bJ B j)) r := by
        show (if gF (bR (bJ B j)) r < rN (bR (bJ B j)) then _ else gF (bR (bJ B j)) r) = _
        rw [if_neg (by omega)]
      omega
theorem benough_mono (hB : bOK B) {i j most : Int} (hi : 10 ≤ i ∧ i ≤ 9999) (hj : 10 ≤ j ∧ j ≤ 9999) (hij : i ≤ j) (h : benough (bJ B i) most) : benough (bJ B j) most := by
  have gi := gcnt_ok (bR_ok (bJ_ok hB hi))
  have gj := gcnt_ok (bR_ok (bJ_ok hB hj))
  have eNi : rN (bR (bJ B i)) = bN B := rfl
  have eNj : rN (bR (bJ B j)) = bN B := rfl
  have m := gF_mono hB hi hj hij (gcnt (bR (bJ B i)))
  refine ⟨?_, fun w a b => ?_⟩
  · have h1 := h.1
    rcases Nat.lt_or_ge (gcnt (bR (bJ B i))) (gcnt (bR (bJ B j))) with c | c
    · have := gj.2 _ c; omega
    · omega
  · have := h.2 w a b
    have e1 : bI (bJ B i) = i := rfl
    have e2 : bI (bJ B j) = j := rfl
    rw [e1] at this
    rw [e2]
    exact Int.le_trans this hij
/-- a least one -/
theorem least_ex {P : Int → Prop} {lo hi : Int} (h : ∃ v, lo ≤ v ∧ v ≤ hi ∧ P v) : ∃ v, lo ≤ v ∧ v ≤ hi ∧ P v ∧ ∀ x, lo ≤ x → x < v → ¬ P x := by
  have go : ∀ (n : Nat) (v : Int), lo ≤ v → v ≤ hi → v < lo + n → P v → ∃ v, lo ≤ v ∧ v ≤ hi ∧ P v ∧ ∀ x, lo ≤ x → x < v → ¬ P x := by
    intro n
    induction n with
    | zero => intro v a b c d; omega
    | succ n ih =>
      intro v a b c d
      by_cases q : ∃ x, lo ≤ x ∧ x < v ∧ P x
      · obtain ⟨x, x1, x2, x3⟩ := q
        exact ih x x1 (by omega) (by omega) x3
      · exact ⟨v, a, b, d, fun x x1 x2 x3 => q ⟨x, x1, x2, x3⟩⟩
  obtain ⟨v, a, b, d⟩ := h
  exact go (v - lo + 1).toNat v a b (by omega) d
end ML
/-! ===== numbers that are put in for a time ===== -/
def eU (E : Int → Int) (k v : Int) : Int → Int := fun i => if i = k then v else E i
theorem vfr.back {S : Nat → Int → Bool} {m m1 : vm_M} {k : Nat} {i : Int} (h : vfr (fun a b => S a b || (Nat.beq a k && decide (b = i))) m m1) : vfr S m (vm_st m1 k i (m k i)) := by
  intro a b hab
  by_cases q : a = k ∧ b = i
  · rw [q.1, q.2, vst_s]
  · have : (Nat.beq a k && decide (b = i)) = false := by
      cases hq : Nat.beq a k with
      | false => rfl
      | true =>
        have : ¬ b = i := fun z => q ⟨vm_beq hq, z⟩
        rw [decide_eq_false this]; rfl
    unfold vm_st
    rw [if_neg q]
    exact h a b (by show (S a b || (Nat.beq a k && decide (b = i))) = false; rw [hab, this]; rfl)
def vSu (i : Int) (a : Nat) (b : Int) : Bool := vSm a b || (Nat.beq a 100 && decide (b = i))
theorem vSu_t {i : Int} : vSu i 100 i = true := by unfold vSu; simp
theorem vSm_u {i : Int} {m m' : vm_M} (h : vfr vSm m m') : vfr (vSu i) m m' := h.sub (fun k j hk => by unfold vSu; rw [hk]; rfl)
section NU
variable {D : vD} {E : Int → Int} {m : vm_M}
theorem dSm.u {i : Int} (hi : i < 8) {m1 : vm_M} (f : vfr (vSu i) m m1) (hS : dSm D m) (hN : dN D ≤ 30) (hl : ∀ w, 0 ≤ w → w < dN D → dL D w ≤ 12) : dSm D m1 := by
  have n : ∀ b : Int, 8 ≤ b → vSu i 100 b = false := fun b hb => by
    unfold vSu
    rw [vSm_n (by omega) (by omega), decide_eq_false (show ¬ b = i by omega)]; simp
  obtain ⟨h1, h2, h3, h4⟩ := hS
  refine ⟨by rw [f _ _ (n 8 (by omega)), h1], fun k a b => by rw [f _ _ (n _ (by omega))]; exact h2 k a b, fun k a b => by rw [f _ _ (n _ (by omega))]; exact h3 k a b, fun w a b k c d => by rw [f _ _ (n _ (by omega))]; exact h4 w a b k c d⟩
theorem dAm.u {i : Int} {m1 : vm_M} (f : vfr (vSu i) m m1) (hA : dAm D m) : dAm D m1 := by
  have n : ∀ (a : Nat) (b : Int), a ≠ 100 → vSm a b = false → vSu i a b = false := fun a b ha hb => by
    unfold vSu
    rw [hb]
    cases hq : Nat.beq a 100 with
    | false => rfl
    | true => exact absurd (vm_beq hq) ha
  exact hA.fr f (n _ _ (by decide) rfl) (n _ _ (by decide) rfl) (fun _ => n _ _ (by decide) (vSm_n (by omega) (by omega))) (fun _ => n _ _ (by decide) (vSm_n (by omega) (by omega)))
end NU
