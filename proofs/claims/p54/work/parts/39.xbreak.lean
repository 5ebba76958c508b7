/-! ===== breaking in x ===== -/
/-- widths, how many words, WORD, SIZE, INNER -/
abbrev vB : Type := (Int → Int) × Int × Int × Int × Int
def bW (B : vB) : Int → Int := B.1
def bN (B : vB) : Int := B.2.1
def bP (B : vB) : Int := B.2.2.1
def bZ (B : vB) : Int := B.2.2.2.1
def bI (B : vB) : Int := B.2.2.2.2
def bOK (B : vB) : Prop := 0 ≤ bN B ∧ bN B ≤ 30 ∧ (∀ w, 0 ≤ w → w < bN B → 1 ≤ bW B w ∧ bW B w ≤ 1188) ∧ 0 ≤ bP B ∧ bP B ≤ 99 ∧ 1 ≤ bZ B ∧ bZ B ≤ 9 ∧ 10 ≤ bI B ∧ bI B ≤ 9999
def bR (B : vB) : vR := (fun z => (vpi (bW B) z + z * bP B) * bZ B, bP B * bZ B, bN B, bI B)
theorem bR_ok {B : vB} (h : bOK B) : rOK (bR B) := by
  obtain ⟨h1, h2, h3, h4, h5, h6, h7, h8, h9⟩ := h
  have hc := vmul_bd (a := bP B) (b := bZ B) (A := 99) (B := 9) ⟨h4, h5⟩ ⟨by omega, h7⟩
  refine ⟨h1, h2, hc.1, hc.2, h8, h9, ?_, fun z z1 z2 => ?_⟩
  · show (vpi (bW B) 0 + 0 * bP B) * bZ B = 0
    rw [vpi_0, Int.zero_mul, Int.zero_add, Int.zero_mul]
  · have hw := h3 z z1 z2
    have e : rT (bR B) (z + 1) = rT (bR B) z + (bW B z * bZ B + bP B * bZ B) := by
      show (vpi (bW B) (z + 1) + (z + 1) * bP B) * bZ B = (vpi (bW B) z + z * bP B) * bZ B + (bW B z * bZ B + bP B * bZ B)
      rw [vpi_s z1, Int.add_mul z 1, Int.one_mul, ← Int.add_mul, ← Int.add_mul]
      congr 1
      omega
    have e2 : rC (bR B) = bP B * bZ B := rfl
    have h10 := vmul_bd (a := bW B z) (b := bZ B) (A := 1188) (B := 9) ⟨by omega, hw.2⟩ ⟨by omega, h7⟩
    have h11 : 1 * 1 ≤ bW B z * bZ B := Int.mul_le_mul hw.1 h6 (by decide) (by omega)
    rw [e, e2]
    omega
theorem vpi_bd {B : vB} (h : bOK B) {z : Int} (h1 : 0 ≤ z) (h2 : z ≤ bN B) : 0 ≤ vpi (bW B) z ∧ vpi (bW B) z ≤ 1188 * z := by
  have := vs_bd (f := bW B) (lo := 0) (hi := 1188) z.toNat (fun i i1 i2 => by
    have := h.2.2.1 i i1 (by omega)
    omega)
  unfold vpi
  omega
theorem bR_w {B : vB} {f t : Int} : (((vpi (bW B) t - vpi (bW B) f) + (((t - f) - 1) * bP B)) * bZ B) = rwd (bR B) f t := by
  show _ = (vpi (bW B) t + t * bP B) * bZ B - (vpi (bW B) f + f * bP B) * bZ B - bP B * bZ B
  rw [← Int.sub_mul, ← Int.sub_mul, Int.sub_mul (t - f) 1, Int.sub_mul t f, Int.one_mul]
  congr 1
  omega
/-- breaking object th is prepared -/
def vPx (B : vB) (th : Nat) (m : vm_M) : Prop := m th 4 = bN B ∧ m th 5 = bI B ∧ m th 6 = bP B ∧ m th 7 = bZ B ∧ (∀ w, 0 ≤ w → w < bN B → m (th + 1) w = bW B w) ∧ ∀ z, 0 ≤ z → z ≤ bN B → m (th + 2) z = vpi (bW B) z
/-- what breaking writes -/
def vSb (th k : Nat) (i : Int) : Bool := (Nat.beq k th && decide (i = 8)) || (Nat.beq k (th + 3) || Nat.beq k (th + 4))
theorem vSb_f {th k : Nat} {i : Int} (h : ¬ (k = th ∧ i = 8)) (h3 : k ≠ th + 3) (h4 : k ≠ th + 4) : vSb th k i = false := by
  unfold vSb
  have e3 : Nat.beq k (th + 3) = false := Bool.eq_false_iff.mpr (fun q => h3 (vm_beq q))
  have e4 : Nat.beq k (th + 4) = false := Bool.eq_false_iff.mpr (fun q => h4 (vm_beq q))
  rw [e3, e4]
  cases hq : Nat.beq k th with
  | false => rfl
  | true =>
    have : ¬ i = 8 := fun q => h ⟨vm_beq hq, q⟩
    rw [decide_eq_false this]; rfl
theorem vSb_8 {th : Nat} : vSb th th 8 = true := by unfold vSb; rw [show Nat.beq th th = true from Nat.beq_refl th]; rfl
theorem vSb_3 {th : Nat} {i : Int} : vSb th (th + 3) i = true := by unfold vSb; rw [show Nat.beq (th + 3) (th + 3) = true from Nat.beq_refl _]; simp
theorem vSb_4 {th : Nat} {i : Int} : vSb th (th + 4) i = true := by unfold vSb; rw [show Nat.beq (th + 4) (th + 4) = true from Nat.beq_refl _]; simp
theorem vPx.fr {B : vB} {th : Nat} {m m' : vm_M} (h : vfr (vSb th) m m') (hP : vPx B th m) : vPx B th m' := by
  obtain ⟨h1, h2, h3, h4, h5, h6⟩ := hP
  have a : ∀ i, i ≠ 8 → m' th i = m th i := fun i hi => h th i (vSb_f (fun q => hi q.2) (by omega) (by omega))
  refine ⟨by rw [a 4 (by decide), h1], by rw [a 5 (by decide), h2], by rw [a 6 (by decide), h3], by rw [a 7 (by decide), h4], fun w a1 a2 => ?_, fun z a1 a2 => ?_⟩
  · rw [h _ _ (vSb_f (by omega) (by omega) (by omega))]; exact h5 w a1 a2
  · rw [h _ _ (vSb_f (by omega) (by omega) (by omega))]; exact h6 z a1 a2
def kX (v : Int) : Int := if v < 1000000000000000 then v else -1
section XB
variable {B : vB} {th : Nat} {m : vm_M}
theorem sx_rw {Q : Int → vm_M → Prop} (h_th : vm_is th 1 = true) (hB : bOK B) (hP : vPx B th m) {f t : Int} (hf : 0 ≤ f) (hft : f < t) (ht : t ≤ bN B) (h : Q (rwd (bR B) f t) m) : vm_C 26 [vm_r th, vm_i f, vm_i t] m (vm_qi Q) := by
  have hN := hB.2.1
  have a1 := vpi_bd hB (z := t) (by omega) ht
  have a2 := vpi_bd hB (z := f) hf (by omega)
  have a3 := vmul_bd (a := t - f - 1) (b := bP B) (A := 29) (B := 99) ⟨by omega, by omega⟩ ⟨hB.2.2.2.1, hB.2.2.2.2.1⟩
  have a4 := rwd_bd (bR_ok hB) hf hft ht
  have e := bR_w (B := B) (f := f) (t := t)
  refine ru1_rowWidth_0 h_th ?_
  rw [hP.2.2.1, hP.2.2.2.1, hP.2.2.2.2.2 t (by omega) ht, hP.2.2.2.2.2 f hf (by omega), e]
  refine ⟨⟨by omega, by omega, by omega, by omega, by omega, by omega, by omega, by omega⟩, h⟩
theorem sx_lack {Q : Int → vm_M → Prop} (h_th : vm_is th 1 = true) (hB : bOK B) (hP : vPx B th m) {w : Int} (hw : 1 ≤ w ∧ w ≤ 400000) (h : Q (vsq (bI B) w) m) : vm_C 27 [vm_r th, vm_i w] m (vm_qi Q) := by
  have h1 := vsq_bd (I := bI B) (w := w) hB.2.2.2.2.2.2.2.2 hw.1
  have h2 := hB.2.2.2.2.2.2.2
  unfold vsq at h h1
  refine ru1_squareOfLack_0 h_th ⟨fun c => ?_, fun c => ?_⟩
  · rw [hP.2.1] at c
    rw [if_neg (by omega)] at h; exact h
  · rw [hP.2.1] at c ⊢
    rw [if_pos (by omega)] at h h1
    exact ⟨⟨by omega, by omega, by omega⟩, h⟩
/-- rows as laid in th -/
def vLx (R : vR) (how : Int) (th : Nat) (m : vm_M) : Prop := m th 8 = (bQ R how : Int) ∧ ∀ r : Nat, r ≤ bQ R how → 0 < bQ R how → m (th + 3) r = bF R how r
theorem gE_N {R : vR} {f : Int} : ∀ (n : Nat) {e : Int}, rN R ≤ e → gE R f n e = e
  | 0, e, _ => rfl
  | n + 1, e, h => by unfold gE; rw [if_neg (fun q => by omega)]
theorem gE_I {R : vR} {f : Int} : ∀ (n : Nat) {e : Int}, rI R < rwd R f (e + 1) → gE R f n e = e
  | 0, e, _ => rfl
  | n + 1, e, h => by unfold gE; rw [if_neg (fun q => by omega)]
theorem gcnt_is {R : vR} (h : rOK R) {r : Nat} (h1 : gF R r = rN R) (h2 : ∀ j, j < r → gF R j < rN R) : gcnt R = r := by
  have g := gcnt_ok h
  rcases Nat.lt_trichotomy (gcnt R) r with a | a | a
  · have := h2 _ a; omega
  · exact a
  · have := g.2 _ a; omega
theorem sx_early7 {Q : vm_M → Prop} (h_th : vm_is th 1 = true) (hB : bOK B) (hP : vPx B th m) (h : ∀ m', vfr (vSb th) m m' → vLx (bR B) 0 th m' → Q m') : ∀ (n r : Nat) (m1 : vm_M), r + n = 12 → vfr (vSb th) m m1 → m1 th 8 = (r : Int) → (∀ j : Nat, j < r → m1 (th + 3) j = gF (bR B) j) → (∀ j, j < r → gF (bR B) j < bN B) → ku1_breakEarly_7 th (gF (bR B) r) m1 Q := by
  have hR := bR_ok hB
  have hN30 := hB.2.1
  have hNN : rN (bR B) = bN B := rfl
  have hII : rI (bR B) = bI B := rfl
  have hend : ∀ (r : Nat) (m1 : vm_M), r ≤ 12 → vfr (vSb th) m m1 → m1 th 8 = (r : Int) → (∀ j : Nat, j < r → m1 (th + 3) j = gF (bR B) j) → (∀ j, j < r → gF (bR B) j < bN B) → (r = 12 ∨ bN B ≤ gF (bR B) r) → (((vm_st m1 (th + 3) (m1 th 8) (gF (bR B) r)) th 4) ≤ gF (bR B) r → Q (vm_st m1 (th + 3) (m1 th 8) (gF (bR B) r))) ∧ (¬ ((vm_st m1 (th + 3) (m1 th 8) (gF (bR B) r)) th 4) ≤ gF (bR B) r → Q (vm_st (vm_st m1 (th + 3) (m1 th 8) (gF (bR B) r)) th 8 0)) := by
    intro r m1 hr hf h8 hv hlt hor
    have hP1 := hP.fr hf
    have hb := gF_bd hR r
    rw [vst_k (by omega), hP1.1, h8]
    refine ⟨fun c => h _ (hf.st vSb_3) ?_, fun c => h _ ((hf.st vSb_3).st vSb_8) ?_⟩
    · have e : gcnt (bR B) = r := gcnt_is hR (by omega) hlt
      have e2 : bQ (bR B) 0 = r := by unfold bQ; rw [if_pos rfl, e, if_pos hr]
      refine ⟨by rw [vst_k (by omega), h8, e2], fun j hj _ => ?_⟩
      rw [e2] at hj
      have e3 : bF (bR B) 0 j = gF (bR B) j := by unfold bF; rw [if_pos rfl]
      rw [e3]
      by_cases hq : j = r
      · rw [hq, vst_s]
      · rw [vst_i (by omega)]; exact hv j (by omega)
    · have e : ¬ gcnt (bR B) ≤ 12 := by
        intro q
        have g := gcnt_ok hR
        have : gcnt (bR B) ≠ r := fun q2 => by rw [q2] at g; omega
        rcases Nat.lt_or_ge (gcnt (bR B)) r with a | a
        · have := hlt _ a; omega
        · omega
      have e2 : bQ (bR B) 0 = 0 := by unfold bQ; rw [if_pos rfl, if_neg e]
      exact ⟨by rw [vst_s, e2]; rfl, fun j _ q => by omega⟩
  intro n
  induction n with
  | zero =>
    intro r m1 hr hf h8 hv hlt
    have h9 := hend r m1 (by omega) hf h8 hv hlt (Or.inl (by omega))
    exact ru1_breakEarly_7 h_th ⟨fun c => ⟨by omega, h9⟩, fun c => by omega⟩
  | succ n ih =>
    intro r m1 hr hf h8 hv hlt
    have hP1 := hP.fr hf
    have hb := gF_bd hR r
    refine ru1_breakEarly_7 h_th ⟨fun c => by omega, fun _ => ⟨fun c => ⟨by omega, hend r m1 (by omega) hf h8 hv hlt (Or.inr (by rw [hP1.1] at c; exact c))⟩, fun c => ?_⟩⟩
    rw [hP1.1] at c
    have hlt2 : gF (bR B) r < rN (bR B) := by omega
    have hg := gF_s r hlt2
    have hgo := gend_ok hR hb.1 hlt2
    rw [vst_k (by omega), h8]
    refine ⟨by omega, ?_⟩
    have hin : ∀ (k : Nat) (e : Int) (m2 : vm_M), gF (bR B) r + 1 ≤ e → e ≤ bN B → bN B ≤ e + k → gE (bR B) (gF (bR B) r) k e = gend (bR B) (gF (bR B) r) → vfr (vSb th) m m2 → m2 th 8 = (r : Int) + 1 → (∀ j : Nat, j < r + 1 → m2 (th + 3) j = gF (bR B) j) → ku1_breakEarly_47 th e m2 Q := by
      intro k
      induction k with
      | zero =>
        intro e m2 he1 he2 he3 he4 hf2 h82 hv2
        have hP2 := hP.fr hf2
        refine ru1_breakEarly_47 h_th ⟨fun _ => ?_, fun q => by rw [hP2.1] at q; omega⟩
        rw [gE_N 0 (by omega)] at he4
        rw [he4, ← hg]
        exact ih (r + 1) m2 (by omega) hf2 (by omega) hv2 (fun j hj => by
          rcases Nat.lt_or_ge j r with a | a
          · exact hlt j a
          · rw [show j = r by omega]; omega)
      | succ k ihk =>
        intro e m2 he1 he2 he3 he4 hf2 h82 hv2
        have hP2 := hP.fr hf2
        have hgo7 : gE (bR B) (gF (bR B) r) (k + 1) e = e → ku1_breakEarly_7 th e m2 Q := by
          intro q
          rw [q] at he4
          rw [he4, ← hg]
          exact ih (r + 1) m2 (by omega) hf2 (by omega) hv2 (fun j hj => by
            rcases Nat.lt_or_ge j r with a | a
            · exact hlt j a
            · rw [show j = r by omega]; omega)
        refine ru1_breakEarly_47 h_th ⟨fun q => hgo7 (gE_N _ (by rw [hP2.1] at q; omega)), fun q => ⟨by omega, ?_⟩⟩
        rw [hP2.1] at q
        rw [h82, show (r : Int) + 1 - 1 = (r : Int) by omega, hv2 r (by omega)]
        refine sx_rw h_th hB hP2 hb.1 (by omega) (by omega) ⟨fun c2 => hgo7 (gE_I _ (by rw [hP2.2.1] at c2; exact c2)), fun c2 => ⟨by omega, ?_⟩⟩
        rw [hP2.2.1] at c2
        refine ihk (e + 1) m2 (by omega) (by omega) (by omega) ?_ hf2 h82 hv2
        rw [← he4]
        show _ = (if e < rN (bR B) ∧ rwd (bR B) (gF (bR B) r) (e + 1) ≤ rI (bR B) then gE (bR B) (gF (bR B) r) k (e + 1) else e)
        rw [if_pos ⟨by omega, by omega⟩]
    refine hin 30 _ _ (Int.le_refl _) (by omega) (by have := hB.2.1; omega) rfl ((hf.st vSb_3).st vSb_8) (by rw [vst_s]) (fun j hj => ?_)
    rw [vst_k (by omega)]
    by_cases hq : j = r
    · rw [hq, vst_s]
    · rw [vst_i (by omega)]; exact hv j (by omega)
theorem sx_early {Q : vm_M → Prop} (h_th : vm_is th 1 = true) (hB : bOK B) (hP : vPx B th m) (h : ∀ m', vfr (vSb th) m m' → vLx (bR B) 0 th m' → Q m') : vm_C 29 [vm_r th] m (vm_qv Q) :=
  ru1_breakEarly_0 h_th (sx_early7 h_th hB hP h 12 0 _ rfl (vfr.rf.st vSb_8) (by rw [vst_s]; rfl) (fun j hj => by omega) (fun j hj => by omega))
end XB
