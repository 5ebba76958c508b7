/-! ===== what x asks of broken rows ===== -/
def bwide (R : vR) (how : Int) : Prop := ∃ r : Nat, r < bQ R how ∧ rI R < rwd R (bF R how r) (bF R how (r + 1))
def bht (R : vR) (how Z lead : Int) : Int := if bQ R how = 0 then 0 else (bQ R how : Int) * 6 * Z + ((bQ R how : Int) - 1) * lead
def bfits (R : vR) (how Z lead high : Int) : Prop := (0 < bQ R how ∨ rN R = 0) ∧ ¬ bwide R how ∧ bht R how Z lead ≤ high
def bsq (R : vR) (how : Int) (r : Int) : Int := vsq (rI R) (rwd R (bF R how r.toNat) (bF R how (r.toNat + 1)))
def bcost (R : vR) (how : Int) : Int := vs (bsq R how) (bQ R how - 1)
theorem bsq_bd {R : vR} (h : rOK R) (how : Int) {r : Int} (h0 : 0 ≤ r) (hr : r < bQ R how) : 0 ≤ bsq R how r ∧ bsq R how r ≤ 99960004 := by
  have h1 := (bQ_ok h how).2.2.2.1 r.toNat (by omega)
  exact vsq_bd h.2.2.2.2.2.1 (rwd_bd h h1.1 (by omega) h1.2.2.1).1
theorem bcost_bd {R : vR} (h : rOK R) (how : Int) (n : Nat) (hn : n ≤ bQ R how) : 0 ≤ vs (bsq R how) n ∧ vs (bsq R how) n ≤ 99960004 * 12 := by
  have h1 := vs_bd (f := bsq R how) (lo := 0) (hi := 99960004) n (fun i i1 i2 => bsq_bd h how i1 (by omega))
  have h2 := (bQ_ok h how).1
  omega
theorem bht_bd {R : vR} (h : rOK R) (how : Int) {Z lead : Int} (hZ : 0 ≤ Z ∧ Z ≤ 9) (hl : 0 ≤ lead ∧ lead ≤ 99) (hq : bQ R how ≠ 0) : 0 ≤ (bQ R how : Int) * 6 * Z ∧ (bQ R how : Int) * 6 * Z ≤ 72 * 9 ∧ 0 ≤ ((bQ R how : Int) - 1) * lead ∧ ((bQ R how : Int) - 1) * lead ≤ 11 * 99 := by
  have h2 := (bQ_ok h how).1
  have a := vmul_bd (a := (bQ R how : Int) * 6) (b := Z) (A := 72) (B := 9) ⟨by omega, by omega⟩ hZ
  have b := vmul_bd (a := (bQ R how : Int) - 1) (b := lead) (A := 11) (B := 99) ⟨by omega, by omega⟩ hl
  exact ⟨a.1, a.2, b.1, b.2⟩
section XF
variable {B : vB} {th : Nat} {m : vm_M} {how : Int}
theorem sx_row {Q : Int → vm_M → Prop} (h_th : vm_is th 1 = true) (hB : bOK B) (hP : vPx B th m) (hL : vLx (bR B) how th m) {r : Nat} (hr : r < bQ (bR B) how) (h : Q (rwd (bR B) (bF (bR B) how r) (bF (bR B) how (r + 1))) m) : vm_C 26 [vm_r th, vm_i (m (th + 3) r), vm_i (m (th + 3) ((r : Int) + 1))] m (vm_qi Q) := by
  have h1 := (bQ_ok (bR_ok hB) how).2.2.2.1 r hr
  have e1 := hL.2 r (by omega) (by omega)
  have e2 := hL.2 (r + 1) (by omega) (by omega)
  rw [show ((r + 1 : Nat) : Int) = (r : Int) + 1 by omega] at e2
  rw [e1, e2]
  exact sx_rw h_th hB hP h1.1 (by omega) h1.2.2.1 h
theorem sx_wide {Q : Int → vm_M → Prop} (h_th : vm_is th 1 = true) (hB : bOK B) (hP : vPx B th m) (hL : vLx (bR B) how th m) (h1 : bwide (bR B) how → Q 1 m) (h0 : ¬ bwide (bR B) how → Q 0 m) : vm_C 28 [vm_r th] m (vm_qi Q) := by
  have hb := bQ_ok (bR_ok hB) how
  have go : ∀ (n r : Nat), r + n = bQ (bR B) how → (∀ j, j < r → ¬ rI (bR B) < rwd (bR B) (bF (bR B) how j) (bF (bR B) how (j + 1))) → ku1_hasWiderRow_2 th r m Q := by
    intro n
    induction n with
    | zero =>
      intro r hr hj
      refine ru1_hasWiderRow_2 h_th ⟨fun _ => h0 (fun k => ?_), fun c => by rw [hL.1] at c; omega⟩
      obtain ⟨j, j1, j2⟩ := k
      exact hj j (by omega) j2
    | succ n ih =>
      intro r hr hj
      refine ru1_hasWiderRow_2 h_th ⟨fun c => by rw [hL.1] at c; omega, fun _ => ⟨by omega, sx_row h_th hB hP hL (by omega) ⟨fun c => ⟨by omega, ?_⟩, fun c => ?_⟩⟩⟩
      · rw [hP.2.1] at c
        have := ih (r + 1) (by omega) (fun j hj2 => by
          rcases Nat.lt_or_ge j r with a | a
          · exact hj j a
          · rw [show j = r by omega]
            have : rI (bR B) = bI B := rfl
            omega)
        exact this
      · rw [hP.2.1] at c
        exact h1 ⟨r, by omega, by have : rI (bR B) = bI B := rfl; omega⟩
  exact ru1_hasWiderRow_0 h_th (go _ 0 (Nat.zero_add _) (fun j hj => by omega))
theorem sx_height {Q : Int → vm_M → Prop} (h_th : vm_is th 1 = true) (hB : bOK B) (hP : vPx B th m) (hL : vLx (bR B) how th m) {lead : Int} (hl : 0 ≤ lead ∧ lead ≤ 99) (h : Q (bht (bR B) how (bZ B) lead) m) : vm_C 18 [vm_r th, vm_i lead] m (vm_qi Q) := by
  have hb := (bQ_ok (bR_ok hB) how).1
  have hZ := hB.2.2.2.2.2
  refine ru1_heightWith_0 h_th ?_
  rw [hL.1, hP.2.2.2.1]
  unfold bht at h
  refine ⟨fun c => ?_, fun c => ?_⟩
  · have c : bQ (bR B) how ≠ 0 := fun q => c (by rw [q]; rfl)
    rw [if_neg c] at h
    have := bht_bd (bR_ok hB) how (Z := bZ B) (lead := lead) ⟨by omega, by omega⟩ hl c
    exact ⟨⟨by omega, by omega, by omega, by omega, by omega⟩, h⟩
  · rw [if_pos (by omega)] at h; exact h
theorem sx_isFit {Q : Int → vm_M → Prop} (h_th : vm_is th 1 = true) (hB : bOK B) (hP : vPx B th m) (hL : vLx (bR B) how th m) {lead high : Int} (hl : 0 ≤ lead ∧ lead ≤ 99) (h1 : bfits (bR B) how (bZ B) lead high → Q 1 m) (h0 : ¬ bfits (bR B) how (bZ B) lead high → Q 0 m) : vm_C 19 [vm_r th, vm_i lead, vm_i high] m (vm_qi Q) := by
  have e1 : rN (bR B) = bN B := rfl
  have hmid : (0 < bQ (bR B) how ∨ bN B = 0) → vm_C 28 [vm_r th] m (vm_qi (fun z1 m1 =>
        ((¬ z1 = 0 →
          Q 0 m1) ∧ (¬ ¬ z1 = 0 →
          (vm_C 18 [vm_r th, vm_i lead] m1 (vm_qi (fun z2 m2 =>
            ((high < z2 →
              Q 0 m2) ∧ (¬ high < z2 →
              Q 1 m2))))))))) := by
    intro hor
    refine sx_wide h_th hB hP hL (fun hw => ⟨fun _ => h0 (fun k => k.2.1 hw), fun c => by omega⟩) (fun hw => ⟨fun c => by omega, fun _ => sx_height h_th hB hP hL hl ⟨fun c => h0 (fun k => ?_), fun c => h1 ⟨hor, hw, by omega⟩⟩⟩)
    have := k.2.2; omega
  refine ru1_isFitting_0 h_th ⟨fun c => hmid (Or.inl (by rw [hL.1] at c; omega)), fun c => ⟨fun c2 => h0 (fun k => ?_), fun c2 => hmid (Or.inr (by rw [hP.1] at c2; omega))⟩⟩
  rw [hL.1] at c
  rw [hP.1] at c2
  have := k.1
  rw [e1] at this
  omega
theorem sx_cost {Q : Int → vm_M → Prop} (h_th : vm_is th 1 = true) (hB : bOK B) (hP : vPx B th m) (hL : vLx (bR B) how th m) (h : Q (bcost (bR B) how) m) : vm_C 20 [vm_r th] m (vm_qi Q) := by
  have hR := bR_ok hB
  have hb := bQ_ok hR how
  have go : ∀ (n r : Nat), r + n = bQ (bR B) how - 1 → ku1_costOfRows_4 th (vs (bsq (bR B) how) r) r m Q := by
    intro n
    induction n with
    | zero =>
      intro r hr
      have e : vs (bsq (bR B) how) r = bcost (bR B) how := by unfold bcost; rw [← hr]; rfl
      refine ru1_costOfRows_4 h_th ?_
      rw [hL.1]
      exact ⟨by omega, fun _ => by rw [e]; exact h, fun c => by omega⟩
    | succ n ih =>
      intro r hr
      have b1 := bcost_bd hR how r (by omega)
      have b2 := bsq_bd hR how (r := r) (by omega) (by omega)
      have h1 := hb.2.2.2.1 r (by omega)
      have h2 := rwd_bd hR h1.1 (by omega) h1.2.2.1
      have e : bsq (bR B) how r = vsq (bI B) (rwd (bR B) (bF (bR B) how r) (bF (bR B) how (r + 1))) := rfl
      refine ru1_costOfRows_4 h_th ?_
      rw [hL.1]
      refine ⟨by omega, fun c => by omega, fun _ => ⟨by omega, sx_row h_th hB hP hL (by omega) (sx_lack h_th hB hP ⟨h2.1, by omega⟩ ?_)⟩⟩
      rw [← e]
      exact ⟨by omega, ih (r + 1) (by omega)⟩
  exact ru1_costOfRows_0 h_th (go _ 0 (Nat.zero_add _))
def vS2 (th k : Nat) (_ : Int) : Bool := Nat.beq k (th + 2)
theorem vS2_n {th k : Nat} {i : Int} (h : k ≠ th + 2) : vS2 th k i = false := Bool.eq_false_iff.mpr (fun q => h (vm_beq q))
theorem vS2_t {th : Nat} {i : Int} : vS2 th (th + 2) i = true := Nat.beq_refl _
theorem sx_addUp {Q : vm_M → Prop} {W : Int → Int} {N : Int} (h_th : vm_is th 1 = true) (h4 : m th 4 = N) (hN : 0 ≤ N ∧ N ≤ 30) (hW : ∀ w, 0 ≤ w → w < N → m (th + 1) w = W w ∧ 1 ≤ W w ∧ W w ≤ 1188) (h0 : m (th + 2) 0 = 0) (h : ∀ m', vfr (vS2 th) m m' → (∀ z, 0 ≤ z → z ≤ N → m' (th + 2) z = vpi W z) → Q m') : vm_C 24 [vm_r th] m (vm_qv Q) := by
  have go : ∀ (n : Nat) (z : Int) (m1 : vm_M), 0 ≤ z → z + n = N → vfr (vS2 th) m m1 → (∀ x, 0 ≤ x → x ≤ z → m1 (th + 2) x = vpi W x) → ku1_addUp_2 th z m1 Q := by
    intro n
    induction n with
    | zero =>
      intro z m1 hz hn hf hv
      refine ru1_addUp_2 h_th ⟨fun _ => h m1 hf (fun x a b => hv x a (by omega)), fun c => by rw [hf _ _ (vS2_n (by omega)), h4] at c; omega⟩
    | succ n ih =>
      intro z m1 hz hn hf hv
      have a1 := hW z hz (by omega)
      have a2 := vs_bd (f := W) (lo := 0) (hi := 1188) z.toNat (fun i i1 i2 => by have := hW i i1 (by omega); omega)
      have a3 : vpi W z = vs W z.toNat := rfl
      refine ru1_addUp_2 h_th ?_
      rw [hf th 4 (vS2_n (by omega)), h4, hf (th + 1) z (vS2_n (by omega)), a1.1, hv z hz (Int.le_refl _)]
      refine ⟨fun c => by omega, fun _ => ⟨by omega, ih (z + 1) _ (by omega) (by omega) (hf.st vS2_t) (fun x x1 x2 => ?_)⟩⟩
      by_cases hq : x = z + 1
      · rw [hq, vst_s, vpi_s hz]
      · rw [vst_i hq]; exact hv x x1 (by omega)
  exact ru1_addUp_0 h_th (go N.toNat 0 m (by omega) (by omega) vfr.rf (fun x x1 x2 => by rw [show x = 0 by omega, h0]; rfl))
/-- all of a breaking object -/
def vSt (th k : Nat) (_ : Int) : Bool := Nat.ble th k && Nat.ble k (th + 4)
theorem vSt_t {th k : Nat} {i : Int} (h : th ≤ k ∧ k ≤ th + 4) : vSt th k i = true := by
  unfold vSt
  rw [Nat.ble_eq_true_of_le h.1, Nat.ble_eq_true_of_le h.2]; rfl
theorem vSt_n {th k : Nat} {i : Int} (h : k < th ∨ th + 4 < k) : vSt th k i = false := by
  unfold vSt
  refine Bool.eq_false_iff.mpr (fun q => ?_)
  simp only [Bool.and_eq_true] at q
  have a := Nat.le_of_ble_eq_true q.1
  have b := Nat.le_of_ble_eq_true q.2
  omega
theorem vSb_St {th : Nat} {m m' : vm_M} (h : vfr (vSb th) m m') : vfr (vSt th) m m' := h.sub (fun k i hk => by
  unfold vSb at hk
  simp only [Bool.or_eq_true, Bool.and_eq_true] at hk
  rcases hk with a | a | a
  · have := vm_beq a.1; exact vSt_t (by omega)
  · have := vm_beq a; exact vSt_t (by omega)
  · have := vm_beq a; exact vSt_t (by omega))
theorem vS2_St {th : Nat} {m m' : vm_M} (h : vfr (vS2 th) m m') : vfr (vSt th) m m' := h.sub (fun k i hk => vSt_t (by have := vm_beq hk; omega))
theorem vSc_St {th : Nat} {m m' : vm_M} (h : vfr (vSc th) m m') : vfr (vSt th) m m' := vSb_St (vSc_b h)
theorem vpi_cg {f g : Int → Int} {z : Int} (h : ∀ i, 0 ≤ i → i < z → f i = g i) : vpi f z = vpi g z := vs_cg _ (fun i a b => h i a (by omega))
/-- two widths exchanged -/
def wX (W : Int → Int) (i j : Int) : Int → Int := fun w => if w = i then W j else if w = j then W i else W w
def bX (B : vB) (i j : Int) : vB := (wX (bW B) i j, bN B, bP B, bZ B, bI B)
theorem bX_ok (hB : bOK B) {i j : Int} (hi : 0 ≤ i ∧ i < bN B) (hj : 0 ≤ j ∧ j < bN B) : bOK (bX B i j) := by
  refine ⟨hB.1, hB.2.1, fun w a b => ?_, hB.2.2.2⟩
  have b : w < bN B := b
  show 1 ≤ wX (bW B) i j w ∧ wX (bW B) i j w ≤ 1188
  unfold wX
  split
  · exact hB.2.2.1 j hj.1 hj.2
  · split
    · exact hB.2.2.1 i hi.1 hi.2
    · exact hB.2.2.1 w a b
theorem sx_exch {Q : vm_M → Prop} (h_th : vm_is th 1 = true) (hB : bOK B) (hP : vPx B th m) {i j : Int} (hi : 0 ≤ i ∧ i < bN B) (hj : 0 ≤ j ∧ j < bN B) (h : ∀ m', vfr (vSt th) m m' → (∀ k, m' (th + 3) k = m (th + 3) k) → (∀ k, m' th k = m th k) → vPx (bX B i j) th m' → Q m') : vm_C 25 [vm_r th, vm_i i, vm_i j] m (vm_qv Q) := by
  have hN := hB.2.1
  refine ru1_exchange_0 h_th ⟨by omega, ?_⟩
  rw [hP.2.2.2.2.1 i hi.1 hi.2, hP.2.2.2.2.1 j hj.1 hj.2]
  have hXo := bX_ok hB hi hj
  refine sx_addUp (W := wX (bW B) i j) (N := bN B) h_th (by rw [vst_k (by omega), vst_k (by omega), hP.1]) ⟨hB.1, hN⟩ (fun w a b => ⟨?_, hXo.2.2.1 w a b⟩) (by rw [vst_k (by omega), vst_k (by omega), hP.2.2.2.2.2 0 (by omega) hB.1]; rfl) (fun m' hf hv => ?_)
  · unfold wX
    by_cases q1 : w = j
    · rw [q1, vst_s]
      by_cases q2 : j = i
      · rw [if_pos q2, q2]
      · rw [if_neg q2, if_pos rfl]
    · rw [vst_i q1]
      by_cases q2 : w = i
      · rw [q2, vst_s, if_pos rfl]
      · rw [vst_i q2, if_neg q2, if_neg q1]
        exact hP.2.2.2.2.1 w a b
  · have hg : ∀ k, m' th k = m th k := fun k => by rw [hf th k (vS2_n (by omega)), vst_k (by omega), vst_k (by omega)]
    refine h m' (fun k i' hk => ?_) (fun k => by rw [hf _ k (vS2_n (by omega)), vst_k (by omega), vst_k (by omega)]) hg ⟨(hg 4).trans hP.1, (hg 5).trans hP.2.1, (hg 6).trans hP.2.2.1, (hg 7).trans hP.2.2.2.1, fun w a b => ?_, hv⟩
    · have hk2 : k ≠ th + 1 ∧ k ≠ th + 2 := by
        constructor
        · intro q; rw [q, vSt_t (by omega)] at hk; cases hk
        · intro q; rw [q, vSt_t (by omega)] at hk; cases hk
      rw [hf k i' (vS2_n hk2.2), vst_k hk2.1, vst_k hk2.1]
    · rw [hf _ w (vS2_n (by omega))]
      show _ = wX (bW B) i j w
      have b : w < bN B := b
      unfold wX
      by_cases q1 : w = j
      · rw [q1, vst_s]
        by_cases q2 : j = i
        · rw [if_pos q2, q2]
        · rw [if_neg q2, if_pos rfl]
      · rw [vst_i q1]
        by_cases q2 : w = i
        · rw [q2, vst_s, if_pos rfl]
        · rw [vst_i q2, if_neg q2, if_neg q1]
          exact hP.2.2.2.2.1 w a b
theorem wX_2 (W : Int → Int) (i j w : Int) : wX (wX W i j) i j w = W w := by
  unfold wX
  by_cases q1 : w = i
  · rw [if_pos q1]
    by_cases q2 : j = i
    · rw [if_pos q2, q1, q2]
    · rw [if_neg q2, if_pos rfl, q1]
  · rw [if_neg q1]
    by_cases q2 : w = j
    · rw [if_pos q2, if_pos rfl, q2]
    · rw [if_neg q2, if_neg q1, if_neg q2]
theorem vPx_X {i j : Int} (hP : vPx (bX (bX B i j) i j) th m) : vPx B th m := by
  have e : bX (bX B i j) i j = B := by
    show ((wX (wX (bW B) i j) i j, bN B, bP B, bZ B, bI B) : vB) = B
    rw [show wX (wX (bW B) i j) i j = bW B from funext (wX_2 (bW B) i j)]
    rfl
  rw [e] at hP; exact hP
theorem sx_costX {Q : Int → vm_M → Prop} (h_th : vm_is th 1 = true) (hB : bOK B) (hP : vPx B th m) {i j : Int} (hi : 0 ≤ i ∧ i < bN B) (hj : 0 ≤ j ∧ j < bN B) (hh : how = 0 ∨ how = 1) (h : ∀ m', vfr (vSt th) m m' → vPx B th m' → Q (if bQ (bR (bX B i j)) how = 0 then -1 else bcost (bR (bX B i j)) how) m') : vm_C 22 [vm_r th, vm_i i, vm_i j, vm_i how] m (vm_qi Q) := by
  have hX := bX_ok hB hi hj
  refine ru1_costExchanged_0 h_th (sx_exch h_th hB hP hi hj (fun m1 f1 _ _ p1 => sx_break h_th hX p1 hh (fun m2 f2 l2 => ?_)))
  have p2 := p1.fr f2
  rw [l2.1]
  refine ⟨fun c => sx_cost h_th hX p2 l2 (sx_exch h_th hX p2 hi hj (fun m3 f3 _ _ p3 => ?_)), fun c => sx_exch h_th hX p2 hi hj (fun m3 f3 _ _ p3 => ?_)⟩
  · have := h m3 ((f1.tr (vSb_St f2)).tr f3) (vPx_X p3)
    rw [if_neg (by omega)] at this; exact this
  · have := h m3 ((f1.tr (vSb_St f2)).tr f3) (vPx_X p3)
    rw [if_pos (by omega)] at this; exact this
def bJ (B : vB) (inner : Int) : vB := (bW B, bN B, bP B, bZ B, inner)
theorem sx_within {Q : Int → vm_M → Prop} (h_th : vm_is th 1 = true) (hB : bOK B) (hP : vPx B th m) {most inner : Int} (hi : 10 ≤ inner ∧ inner ≤ 9999) (h1 : ∀ m', vfr (vSt th) m m' → vPx (bJ B inner) th m' → (0 < bQ (bR (bJ B inner)) 0 ∧ (bQ (bR (bJ B inner)) 0 : Int) ≤ most ∧ ¬ bwide (bR (bJ B inner)) 0) → Q 1 m') (h0 : ∀ m', vfr (vSt th) m m' → vPx (bJ B inner) th m' → ¬ (0 < bQ (bR (bJ B inner)) 0 ∧ (bQ (bR (bJ B inner)) 0 : Int) ≤ most ∧ ¬ bwide (bR (bJ B inner)) 0) → Q 0 m') : vm_C 21 [vm_r th, vm_i most, vm_i inner] m (vm_qi Q) := by
  have hJ : bOK (bJ B inner) := ⟨hB.1, hB.2.1, hB.2.2.1, hB.2.2.2.1, hB.2.2.2.2.1, hB.2.2.2.2.2.1, hB.2.2.2.2.2.2.1, hi.1, hi.2⟩
  have hP1 : vPx (bJ B inner) th (vm_st m th 5 inner) := by
    refine ⟨by rw [vst_i (by decide)]; exact hP.1, by rw [vst_s]; rfl, by rw [vst_i (by decide)]; exact hP.2.2.1, by rw [vst_i (by decide)]; exact hP.2.2.2.1, fun w a b => by rw [vst_k (by omega)]; exact hP.2.2.2.2.1 w a b, fun w a b => by rw [vst_k (by omega)]; exact hP.2.2.2.2.2 w a b⟩
  have hf0 : vfr (vSt th) m (vm_st m th 5 inner) := vfr.rf.st (vSt_t (by omega))
  refine ru1_isBrokenWithin_0 h_th (sx_early h_th hJ hP1 (fun m1 f1 l1 => ?_))
  have p1 := hP1.fr f1
  have f2 := hf0.tr (vSb_St f1)
  rw [l1.1]
  refine ⟨fun c => h0 m1 f2 p1 (fun k => by omega), fun c => ⟨fun c2 => h0 m1 f2 p1 (fun k => by omega), fun c2 => sx_wide h_th hJ p1 l1 (fun hw => ⟨fun _ => h0 m1 f2 p1 (fun k => k.2.2 hw), fun q => by omega⟩) (fun hw => ⟨fun q => by omega, fun _ => h1 m1 f2 p1 ⟨by omega, by omega, hw⟩⟩)⟩⟩
theorem sx_prep {Q : vm_M → Prop} (h_th : vm_is th 1 = true) (h67 : 67 ≤ th ∧ th ≤ 72) (hB : bOK B) {g : Int} (hg : 0 ≤ g ∧ g ≤ 30) (hN : m 9 6 = bN B) (hI : m 10 0 = bI B) (hPP : m 10 4 = bP B) (hW : ∀ w, 0 ≤ w → w < bN B → m 66 (30 * g + w) = bW B w) (h0 : m (th + 2) 0 = 0) (h : ∀ m', vfr (vSt th) m m' → vPx B th m' → Q m') : vm_C 13 [vm_r th, vm_r 9, vm_r 65, vm_i g, vm_i (bZ B)] m (vm_qv Q) := by
  have hN30 := hB.2.1
  have hN0 := hB.1
  have go : ∀ (n : Nat) (w : Int) (m1 : vm_M), 0 ≤ w → w + n = bN B → vfr (vSt th) m m1 → m1 (th + 2) 0 = 0 → m1 th 4 = bN B → m1 th 5 = bI B → m1 th 6 = bP B → m1 th 7 = bZ B → (∀ x, 0 ≤ x → x < w → m1 (th + 1) x = bW B x) → ku1_prepare_37 th 9 g (bZ B) w m1 Q := by
    intro n
    induction n with
    | zero =>
      intro w m1 hw hn hf hz h4 h5 h6 h7 hv
      refine ru1_prepare_37 h_th rfl ⟨fun _ => ?_, fun c => by rw [h4] at c; omega⟩
      refine sx_addUp (W := bW B) (N := bN B) h_th h4 ⟨hN0, hN30⟩ (fun x a b => ⟨hv x a (by omega), hB.2.2.1 x a b⟩) hz (fun m2 f2 hv2 => ?_)
      have hg2 : ∀ k, m2 th k = m1 th k := fun k => f2 th k (vS2_n (by omega))
      refine h m2 (hf.tr (vS2_St f2)) ⟨(hg2 4).trans h4, (hg2 5).trans h5, (hg2 6).trans h6, (hg2 7).trans h7, fun x a b => ?_, hv2⟩
      rw [f2 _ x (vS2_n (by omega))]; exact hv x a (by omega)
    | succ n ih =>
      intro w m1 hw hn hf hz h4 h5 h6 h7 hv
      refine ru1_prepare_37 h_th rfl ⟨fun c => by rw [h4] at c; omega, fun _ => ru9_of_0 ⟨by omega, ?_⟩⟩
      rw [show g * 30 + w = 30 * g + w by omega, hf 66 _ (vSt_n (by omega)), hW w hw (by omega)]
      refine ⟨by omega, ih (w + 1) _ (by omega) (by omega) (hf.st (vSt_t (by omega))) (by rw [vst_k (by omega)]; exact hz) (by rw [vst_k (by omega)]; exact h4) (by rw [vst_k (by omega)]; exact h5) (by rw [vst_k (by omega)]; exact h6) (by rw [vst_k (by omega)]; exact h7) (fun x a b => ?_)⟩
      by_cases hq : x = w
      · rw [hq, vst_s]
      · rw [vst_i hq]; exact hv x a (by omega)
  refine ru1_prepare_0 h_th rfl ?_
  rw [vst_k (show 9 + 1 ≠ th by omega), vst_k (show 9 + 1 ≠ th by omega), vst_k (show 9 + 1 ≠ th by omega)]
  have t := fun i => vSt_t (th := th) (k := th) (i := i) (by omega)
  refine go (bN B).toNat 0 _ (by omega) (by omega) ((((vfr.rf.st (t 4)).st (t 5)).st (t 6)).st (t 7)) ?_ ?_ ?_ ?_ ?_ (fun x a b => by omega)
  · rw [vst_k (by omega), vst_k (by omega), vst_k (by omega), vst_k (by omega)]; exact h0
  · rw [vst_i (by decide), vst_i (by decide), vst_i (by decide), vst_s]; exact hN
  · rw [vst_i (by decide), vst_i (by decide), vst_s]; exact hI
  · rw [vst_i (by decide), vst_s]; exact hPP
  · rw [vst_s]
end XF
