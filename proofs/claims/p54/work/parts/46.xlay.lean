/-! ===== x lays out ===== -/
section XL
variable {D : vD} {E : Int → Int} {m : vm_M}
theorem sx_put {Q : vm_M → Prop} (hD : dOA D) (hO : dOS D) (hE : dOE D E) (hA : dAx D m 3) (hS : dSx D m 9) (hX : dEx E m 9) {w g p : Int} (hw : 0 ≤ w ∧ w < dN D) (hg : 0 ≤ g ∧ g ≤ dC D) (hp : -1000000 ≤ p ∧ p ≤ 1000000) (h : ∀ m', vfr (vSyw w) m m' → vRw D E g p w m' → Q m') : vm_C 52 [vm_r 77, vm_i w, vm_i g, vm_i p] m (vm_qv Q) := by
  have hC := hD.2.1
  have hN := hO.2.2.1
  have hl := hO.2.2.2.1 w hw.1 hw.2
  have go : ∀ (n : Nat) (k : Int) (m1 : vm_M) (w6 w7 w8 : Option vm_V), 1 ≤ k → k + n = dL D w → vfr (vSyw w) m m1 → (∀ j, 0 ≤ j → j < k → m1 83 (12 * w + j) = p + yq D E g w j) → (∀ j, 0 ≤ j → j + 1 < k → m1 84 (12 * w + j) = yd D g w j) → ku3_putLetters_17 w g p (12 * w + (k - 1)) k w6 w7 w8 m1 Q := by
    intro n
    induction n with
    | zero =>
      intro k m1 w6 w7 w8 h1 h2 hf hv hu
      have hk : m1 12 w = dL D w := by rw [hf _ _ (vSyw_n (by omega))]; exact hS.2.2.1 w hw.1 hw.2
      refine ru3_putLetters_17 ⟨by omega, fun _ => h m1 hf ⟨fun j a b => hv j a (by omega), fun j a b => hu j a (by omega)⟩, fun c => by rw [hk] at c; omega⟩
    | succ n ih =>
      intro k m1 w6 w7 w8 h1 h2 hf hv hu
      have hk : m1 12 w = dL D w := by rw [hf _ _ (vSyw_n (by omega))]; exact hS.2.2.1 w hw.1 hw.2
      have hA1 := hA.fr hf (vSyw_n (by omega)) (fun _ => vSyw_n (by omega)) (fun _ => vSyw_n (by omega))
      have hS1 := hS.fr hf (vSyw_n (by omega)) (fun _ => vSyw_n (by omega)) (fun _ => vSyw_n (by omega)) (fun _ => vSyw_n (by omega))
      have hX1 := hX.fr hf (fun _ => vSyw_n (by omega)) (vSyw_n (by omega)) (vSyw_n (by omega))
      have ka := hO.2.2.2.2 w hw.1 hw.2 (k - 1) (by omega) (by omega)
      have kb := hO.2.2.2.2 w hw.1 hw.2 k (by omega) (by omega)
      have ea := hS1.2.2.2 w hw.1 hw.2 (k - 1) (by omega) (by omega)
      have eb := hS1.2.2.2 w hw.1 hw.2 k (by omega) (by omega)
      have hpd := vpd_ok hD ka kb hg.2
      have hdb := yd_bd hD hO (g := g) (k := k - 1) hw ⟨by omega, by omega⟩ hg.2
      have hwb := hD.2.2.1 _ ka.1 ka.2.1
      have hqb := yq_bd hD hO hE hw hg.2 (k := k - 1) ⟨by omega, by omega⟩
      have htb := yq_t_bd hD hO hE (g := g) (k := k - 1) hw ⟨by omega, by omega⟩ hg.2
      have ed : vcd1 (vpd D (dP D (12 * w + (k - 1))) (dP D (12 * w + k)) g) (dK D (26 * dP D (12 * w + (k - 1)) + dP D (12 * w + k))) = yd D g w (k - 1) := by
        unfold yd vcd
        rw [show k - 1 + 1 = k by omega]
      refine ru3_putLetters_17 ⟨by omega, fun c => by rw [hk] at c; omega, fun _ => ⟨by omega, ?_⟩⟩
      rw [show 12 * w + (k - 1) + 1 = 12 * w + k by omega]
      have ea : m1 13 (12 * w + (k - 1)) = dP D (12 * w + (k - 1)) := ea
      have eb : m1 13 (12 * w + k) = dP D (12 * w + k) := eb
      rw [ea, eb]
      refine sx_free rfl hD hA1 ka kb hg.2 ⟨by omega, hpd.1⟩ (sx_corrected rfl hO hS1 ⟨ka.1, ka.2.1⟩ ⟨kb.1, kb.2.1⟩ (by omega) ?_)
      rw [ed]
      have e4 : m1 4 (dP D (12 * w + (k - 1))) = dW D (dP D (12 * w + (k - 1))) := hA1.2.1 _ ka.1 ka.2.1
      have e5 : m1 10 5 = E 5 := hX1.2.2.2.2.2.1
      simp only [vst_s, vst_k, ne_eq, Nat.reduceEqDiff, not_false_eq_true, e4, e5, hv (k - 1) (by omega) (by omega)]
      have hz := hE.2.2.2.2.2.1
      have ka1 : 0 ≤ dP D (12 * w + (k - 1)) ∧ dP D (12 * w + (k - 1)) < 26 := ⟨ka.1, ka.2.1⟩
      have hq := yq_s (D := D) (E := E) (g := g) (w := w) (k := k - 1) (by omega)
      rw [show k - 1 + 1 = k by omega] at hq
      refine ⟨⟨by omega, by omega, by omega, by omega, by omega, by omega, by omega, by omega, by omega, by omega, by omega⟩, ?_⟩
      have := ih (k + 1) (vm_st (vm_st m1 84 (12 * w + (k - 1)) (yd D g w (k - 1))) 83 (12 * w + k) (p + yq D E g w (k - 1) + (dW D (dP D (12 * w + (k - 1))) + yd D g w (k - 1)) * E 5)) (some (vm_i (dP D (12 * w + (k - 1))))) (some (vm_i (dP D (12 * w + k)))) (some (vm_i (dW D (dP D (12 * w + (k - 1))) + yd D g w (k - 1)))) (by omega) (by omega) ((hf.st (vSyw_t (by omega) (by omega))).st (vSyw_t (by omega) (by omega))) (fun j a b => ?_) (fun j a b => ?_)
      · rw [show k + 1 - 1 = k by omega] at this
        exact this
      · by_cases hj : j = k
        · rw [hj, vst_s, hq]; omega
        · rw [vst_i (by omega), vst_k (by decide)]; exact hv j a (by omega)
      · rw [vst_k (by decide)]
        by_cases hj : j = k - 1
        · rw [hj, vst_s]
        · rw [vst_i (by omega)]; exact hu j a (by omega)
  refine ru3_putLetters_0 ⟨by omega, ?_⟩
  rw [show w * 12 = 12 * w by omega]
  have := go (dL D w - 1).toNat 1 (vm_st m 83 (12 * w) p) none none none (by omega) (by omega) (vfr.rf.st (vSyw_t (by omega) (by omega))) (fun j a b => by rw [show j = 0 by omega, Int.add_zero, vst_s, yq_0]; omega) (fun j a b => by omega)
  rw [show 12 * w + ((1 : Int) - 1) = 12 * w by omega] at this
  exact this
theorem sx_space {Q : Int → vm_M → Prop} {f t : Int} (hD : dOA D) (hO : dOS D) (hE : dOE D E) {r : Nat} (hr : r < 12) (hf : 0 ≤ f) (hft : f < t) (ht : t ≤ dN D) (hR : vRr D E f t r m) {i : Int} (h : Q (yS D E f t + (if i < yX D E f t then 1 else 0)) m) : vm_C 42 [vm_r 77, vm_i r, vm_i i] m (vm_qi Q) := by
  have b := yS_bd hD hO hE hf hft ht
  refine ru3_spaceBehind_0 ?_
  rw [hR.2.2.2.1, hR.2.2.2.2]
  refine ⟨by omega, fun c => ⟨by omega, ?_⟩, fun c => ⟨by omega, ?_⟩⟩
  · rw [if_neg (by omega)] at h; exact h
  · rw [if_pos (by omega)] at h; exact h
/-- all rows as x keeps them -/
def eF (D : vD) (E : Int → Int) (r : Nat) : Int := bF (bR (eB D E)) (E 6) r
def eQ (D : vD) (E : Int → Int) : Nat := bQ (bR (eB D E)) (E 6)
def vRws (D : vD) (E : Int → Int) (m : vm_M) : Prop := ∀ r : Nat, r < eQ D E → vRr D E (eF D E r) (eF D E (r + 1)) r m ∧ vRp D E (eF D E r) (eF D E (r + 1)) m
def vLd (D : vD) (E : Int → Int) (m : vm_M) : Prop := vWd D m ∧ vPx (eB D E) 67 m ∧ vLx (bR (eB D E)) (E 6) 67 m ∧ vRws D E m
theorem eQ_ok (hD : dOA D) (hO : dOS D) (hE : dOE D E) : eQ D E ≤ 12 ∧ eF D E 0 = 0 ∧ (0 < eQ D E → eF D E (eQ D E) = dN D) ∧ (∀ r, r < eQ D E → 0 ≤ eF D E r ∧ eF D E r + 1 ≤ eF D E (r + 1) ∧ eF D E (r + 1) ≤ dN D) ∧ (dN D = 0 → eQ D E = 0) := by
  have h := bQ_ok (bR_ok (eB_ok hD hO hE)) (E 6)
  exact ⟨h.1, h.2.1, h.2.2.1, fun r hr => ⟨(h.2.2.2.1 r hr).1, (h.2.2.2.1 r hr).2.1, (h.2.2.2.1 r hr).2.2.1⟩, h.2.2.2.2⟩
theorem eF_up (hD : dOA D) (hO : dOS D) (hE : dOE D E) {r : Nat} : ∀ n : Nat, r + n ≤ eQ D E → eF D E r ≤ eF D E (r + n)
  | 0, _ => Int.le_refl _
  | n + 1, h => by
    have i := eF_up hD hO hE (r := r) n (by omega)
    have := (eQ_ok hD hO hE).2.2.2.1 (r + n) (by omega)
    rw [show r + (n + 1) = r + n + 1 by omega]
    omega
theorem sx_renewR {Q : vm_M → Prop} (hD : dOA D) (hO : dOS D) (hE : dOE D E) (hA : dAx D m 3) (hS : dSx D m 9) (hX : dEx E m 9) (hW : vWd D m) (hL : vLx (bR (eB D E)) (E 6) 67 m) (h : ∀ m', vfr vSy m m' → vRws D E m' → Q m') : vm_C 39 [vm_r 77] m (vm_qv Q) := by
  have hN := hO.2.2.1
  have hq := eQ_ok hD hO hE
  have hFr : ∀ (m1 : vm_M), vfr vSy m m1 → dAx D m1 3 ∧ dSx D m1 9 ∧ dEx E m1 9 ∧ vWd D m1 ∧ m1 67 8 = (eQ D E : Int) ∧ ∀ r : Nat, r ≤ eQ D E → 0 < eQ D E → m1 70 r = eF D E r := by
    intro m1 hf
    have n : ∀ (k : Nat) (i : Int), k < 78 → vSy k i = false := fun k i hk => vSy_n (Or.inl hk)
    refine ⟨hA.fr hf (n _ _ (by omega)) (fun _ => n _ _ (by omega)) (fun _ => n _ _ (by omega)), hS.fr hf (n _ _ (by omega)) (fun _ => n _ _ (by omega)) (fun _ => n _ _ (by omega)) (fun _ => n _ _ (by omega)), hX.fr hf (fun _ => n _ _ (by omega)) (n _ _ (by omega)) (n _ _ (by omega)), fun w a b g c d => by rw [hf _ _ (n _ _ (by omega))]; exact hW w a b g c d, by rw [hf _ _ (n _ _ (by omega))]; exact hL.1, fun r a b => by rw [hf _ _ (n _ _ (by omega))]; exact hL.2 r a b⟩
  have go2 : ∀ (n r : Nat) (m1 : vm_M) (w2 w3 w4 : Option vm_V), r + n = eQ D E → vfr vSy m m1 → (∀ j, j < r → vRr D E (eF D E j) (eF D E (j + 1)) j m1 ∧ vRp D E (eF D E j) (eF D E (j + 1)) m1) → ku3_renew_2 r w2 w3 w4 m1 Q := by
    intro n
    induction n with
    | zero =>
      intro r m1 w2 w3 w4 hr hf hv
      refine ru3_renew_2 ⟨fun _ => h m1 hf (fun j hj => hv j (by omega)), fun c => by rw [(hFr m1 hf).2.2.2.2.1] at c; omega⟩
    | succ n ih =>
      intro r m1 w2 w3 w4 hr hf hv
      obtain ⟨A1, S1, X1, W1, q8, q70⟩ := hFr m1 hf
      obtain ⟨b1, b2, b3⟩ := hq.2.2.2.1 r (by omega)
      have e1 := q70 r (by omega) (by omega)
      have e2 := q70 (r + 1) (by omega) (by omega)
      rw [show ((r + 1 : Nat) : Int) = (r : Int) + 1 by omega] at e2
      generalize hff : eF D E r = f at *
      generalize htt : eF D E (r + 1) = t at *
      have ft : f < t := by omega
      refine ru3_renew_2 ⟨fun c => by rw [q8] at c; omega, fun _ => sx_measure hD hO hE A1 X1 W1 (by omega) b1 ft b3 e1 e2 (fun m2 f2 R2 => ⟨by omega, ?_⟩)⟩
      rw [f2 70 _ (vSyr_n (by omega)), e1, R2.2.2.1]
      have hf2 := hf.tr (vSyr_y f2)
      have hv2 : ∀ j, j < r → vRr D E (eF D E j) (eF D E (j + 1)) j m2 ∧ vRp D E (eF D E j) (eF D E (j + 1)) m2 := by
        intro j hj
        obtain ⟨⟨a1, a2, a3, a4, a5⟩, a6⟩ := hv j hj
        have nr : ∀ k, vSyr r k j = false := fun k => vSyr_n (by omega)
        refine ⟨⟨by rw [f2 _ _ (nr _), a1], by rw [f2 _ _ (nr _), a2], by rw [f2 _ _ (nr _), a3], by rw [f2 _ _ (nr _), a4], by rw [f2 _ _ (nr _), a5]⟩, fun w x1 x2 => ⟨fun k y1 y2 => ?_, fun k y1 y2 => ?_⟩⟩
        · rw [f2 _ _ (vSyr_n (by omega))]; exact (a6 w x1 x2).1 k y1 y2
        · rw [f2 _ _ (vSyr_n (by omega))]; exact (a6 w x1 x2).2 k y1 y2
      have go38 : ∀ (k : Nat) (w : Int) (m3 : vm_M), f ≤ w → w + k = t → vfr vSy m m3 → vRr D E f t r m3 → (∀ j, j < r → vRr D E (eF D E j) (eF D E (j + 1)) j m3 ∧ vRp D E (eF D E j) (eF D E (j + 1)) m3) → (∀ x, f ≤ x → x < w → vRw D E (yG D E f t) (yp D E f t x) x m3) → ku3_renew_38 r f (yp D E f t w) w m3 Q := by
        intro k
        induction k with
        | zero =>
          intro w m3 hw1 hw2 hf3 R3 hv3 hu3
          obtain ⟨A3, S3, X3, W3, q83, q703⟩ := hFr m3 hf3
          have e3 := q703 (r + 1) (by omega) (by omega)
          rw [show ((r + 1 : Nat) : Int) = (r : Int) + 1 by omega, htt] at e3
          refine ru3_renew_38 ⟨by omega, fun _ => ⟨by omega, ?_⟩, fun c => by rw [e3] at c; omega⟩
          refine ih (r + 1) m3 _ _ _ (by omega) hf3 (fun j hj => ?_)
          rcases Nat.lt_or_ge j r with a | a
          · exact hv3 j a
          · have a : j = r := by omega
            subst a
            rw [hff, htt]
            exact ⟨R3, fun x x1 x2 => hu3 x x1 (by omega)⟩
        | succ k ihk =>
          intro w m3 hw1 hw2 hf3 R3 hv3 hu3
          obtain ⟨A3, S3, X3, W3, q83, q703⟩ := hFr m3 hf3
          have e3 := q703 (r + 1) (by omega) (by omega)
          rw [show ((r + 1 : Nat) : Int) = (r : Int) + 1 by omega, htt] at e3
          have hG := yG_bd (f := f) (t := t) hD hE
          have hG0 := hE.2.2.2.1
          have hwN : 0 ≤ w ∧ w < dN D := ⟨by omega, by omega⟩
          have hpb := yp_bd2 hD hO hE b1 ft b3 (w := w) ⟨hw1, by omega⟩
          have hzb := ywz_bd hD hO hE hwN hG.2
          have hub := yu_bd hD hO hE b1 ft b3 hwN
          have hps := yp_s (D := D) (E := E) (f := f) (t := t) (w := w) hwN.1
          refine ru3_renew_38 ⟨by omega, fun c => by rw [e3] at c; omega, fun _ => ⟨by omega, ?_⟩⟩
          rw [R3.1]
          refine sx_put hD hO hE A3 S3 X3 hwN ⟨by omega, hG.2⟩ (by omega) (fun m4 f4 P4 => ⟨by omega, ?_⟩)
          have hf4 := hf3.tr (vSyw_y f4)
          obtain ⟨A4, S4, X4, W4, q84, q704⟩ := hFr m4 hf4
          have R4 : vRr D E f t r m4 := ⟨by rw [f4 _ _ (vSyw_n (by omega))]; exact R3.1, by rw [f4 _ _ (vSyw_n (by omega))]; exact R3.2.1, by rw [f4 _ _ (vSyw_n (by omega))]; exact R3.2.2.1, by rw [f4 _ _ (vSyw_n (by omega))]; exact R3.2.2.2.1, by rw [f4 _ _ (vSyw_n (by omega))]; exact R3.2.2.2.2⟩
          rw [R4.1]
          refine sx_of hD hO W4 hwN ⟨by omega, hG.2⟩ ?_
          have e5 : m4 10 5 = E 5 := X4.2.2.2.2.2.1
          rw [e5]
          refine ⟨by omega, sx_space hD hO hE (by omega) b1 ft b3 R4 ?_⟩
          have eu : yp D E f t w + vww D (yG D E f t) w * E 5 + (yS D E f t + (if w - f < yX D E f t then 1 else 0)) = yp D E f t (w + 1) := by
            rw [hps]; unfold yu; omega
          rw [eu]
          refine ⟨by omega, ihk (w + 1) m4 (by omega) (by omega) hf4 R4 (fun j hj => ?_) (fun x x1 x2 => ?_)⟩
          · obtain ⟨⟨a1, a2, a3, a4, a5⟩, a6⟩ := hv3 j hj
            have hjr := eF_up hD hO hE (r := j + 1) (r - (j + 1)) (by omega)
            rw [show j + 1 + (r - (j + 1)) = r by omega, hff] at hjr
            refine ⟨⟨by rw [f4 _ _ (vSyw_n (by omega)), a1], by rw [f4 _ _ (vSyw_n (by omega)), a2], by rw [f4 _ _ (vSyw_n (by omega)), a3], by rw [f4 _ _ (vSyw_n (by omega)), a4], by rw [f4 _ _ (vSyw_n (by omega)), a5]⟩, fun x x1 x2 => ⟨fun k y1 y2 => ?_, fun k y1 y2 => ?_⟩⟩
            · have hl := hO.2.2.2.1 x (by have := (hq.2.2.2.1 j (by omega)).1; omega) (by omega)
              rw [f4 _ _ (vSyw_n (by omega))]; exact (a6 x x1 x2).1 k y1 y2
            · have hl := hO.2.2.2.1 x (by have := (hq.2.2.2.1 j (by omega)).1; omega) (by omega)
              rw [f4 _ _ (vSyw_n (by omega))]; exact (a6 x x1 x2).2 k y1 y2
          · by_cases hx : x = w
            · rw [hx]; exact P4
            · have hl := hO.2.2.2.1 x (by omega) (by omega)
              have old := hu3 x x1 (by omega)
              exact ⟨fun k y1 y2 => by rw [f4 _ _ (vSyw_n (by omega))]; exact old.1 k y1 y2, fun k y1 y2 => by rw [f4 _ _ (vSyw_n (by omega))]; exact old.2 k y1 y2⟩
      have := go38 (t - f).toNat f m2 (Int.le_refl _) (by omega) hf2 R2 hv2 (fun x x1 x2 => by omega)
      rw [yp_f] at this
      exact this
  exact ru3_renew_0 (go2 _ 0 m none none none (Nat.zero_add _) vfr.rf (fun j hj => by omega))
end XL
