/-! ===== what stands in the rows: the method ===== -/
def lS1 (D : vD) (E : Int → Int) (z : vZs) (o : Nat) (S0 S : lwS) : Prop := lO D E z o S ∧ lsame o S0 S
theorem lS1.nx {D : vD} {E : Int → Int} {z : vZs} {o : Nat} {S0 S S' : lwS} (h : lS1 D E z o S0 S) (hs : lsame o S S') (hO : lO D E z o S') : lS1 D E z o S0 S' := ⟨hO, h.2.tr hs⟩
section LST
variable {D : vD} {E : Int → Int} {z : vZs} {o : Nat}
theorem lst_least (hO : OC D E) (hQ : 0 < eQ D E) : a_leastCost D E = kK (bR (eB D E)) 12 0 ∧ 0 ≤ a_leastCost D E ∧ a_leastCost D E ≤ a_cost D E ∧ (E 6 = 1 → a_cost D E = a_leastCost D E) := by
  have hR := bR_ok (eB_ok hO.1 hO.2.1 hO.2.2)
  have h1 := least_le hR (how := E 6) hQ
  have h2 := (kK_bd hR 12 0 (Int.le_refl _) hR.1).1
  have ec : a_cost D E = bcost (bR (eB D E)) (E 6) := by unfold a_cost; rw [if_neg (by omega)]
  have hb := bcost_bd hR (E 6) (bQ (bR (eB D E)) (E 6) - 1) (by omega)
  have hb : bcost (bR (eB D E)) (E 6) ≤ 99960004 * 12 := hb.2
  have el : a_leastCost D E = kK (bR (eB D E)) 12 0 := by
    unfold a_leastCost
    rw [if_neg (fun c => by have := (eQ_ok hO.1 hO.2.1 hO.2.2).2.2.2.2 c; omega), if_pos (by omega)]
  refine ⟨el, by omega, by omega, fun h6 => ?_⟩
  rw [ec, el, h6]
  have hQ : 0 < bQ (bR (eB D E)) (E 6) := hQ
  rw [h6] at hQ
  exact (least_is hR hQ).1.symm
theorem lst_end {S S2 : lwS} {Qp : Option vm_V → lwS → Prop} (hQ : 0 < eQ D E) (h2 : lS1 D E z o S S2) (kk : ∀ S', lS1 D E z o S S' → Qp (some (vm_i 1)) S') {v : Int} (hv : lfw D E (eQ D E) v) : lG lK_stands 885 [some (vm_r (o)), some (vm_i ((eQ D E : Nat))), some (vm_i (eF D E (eQ D E))), some (vm_i (lht E (eQ D E))), none, some (vm_i (v)), some (vm_i (1)), some (vm_l (lco D E (eQ D E))), none, some (vm_d (FP.i2d (Int32.ofInt (vs (yms D E) (eQ D E))))), none, some (vm_i (vs (ymn D E) (eQ D E))), none, none, none, none, none, none, none, none, none, none, none, none] [] S2 Qp := by
  have hOC := h2.1.1
  obtain ⟨hD, hS, hE⟩ := hOC
  have hOC := h2.1.1
  have q := eQ_ok hD hS hE
  obtain ⟨l1, l2, l3, l4⟩ := lst_least hOC hQ
  have e7 : a_value D E 7 = E 6 := rfl
  have e1 : a_value D E 1 = E 1 := rfl
  have e11 : a_value D E 11 = dN D := rfl
  have f1008 : ∀ S3, lS1 D E z o S S3 → lG lK_stands 1008 [some (vm_r (o)), some (vm_i ((eQ D E : Nat))), none, none, none, none, none, none, none, none, none, none, none, none, none, none, none, none, none, none, none, none, none, none] [] S3 Qp := fun S3 h3 => by
    refine rL_stands_1008 (lq_value h3.1 (fun S4 hs4 hO4 => ⟨fun _ => kk S4 (h3.nx hs4 hO4), fun _ => ⟨fun c => absurd c (by omega), fun _ => lq_leastCost hO4 (fun S5 hs5 hO5 => lq_cost hO5 (fun S6 hs6 hO6 => ⟨fun c => absurd c (by omega), fun _ => lq_leastCost hO6 (fun S7 hs7 hO7 => ⟨fun c => absurd c (by omega), fun _ => kk S7 ((((h3.nx hs4 hO4).nx hs5 hO5).nx hs6 hO6).nx hs7 hO7)⟩)⟩))⟩⟩))
  have f980 : ∀ S3, lS1 D E z o S S3 → lG lK_stands 980 [some (vm_r (o)), some (vm_i ((eQ D E : Nat))), none, none, none, none, none, none, none, none, none, none, none, none, none, none, none, none, none, none, none, none, none, none] [vm_d (a_meanGap D E), vm_d (a_meanGap D E)] S3 Qp := fun S3 h3 => by
    have ec : FP.dcmp (a_meanGap D E) (a_meanGap D E) = some .eq := FP.Core.dcmp_self (ymean_n hOC)
    refine rL_stands_980 ⟨fun c => absurd ?_ c, fun _ => lq_value h3.1 (fun S4 hs4 hO4 => ⟨fun _ => f1008 S4 (h3.nx hs4 hO4), fun n0 => ⟨fun c => absurd c (by omega), fun _ => lq_cost hO4 (fun S5 hs5 hO5 => lq_leastCost hO5 (fun S6 hs6 hO6 => ⟨fun c => absurd (l4 ?_) c, fun _ => f1008 S6 (((h3.nx hs4 hO4).nx hs5 hO5).nx hs6 hO6)⟩))⟩⟩)⟩
    · rw [ec]; decide
    · rw [e7] at n0
      have := hE.2.2.2.2.2.2.1
      omega
  have mt := ymt_bd hOC (Nat.le_refl (eQ D E))
  have f958 : ∀ S3, lS1 D E z o S S3 → lG lK_stands 958 [some (vm_r (o)), some (vm_i ((eQ D E : Nat))), none, none, none, none, none, none, none, some (vm_d (FP.i2d (Int32.ofInt (vs (yms D E) (eQ D E))))), none, some (vm_i (vs (ymn D E) (eQ D E))), none, none, none, none, none, none, none, none, none, none, none, none] [vm_i (vm_w32 (lco D E (eQ D E))), vm_i (a_cost D E)] S3 Qp := fun S3 h3 => by
    have lb := lco_bd hOC (eQ D E)
    rw [vm_w32_of ⟨by omega, by omega⟩, ← lco_a hQ]
    have em : a_meanGap D E = vif (vs (ymn D E) (eQ D E) = 0) 0 (FP.ddiv (FP.i2d (Int32.ofInt (vs (yms D E) (eQ D E)))) (FP.i2d (Int32.ofInt (vs (ymn D E) (eQ D E))))) := rfl
    refine rL_stands_958 ⟨fun c => absurd rfl c, fun _ => lq_meanGap h3.1 (fun S4 hs4 hO4 => ⟨fun n0 => ⟨fl_n64 (fl_ddiv ⟨by omega, by omega⟩ ⟨by omega, by omega⟩), ?_⟩, fun n0 => ?_⟩)⟩
    · have := f980 S4 (h3.nx hs4 hO4)
      rw [em, vif_f n0] at this ⊢
      exact this
    · have := f980 S4 (h3.nx hs4 hO4)
      rw [em, vif_t (Decidable.not_not.mp n0)] at this ⊢
      exact this
  have f904 : ∀ S3 (x : Int), x = a_fits D E → lS1 D E z o S S3 → lG lK_stands 904 [some (vm_r (o)), some (vm_i ((eQ D E : Nat))), some (vm_i (eF D E (eQ D E))), some (vm_i (lht E (eQ D E))), none, none, some (vm_i (1)), some (vm_l (lco D E (eQ D E))), none, some (vm_d (FP.i2d (Int32.ofInt (vs (yms D E) (eQ D E))))), none, some (vm_i (vs (ymn D E) (eQ D E))), none, none, none, none, none, none, none, none, none, none, none, none] [vm_i x] S3 Qp := fun S3 x hx h3 => by
    refine rL_stands_904 ⟨fun c => absurd c (by decide), fun _ => ⟨fun c => absurd c (by omega), fun _ => lq_value h3.1 (fun S4 hs4 hO4 => ⟨fun c => absurd (q.2.2.1 hQ) c, fun _ => rL_stands_925 (lq_height hO4 (fun S5 hs5 hO5 => ⟨fun c => absurd (lht_a hQ) c, fun _ => lq_fits hO5 (fun S6 hs6 hO6 => ⟨fun c => absurd hx.symm c, fun _ => lq_cost hO6 (fun S7 hs7 hO7 => ⟨fun _ => f958 S7 ((((h3.nx hs4 hO4).nx hs5 hO5).nx hs6 hO6).nx hs7 hO7), fun c => absurd c (fun c => c (by omega))⟩)⟩)⟩))⟩)⟩⟩
  have ef := lfw_e hQ hv
  refine rL_stands_885 ⟨fun v0 => f904 S2 0 (by rw [ef, if_pos v0]) h2, fun v1 => lq_value h2.1 (fun S3 hs3 hO3 => ?_)⟩
  rw [e1]
  rw [if_neg v1] at ef
  exact ⟨fun lt => f904 S3 0 (by rw [ef, if_pos lt]) (h2.nx hs3 hO3), fun lt => f904 S3 1 (by rw [ef, if_neg lt]) (h2.nx hs3 hO3)⟩
end LST
