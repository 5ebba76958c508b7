/-! ===== questions with fractions ===== -/
noncomputable def ymz (D : vD) (E : Int → Int) (f t i : Int) : Int := vif (yn D f t i) (ygp D E f t i) 0
noncomputable def ymc (D : vD) (f t i : Int) : Int := vif (yn D f t i) 1 0
noncomputable def yms (D : vD) (E : Int → Int) (r : Int) : Int := vs (ymz D E (eF D E r.toNat) (eF D E (r.toNat + 1))) (vcl D (eF D E r.toNat) (eF D E (r.toNat + 1))).toNat
noncomputable def ymn (D : vD) (E : Int → Int) (r : Int) : Int := vs (ymc D (eF D E r.toNat) (eF D E (r.toNat + 1))) (vcl D (eF D E r.toNat) (eF D E (r.toNat + 1))).toNat
section QN
variable {D : vD} {E : Int → Int} {m m' : vm_M}
noncomputable def yfull (D : vD) (E : Int → Int) (row : Int) : UInt32 := vif (yv D E row) (FP.fdiv (FP.i2f (Int32.ofInt (yW D E (yf D E row) (yt D E row)))) (FP.i2f (Int32.ofInt (E 0)))) (UInt32.ofNat 3212836864)
theorem yfull_n (hO : OC D E) {row : Int} : FP.Core.val32 (yfull D E row) ≠ .nan := by
  unfold yfull
  by_cases q : yv D E row
  · rw [vif_t q]
    obtain ⟨a1, a2, a3, a4, a5⟩ := yv_ok hO q
    have hw := yW_bd hO.1 hO.2.1 hO.2.2 a1 a2 a3
    have he := hO.2.2.1
    exact fl_fdiv ⟨by omega, by omega⟩ ⟨by omega, by omega⟩
  · rw [vif_f q]
    decide +kernel
theorem s_full (c : OC D E) (hX : XC D E m) {row : Int} {Q : UInt32 → vm_M → Prop} (h : ∀ m', vfr vSX m m' → XC D E m' → Q (yfull D E row) m') : vm_C 150 [vm_r 0, vm_i row] m (vm_qf Q) := by
  have hE := c.2.2.1
  refine ru10_full_0 (sx_rowq c hX (fun m' f x l k => ⟨fun _ => ?_, fun z => absurd (show ¬ (1 : Int) = 0 by decide) z⟩) (fun m' f x k => ⟨fun z => absurd rfl z, fun _ => ?_⟩))
  · replace h := h m' f x
    unfold yfull at h
    rw [vif_t k] at h
    obtain ⟨a1, a2, a3, a4, a5⟩ := yv_ok c k
    have hw := yW_bd c.1 c.2.1 c.2.2 a1 a2 a3
    have hq := eQ_ok c.1 c.2.1 c.2.2
    have k2 := k.2
    have e79 : m' 79 (row.toNat : Int) = yW D E (yf D E row) (yt D E row) := (l.2.2.2 row.toNat (by omega)).1.2.1
    rw [a5] at e79
    have e10 : m' 10 0 = E 0 := x.2.2.1.1
    rw [e79, e10]
    exact ⟨⟨⟨k.1, by omega⟩, fl_n32 (fl_fdiv ⟨by omega, by omega⟩ ⟨by omega, by omega⟩)⟩, h⟩
  · replace h := h m' f x
    unfold yfull at h
    rw [vif_f k] at h
    exact h
theorem ymz_bd (hD : dOA D) {f t i : Int} : 0 ≤ ymz D E f t i ∧ ymz D E f t i ≤ 30 := by
  unfold ymz
  by_cases q : yn D f t i
  · rw [vif_t q]; exact ygp_bd hD
  · rw [vif_f q]; decide
theorem ymc_bd {f t i : Int} : 0 ≤ ymc D f t i ∧ ymc D f t i ≤ 1 := by
  unfold ymc
  by_cases q : yn D f t i
  · rw [vif_t q]; decide
  · rw [vif_f q]; decide
noncomputable def ymean (D : vD) (E : Int → Int) : UInt64 := vif (vs (ymn D E) (eQ D E) = 0) 0 (FP.ddiv (FP.i2d (Int32.ofInt (vs (yms D E) (eQ D E)))) (FP.i2d (Int32.ofInt (vs (ymn D E) (eQ D E)))))
theorem yms_bd (hO : OC D E) {k : Nat} (hk : k < eQ D E) : (0 ≤ yms D E k ∧ yms D E k ≤ 10800) ∧ (0 ≤ ymn D E k ∧ ymn D E k ≤ 360) := by
  have hq := eQ_ok hO.1 hO.2.1 hO.2.2
  obtain ⟨b1, b2, b3⟩ := hq.2.2.2.1 k hk
  have hc := vcl_bd2 hO.2.1 b1 (show eF D E k ≤ eF D E (k + 1) by omega) b3
  unfold yms ymn
  rw [Int.toNat_natCast]
  have h1 := vs_bd (f := ymz D E (eF D E k) (eF D E (k + 1))) (lo := 0) (hi := 30) (vcl D (eF D E k) (eF D E (k + 1))).toNat (fun i _ _ => ymz_bd hO.1)
  have h2 := vs_bd (f := ymc D (eF D E k) (eF D E (k + 1))) (lo := 0) (hi := 1) (vcl D (eF D E k) (eF D E (k + 1))).toNat (fun i _ _ => ymc_bd)
  omega
theorem ymt_bd (hO : OC D E) {k : Nat} (hk : k ≤ eQ D E) : (0 ≤ vs (yms D E) k ∧ vs (yms D E) k ≤ 129600) ∧ (0 ≤ vs (ymn D E) k ∧ vs (ymn D E) k ≤ 4320) := by
  have hq := eQ_ok hO.1 hO.2.1 hO.2.2
  have h1 := vs_bd (f := yms D E) (lo := 0) (hi := 10800) k (fun i a b => by
    obtain ⟨r, rfl⟩ : ∃ r : Nat, i = r := ⟨i.toNat, by omega⟩
    exact (yms_bd hO (by omega)).1)
  have h2 := vs_bd (f := ymn D E) (lo := 0) (hi := 360) k (fun i a b => by
    obtain ⟨r, rfl⟩ : ∃ r : Nat, i = r := ⟨i.toNat, by omega⟩
    exact (yms_bd hO (by omega)).2)
  omega
theorem ymean_n (hO : OC D E) : FP.Core.val64 (ymean D E) ≠ .nan := by
  unfold ymean
  have h := ymt_bd hO (Nat.le_refl _)
  by_cases q : vs (ymn D E) (eQ D E) = 0
  · rw [vif_t q]; decide +kernel
  · rw [vif_f q]; exact fl_ddiv ⟨by omega, by omega⟩ ⟨by omega, by omega⟩
theorem s_meanGap (c : OC D E) (hX : XC D E m) {Q : UInt64 → vm_M → Prop} (h : ∀ m', vfr vSX m m' → XC D E m' → Q (ymean D E) m') : vm_C 151 [vm_r 0] m (vm_qd Q) := by
  have hO := c
  have hq := eQ_ok c.1 c.2.1 c.2.2
  have hT := ymt_bd hO (Nat.le_refl _)
  have lst : ∀ (Q : UInt64 → vm_M → Prop) (m : vm_M), Q (ymean D E) m → ((¬ vs (ymn D E) (eQ D E) = 0 → ((FP.ddiv (FP.i2d (Int32.ofInt (vs (yms D E) (eQ D E)))) (FP.i2d (Int32.ofInt (vs (ymn D E) (eQ D E))))) &&& 0x7fffffffffffffff ≤ 0x7ff0000000000000) ∧ Q (FP.ddiv (FP.i2d (Int32.ofInt (vs (yms D E) (eQ D E)))) (FP.i2d (Int32.ofInt (vs (ymn D E) (eQ D E))))) m) ∧ (¬ ¬ vs (ymn D E) (eQ D E) = 0 → Q 0 m)) := fun Q m h => by
    unfold ymean at h
    refine ⟨fun q => ?_, fun q => ?_⟩
    · rw [vif_f q] at h
      exact ⟨fl_n64 (fl_ddiv ⟨by omega, by omega⟩ ⟨by omega, by omega⟩), h⟩
    · rw [vif_t (Decidable.not_not.mp q)] at h
      exact h
  have es : ∀ k : Nat, vs (yms D E) (k + 1) = vs (yms D E) k + yms D E k := fun k => rfl
  have en : ∀ k : Nat, vs (ymn D E) (k + 1) = vs (ymn D E) k + ymn D E k := fun k => rfl
  refine ru10_meanGap_0 (sx_layOut c hX (fun m' f x l _ => ?_))
  replace h := h m' f x
  have e8 : m' 67 8 = (eQ D E : Int) := l.2.2.1.1
  have go : ∀ (n k : Nat) (w4 w5 w6 : Option vm_V), k + n = eQ D E → ku10_meanGap_10 (vs (yms D E) k) (vs (ymn D E) k) k w4 w5 w6 m' Q := by
    intro n
    induction n with
    | zero =>
      intro k w4 w5 w6 hk
      obtain rfl : k = eQ D E := by omega
      exact ru10_meanGap_10 ⟨fun _ => lst Q m' h, fun z => by rw [e8] at z; omega⟩
    | succ n ih =>
      intro k w4 w5 w6 hk
      have kv : yv D E (k : Int) := ⟨by omega, by omega⟩
      obtain ⟨b1, b2, b3⟩ := hq.2.2.2.1 k (by omega)
      have R := vRx_of c l kv
      unfold yf yt at R
      rw [Int.toNat_natCast] at R
      have hc := vcl_bd2 hO.2.1 b1 (show eF D E k ≤ eF D E (k + 1) by omega) b3
      have hb := ymt_bd hO (show k ≤ eQ D E by omega)
      have i1 := ih (k + 1)
      rw [es, en, show ((k + 1 : Nat) : Int) = (k : Int) + 1 by omega] at i1
      unfold yms ymn at i1
      rw [Int.toNat_natCast] at i1
      refine ru10_meanGap_10 ⟨fun z => by rw [e8] at z; omega, fun _ => sx_lettersIn hO.2.1 x.2.1 R.1 b1 (by omega) b3 R.2.1 R.2.2.1 ?_⟩
      generalize hf : eF D E k = ff at *
      generalize ht : eF D E (k + 1) = tt at *
      have go2 : ∀ (n2 j : Nat) (w6 : Option vm_V), (j : Int) + n2 = vcl D ff tt → ku10_meanGap_34 (vs (yms D E) k + vs (ymz D E ff tt) j) (vs (ymn D E) k + vs (ymc D ff tt) j) k (vcl D ff tt) j w6 m' Q := by
        intro n2
        induction n2 with
        | zero =>
          intro j w6 hj
          have e : (vcl D ff tt).toNat = j := by omega
          have i2 := i1 (some (vm_i (vcl D ff tt))) (some (vm_i (j : Int))) w6 (by omega)
          rw [e] at i2
          exact ru10_meanGap_34 ⟨fun _ => ⟨by omega, i2⟩, fun z => by omega⟩
        | succ n2 ih2 =>
          intro j w6 hj
          have b4 := vs_bd (f := ymz D E ff tt) (lo := 0) (hi := 30) j (fun i _ _ => ymz_bd hO.1)
          have b5 := vs_bd (f := ymc D ff tt) (lo := 0) (hi := 1) j (fun i _ _ => ymc_bd)
          have b6 := ygp_bd (D := D) (E := E) hO.1 (f := ff) (t := tt) (i := j)
          have i2 := ih2 (j + 1)
          have e1 : vs (ymz D E ff tt) (j + 1) = vs (ymz D E ff tt) j + ymz D E ff tt j := rfl
          have e2 : vs (ymc D ff tt) (j + 1) = vs (ymc D ff tt) j + ymc D ff tt j := rfl
          rw [e1, e2, show ((j + 1 : Nat) : Int) = (j : Int) + 1 by omega] at i2
          refine ru10_meanGap_34 ⟨fun z => by omega, fun _ => sx_gapB hO x.1 x.2.1 b1 (by omega) b3 R (i := (j : Int)) ⟨by omega, by omega⟩ ?_⟩
          unfold ymz ymc at i2
          unfold ygi
          by_cases q : yn D ff tt j
          · rw [vif_t q] at i2 ⊢
            rw [vif_t q] at i2
            refine ⟨fun z => by omega, fun _ => ⟨by omega, ?_⟩⟩
            have := i2 (some (vm_i (ygp D E ff tt j))) (by omega)
            rw [← Int.add_assoc, ← Int.add_assoc] at this
            exact this
          · rw [vif_f q] at i2 ⊢
            rw [vif_f q] at i2
            refine ⟨fun _ => ⟨by omega, ?_⟩, fun z => absurd rfl z⟩
            have := i2 (some (vm_i (-2))) (by omega)
            rw [Int.add_zero, Int.add_zero] at this
            exact this
      have := go2 (vcl D ff tt).toNat 0 w6 (by omega)
      have z1 : vs (ymz D E ff tt) 0 = 0 := rfl
      have z2 : vs (ymc D ff tt) 0 = 0 := rfl
      rw [z1, z2, Int.add_zero, Int.add_zero] at this
      exact this
  exact go _ 0 none none none (Nat.zero_add _)
end QN
