/-! ===== questions with fractions ===== -/
noncomputable def ymz (D : vD) (E : Int → Int) (f t i : Int) : Int := vif (yn D f t i) (ygp D E f t i) 0
noncomputable def ymc (D : vD) (f t i : Int) : Int := vif (yn D f t i) 1 0
noncomputable def yms (D : vD) (E : Int → Int) (r : Int) : Int := vs (ymz D E (eF D E r.toNat) (eF D E (r.toNat + 1))) (vcl D (eF D E r.toNat) (eF D E (r.toNat + 1))).toNat
noncomputable def ymn (D : vD) (E : Int → Int) (r : Int) : Int := vs (ymc D (eF D E r.toNat) (eF D E (r.toNat + 1))) (vcl D (eF D E r.toNat) (eF D E (r.toNat + 1))).toNat
section QN
variable {D : vD} {E : Int → Int} {m m' : vm_M}
theorem qpairf {fx fm : Nat} {ax am : List vm_V} (c : CC D E m) (ans : UInt32) (hx : ∀ (Q : UInt32 → vm_M → Prop) (m : vm_M), XC D E m → (∀ m', vfr vSX m m' → XC D E m' → Q ans m') → vm_C fx ax m (vm_qf Q)) (hm : ∀ (Q : UInt32 → vm_M → Prop) (m : vm_M), MC D E m → (∀ m', vfr vSm m m' → Q ans m') → vm_C fm am m (vm_qf Q)) {G : UInt32 → UInt32 → vm_M → Prop} (h : ∀ m', vfr vSQ m m' → CC D E m' → G ans ans m') : vm_C fx ax m (vm_qf (fun z1 m1 => z1 = ans ∧ vP m m1 ∧ vm_C fm am m1 (vm_qf (fun z2 m2 => G z1 z2 m2)))) := by
  refine hx _ m c.2.1 (fun m1 f1 x1 => ?_)
  have c1 := c.2.2.fx f1
  refine ⟨rfl, fun k i a => f1 k i (vSX_n (by omega) (by omega)), ?_⟩
  refine hm _ m1 c1 (fun m2 f2 => ?_)
  exact h m2 ((vSX_Q f1).tr (vSm_Q f2)) ⟨c.1, x1.fm f2, c1.fm f2⟩
theorem qpaird {fx fm : Nat} {ax am : List vm_V} (c : CC D E m) (ans : UInt64) (hx : ∀ (Q : UInt64 → vm_M → Prop) (m : vm_M), XC D E m → (∀ m', vfr vSX m m' → XC D E m' → Q ans m') → vm_C fx ax m (vm_qd Q)) (hm : ∀ (Q : UInt64 → vm_M → Prop) (m : vm_M), MC D E m → (∀ m', vfr vSm m m' → Q ans m') → vm_C fm am m (vm_qd Q)) {G : UInt64 → UInt64 → vm_M → Prop} (h : ∀ m', vfr vSQ m m' → CC D E m' → G ans ans m') : vm_C fx ax m (vm_qd (fun z1 m1 => z1 = ans ∧ vP m m1 ∧ vm_C fm am m1 (vm_qd (fun z2 m2 => G z1 z2 m2)))) := by
  refine hx _ m c.2.1 (fun m1 f1 x1 => ?_)
  have c1 := c.2.2.fx f1
  refine ⟨rfl, fun k i a => f1 k i (vSX_n (by omega) (by omega)), ?_⟩
  refine hm _ m1 c1 (fun m2 f2 => ?_)
  exact h m2 ((vSX_Q f1).tr (vSm_Q f2)) ⟨c.1, x1.fm f2, c1.fm f2⟩
noncomputable def yfull (D : vD) (E : Int → Int) (row : Int) : UInt32 := vif (yv D E row) (FP.fdiv (FP.i2f (Int32.ofInt (yW D E (yf D E row) (yt D E row)))) (FP.i2f (Int32.ofInt (E 0)))) (UInt32.ofNat 3212836864)
theorem yfull_n (hO : OC D E) {row : Int} : FP.Core.val32 (yfull D E row) ≠ .nan := by
  unfold yfull
  by_cases q : yv D E row
  · rw [vif_t q]
    obtain ⟨a1, a2, a3, a4, a5⟩ := yv_ok hO q
    have hw := yW_bd hO.1 hO.2.1 hO.2.2 a1 a2 a3
    have he := hO.2.2.1
    exact fl_fdiv ⟨by omega, by omega⟩ ⟨by omega, by omega⟩
  · rw [vif_f q]
    decide +kernel
theorem q_full (c : CC D E m) {row : Int} {G : UInt32 → UInt32 → vm_M → Prop} (h : ∀ m', vfr vSQ m m' → CC D E m' → G (yfull D E row) (yfull D E row) m') : vm_C 150 [vm_r 0, vm_i row] m (vm_qf (fun z1 m1 => z1 = yfull D E row ∧ vP m m1 ∧ vm_C 282 [vm_r 96, vm_i row] m1 (vm_qf (fun z2 m2 => G z1 z2 m2)))) := by
  have hE := c.1.2.2.1
  refine qpairf c (yfull D E row) (fun Q m hX h => ?_) (fun Q m hM h => ?_) h
  · refine ru10_full_0 (sx_rowq c.1 hX (fun m' f x l k => ⟨fun _ => ?_, fun z => absurd (show ¬ (1 : Int) = 0 by decide) z⟩) (fun m' f x k => ⟨fun z => absurd rfl z, fun _ => ?_⟩))
    · replace h := h m' f x
      unfold yfull at h
      rw [vif_t k] at h
      obtain ⟨a1, a2, a3, a4, a5⟩ := yv_ok c.1 k
      have hw := yW_bd c.1.1 c.1.2.1 c.1.2.2 a1 a2 a3
      have hq := eQ_ok c.1.1 c.1.2.1 c.1.2.2
      have k2 := k.2
      have e79 : m' 79 (row.toNat : Int) = yW D E (yf D E row) (yt D E row) := (l.2.2.2 row.toNat (by omega)).1.2.1
      rw [a5] at e79
      have e10 : m' 10 0 = E 0 := x.2.2.1.1
      rw [e79, e10]
      exact ⟨⟨⟨k.1, by omega⟩, fl_n32 (fl_fdiv ⟨by omega, by omega⟩ ⟨by omega, by omega⟩)⟩, h⟩
    · replace h := h m' f x
      unfold yfull at h
      rw [vif_f k] at h
      exact h
  · refine ru11_full_0 (sm_rowAt c.1 hM (fun m' f hM' k e1 e2 R => ⟨fun z => by omega, fun _ => ?_⟩) (fun m' f k => ⟨fun _ => ?_, fun z => absurd rfl z⟩))
    · replace h := h m' f
      unfold yfull at h
      rw [vif_t k] at h
      obtain ⟨a1, a2, a3, a4, a5⟩ := yv_ok c.1 k
      have hw := yW_bd c.1.1 c.1.2.1 c.1.2.2 a1 a2 a3
      have e10 : m' 100 0 = E 0 := hM'.2.2.1
      rw [R.2.1, e10]
      exact ⟨fl_n32 (fl_fdiv ⟨by omega, by omega⟩ ⟨by omega, by omega⟩), h⟩
    · replace h := h m' f
      unfold yfull at h
      rw [vif_f k] at h
      exact h
theorem ymz_bd (hD : dOA D) {f t i : Int} : 0 ≤ ymz D E f t i ∧ ymz D E f t i ≤ 30 := by
  unfold ymz
  by_cases q : yn D f t i
  · rw [vif_t q]; exact ygp_bd hD
  · rw [vif_f q]; decide
theorem ymc_bd {f t i : Int} : 0 ≤ ymc D f t i ∧ ymc D f t i ≤ 1 := by
  unfold ymc
  by_cases q : yn D f t i
  · rw [vif_t q]; decide
  · rw [vif_f q]; decide
noncomputable def ymean (D : vD) (E : Int → Int) : UInt64 := vif (vs (ymn D E) (eQ D E) = 0) 0 (FP.ddiv (FP.i2d (Int32.ofInt (vs (yms D E) (eQ D E)))) (FP.i2d (Int32.ofInt (vs (ymn D E) (eQ D E)))))
theorem yms_bd (hO : OC D E) {k : Nat} (hk : k < eQ D E) : (0 ≤ yms D E k ∧ yms D E k ≤ 10800) ∧ (0 ≤ ymn D E k ∧ ymn D E k ≤ 360) := by
  have hq := eQ_ok hO.1 hO.2.1 hO.2.2
  obtain ⟨b1, b2, b3⟩ := hq.2.2.2.1 k hk
  have hc := vcl_bd2 hO.2.1 b1 (show eF D E k ≤ eF D E (k + 1) by omega) b3
  unfold yms ymn
  rw [Int.toNat_natCast]
  have h1 := vs_bd (f := ymz D E (eF D E k) (eF D E (k + 1))) (lo := 0) (hi := 30) (vcl D (eF D E k) (eF D E (k + 1))).toNat (fun i _ _ => ymz_bd hO.1)
  have h2 := vs_bd (f := ymc D (eF D E k) (eF D E (k + 1))) (lo := 0) (hi := 1) (vcl D (eF D E k) (eF D E (k + 1))).toNat (fun i _ _ => ymc_bd)
  omega
theorem ymt_bd (hO : OC D E) {k : Nat} (hk : k ≤ eQ D E) : (0 ≤ vs (yms D E) k ∧ vs (yms D E) k ≤ 129600) ∧ (0 ≤ vs (ymn D E) k ∧ vs (ymn D E) k ≤ 4320) := by
  have hq := eQ_ok hO.1 hO.2.1 hO.2.2
  have h1 := vs_bd (f := yms D E) (lo := 0) (hi := 10800) k (fun i a b => by
    obtain ⟨r, rfl⟩ : ∃ r : Nat, i = r := ⟨i.toNat, by omega⟩
    exact (yms_bd hO (by omega)).1)
  have h2 := vs_bd (f := ymn D E) (lo := 0) (hi := 360) k (fun i a b => by
    obtain ⟨r, rfl⟩ : ∃ r : Nat, i = r := ⟨i.toNat, by omega⟩
    exact (yms_bd hO (by omega)).2)
  omega
theorem ymean_n (hO : OC D E) : FP.Core.val64 (ymean D E) ≠ .nan := by
  unfold ymean
  have h := ymt_bd hO (Nat.le_refl _)
  by_cases q : vs (ymn D E) (eQ D E) = 0
  · rw [vif_t q]; decide +kernel
  · rw [vif_f q]; exact fl_ddiv ⟨by omega, by omega⟩ ⟨by omega, by omega⟩
theorem q_meanGap (c : CC D E m) {G : UInt64 → UInt64 → vm_M → Prop} (h : ∀ m', vfr vSQ m m' → CC D E m' → G (ymean D E) (ymean D E) m') : vm_C 151 [vm_r 0] m (vm_qd (fun z1 m1 => z1 = ymean D E ∧ vP m m1 ∧ vm_C 283 [vm_r 96] m1 (vm_qd (fun z2 m2 => G z1 z2 m2)))) := by
  have hO := c.1
  have hq := eQ_ok c.1.1 c.1.2.1 c.1.2.2
  have hT := ymt_bd hO (Nat.le_refl _)
  have lst : ∀ (Q : UInt64 → vm_M → Prop) (m : vm_M), Q (ymean D E) m → ((¬ vs (ymn D E) (eQ D E) = 0 → ((FP.ddiv (FP.i2d (Int32.ofInt (vs (yms D E) (eQ D E)))) (FP.i2d (Int32.ofInt (vs (ymn D E) (eQ D E))))) &&& 0x7fffffffffffffff ≤ 0x7ff0000000000000) ∧ Q (FP.ddiv (FP.i2d (Int32.ofInt (vs (yms D E) (eQ D E)))) (FP.i2d (Int32.ofInt (vs (ymn D E) (eQ D E))))) m) ∧ (¬ ¬ vs (ymn D E) (eQ D E) = 0 → Q 0 m)) := fun Q m h => by
    unfold ymean at h
    refine ⟨fun q => ?_, fun q => ?_⟩
    · rw [vif_f q] at h
      exact ⟨fl_n64 (fl_ddiv ⟨by omega, by omega⟩ ⟨by omega, by omega⟩), h⟩
    · rw [vif_t (Decidable.not_not.mp q)] at h
      exact h
  have es : ∀ k : Nat, vs (yms D E) (k + 1) = vs (yms D E) k + yms D E k := fun k => rfl
  have en : ∀ k : Nat, vs (ymn D E) (k + 1) = vs (ymn D E) k + ymn D E k := fun k => rfl
  refine qpaird c (ymean D E) (fun Q m hX h => ?_) (fun Q m hM h => ?_) h
  · refine ru10_meanGap_0 (sx_layOut c.1 hX (fun m' f x l _ => ?_))
    replace h := h m' f x
    have e8 : m' 67 8 = (eQ D E : Int) := l.2.2.1.1
    have go : ∀ (n k : Nat) (w4 w5 w6 : Option vm_V), k + n = eQ D E → ku10_meanGap_10 (vs (yms D E) k) (vs (ymn D E) k) k w4 w5 w6 m' Q := by
      intro n
      induction n with
      | zero =>
        intro k w4 w5 w6 hk
        obtain rfl : k = eQ D E := by omega
        exact ru10_meanGap_10 ⟨fun _ => lst Q m' h, fun z => by rw [e8] at z; omega⟩
      | succ n ih =>
        intro k w4 w5 w6 hk
        have kv : yv D E (k : Int) := ⟨by omega, by omega⟩
        obtain ⟨b1, b2, b3⟩ := hq.2.2.2.1 k (by omega)
        have R := vRx_of c.1 l kv
        unfold yf yt at R
        rw [Int.toNat_natCast] at R
        have hc := vcl_bd2 hO.2.1 b1 (show eF D E k ≤ eF D E (k + 1) by omega) b3
        have hb := ymt_bd hO (show k ≤ eQ D E by omega)
        have i1 := ih (k + 1)
        rw [es, en, show ((k + 1 : Nat) : Int) = (k : Int) + 1 by omega] at i1
        unfold yms ymn at i1
        rw [Int.toNat_natCast] at i1
        refine ru10_meanGap_10 ⟨fun z => by rw [e8] at z; omega, fun _ => sx_lettersIn hO.2.1 x.2.1 R.1 b1 (by omega) b3 R.2.1 R.2.2.1 ?_⟩
        generalize hf : eF D E k = ff at *
        generalize ht : eF D E (k + 1) = tt at *
        have go2 : ∀ (n2 j : Nat) (w6 : Option vm_V), (j : Int) + n2 = vcl D ff tt → ku10_meanGap_34 (vs (yms D E) k + vs (ymz D E ff tt) j) (vs (ymn D E) k + vs (ymc D ff tt) j) k (vcl D ff tt) j w6 m' Q := by
          intro n2
          induction n2 with
          | zero =>
            intro j w6 hj
            have e : (vcl D ff tt).toNat = j := by omega
            have i2 := i1 (some (vm_i (vcl D ff tt))) (some (vm_i (j : Int))) w6 (by omega)
            rw [e] at i2
            exact ru10_meanGap_34 ⟨fun _ => ⟨by omega, i2⟩, fun z => by omega⟩
          | succ n2 ih2 =>
            intro j w6 hj
            have b4 := vs_bd (f := ymz D E ff tt) (lo := 0) (hi := 30) j (fun i _ _ => ymz_bd hO.1)
            have b5 := vs_bd (f := ymc D ff tt) (lo := 0) (hi := 1) j (fun i _ _ => ymc_bd)
            have b6 := ygp_bd (D := D) (E := E) hO.1 (f := ff) (t := tt) (i := j)
            have i2 := ih2 (j + 1)
            have e1 : vs (ymz D E ff tt) (j + 1) = vs (ymz D E ff tt) j + ymz D E ff tt j := rfl
            have e2 : vs (ymc D ff tt) (j + 1) = vs (ymc D ff tt) j + ymc D ff tt j := rfl
            rw [e1, e2, show ((j + 1 : Nat) : Int) = (j : Int) + 1 by omega] at i2
            refine ru10_meanGap_34 ⟨fun z => by omega, fun _ => sx_gapB hO x.1 x.2.1 b1 (by omega) b3 R (i := (j : Int)) ⟨by omega, by omega⟩ ?_⟩
            unfold ymz ymc at i2
            unfold ygi
            by_cases q : yn D ff tt j
            · rw [vif_t q] at i2 ⊢
              rw [vif_t q] at i2
              refine ⟨fun z => by omega, fun _ => ⟨by omega, ?_⟩⟩
              have := i2 (some (vm_i (ygp D E ff tt j))) (by omega)
              rw [← Int.add_assoc, ← Int.add_assoc] at this
              exact this
            · rw [vif_f q] at i2 ⊢
              rw [vif_f q] at i2
              refine ⟨fun _ => ⟨by omega, ?_⟩, fun z => absurd rfl z⟩
              have := i2 (some (vm_i (-2))) (by omega)
              rw [Int.add_zero, Int.add_zero] at this
              exact this
        have := go2 (vcl D ff tt).toNat 0 w6 (by omega)
        have z1 : vs (ymz D E ff tt) 0 = 0 := rfl
        have z2 : vs (ymc D ff tt) 0 = 0 := rfl
        rw [z1, z2, Int.add_zero, Int.add_zero] at this
        exact this
    exact go _ 0 none none none (Nat.zero_add _)
  · refine ru11_meanGap_0 (sm_laysRows c.1.1 c.1.2.1 c.1.2.2 hM.1 hM.2.1 hM.2.2 (fun m1 f1 p1 l1 => ?_))
    have f1' := vSl_m f1
    have go : ∀ (n k : Nat) (w4 : Option vm_V) (m2 : vm_M), k + n = eQ D E → vfr vSm m m2 → vLm (bR (eB D E)) (E 6) m2 → ku11_meanGap_10 (vs (yms D E) k) (vs (ymn D E) k) k w4 m2 Q := by
      intro n
      induction n with
      | zero =>
        intro k w4 m2 hk f2 l2
        have e14 : m2 96 14 = (eQ D E : Int) := l2.1
        obtain rfl : k = eQ D E := by omega
        exact ru11_meanGap_10 ⟨fun _ => lst Q m2 (h m2 f2), fun z => by rw [e14] at z; omega⟩
      | succ n ih =>
        intro k w4 m2 hk f2 l2
        have e14 : m2 96 14 = (eQ D E : Int) := l2.1
        have e1 : m2 105 (k : Int) = eF D E k := l2.2 k (by unfold eQ at hk; omega) (by unfold eQ at hk; omega)
        have e2 : m2 105 ((k + 1 : Nat) : Int) = eF D E (k + 1) := l2.2 (k + 1) (by unfold eQ at hk; omega) (by unfold eQ at hk; omega)
        obtain ⟨b1, b2, b3⟩ := hq.2.2.2.1 k (by omega)
        have hc := vcl_bd2 hO.2.1 b1 (show eF D E k ≤ eF D E (k + 1) by omega) b3
        have hb := ymt_bd hO (show k ≤ eQ D E by omega)
        refine ru11_meanGap_10 ⟨fun z => by rw [e14] at z; omega, fun _ => sm_laysRow c.1 (hM.fm f2) (by omega) b1 (by omega) b3 e1 e2 (fun m3 f3 r3 => ?_)⟩
        have l3 : vLm (bR (eB D E)) (E 6) m3 := ⟨by rw [f3 _ _ (vSmr_n (by omega) (by omega)), l2.1], fun r a b => by rw [f3 _ _ (vSmr_n (by omega) (by omega))]; exact l2.2 r a b⟩
        have M3 := (hM.fm f2).fmr f3
        have i1 := fun w4 => ih (k + 1) w4 m3 (by omega) (f2.tr (vSmr_m f3)) l3
        rw [es, en, show ((k + 1 : Nat) : Int) = (k : Int) + 1 by omega] at i1
        unfold yms ymn at i1
        rw [Int.toNat_natCast] at i1
        generalize hf : eF D E k = ff at *
        generalize ht : eF D E (k + 1) = tt at *
        have e22 : m3 96 22 = vcl D ff tt := r3.2.2.2.2.2.1
        have go2 : ∀ (n2 j : Nat), (j : Int) + n2 = vcl D ff tt → ku11_meanGap_26 (vs (yms D E) k + vs (ymz D E ff tt) j) (vs (ymn D E) k + vs (ymc D ff tt) j) k j m3 Q := by
          intro n2
          induction n2 with
          | zero =>
            intro j hj
            have e : (vcl D ff tt).toNat = j := by omega
            have i2 := i1 (some (vm_i (j : Int)))
            rw [e] at i2
            exact ru11_meanGap_26 ⟨fun _ => ⟨by omega, i2⟩, fun z => by rw [e22] at z; omega⟩
          | succ n2 ih2 =>
            intro j hj
            have b4 := vs_bd (f := ymz D E ff tt) (lo := 0) (hi := 30) j (fun i _ _ => ymz_bd hO.1)
            have b5 := vs_bd (f := ymc D ff tt) (lo := 0) (hi := 1) j (fun i _ _ => ymc_bd)
            have b6 := ygp_bd (D := D) (E := E) hO.1 (f := ff) (t := tt) (i := j)
            have i2 := ih2 (j + 1) (by omega)
            have e1 : vs (ymz D E ff tt) (j + 1) = vs (ymz D E ff tt) j + ymz D E ff tt j := rfl
            have e2 : vs (ymc D ff tt) (j + 1) = vs (ymc D ff tt) j + ymc D ff tt j := rfl
            rw [e1, e2, show ((j + 1 : Nat) : Int) = (j : Int) + 1 by omega] at i2
            unfold ymz ymc at i2
            refine ru11_meanGap_26 ⟨fun z => by rw [e22] at z; omega, fun _ => sm_hasNext hO b1 (by omega) b3 r3 (by omega) (fun q => ⟨fun z => by omega, fun _ => ?_⟩) (fun q => ⟨fun _ => ⟨by omega, ?_⟩, fun z => absurd rfl z⟩)⟩
            · refine sm_gapB hO M3 b1 (by omega) b3 r3 (by omega) q ⟨by omega, sm_hasNext hO b1 (by omega) b3 r3 (by omega) (fun _ => ⟨fun z => by omega, fun _ => ⟨by omega, ?_⟩⟩) (fun x => absurd q x)⟩
              rw [vif_t q, vif_t q, ← Int.add_assoc, ← Int.add_assoc] at i2
              exact i2
            · refine sm_hasNext hO b1 (by omega) b3 r3 (by omega) (fun x => absurd x q) (fun _ => ⟨fun _ => ⟨by omega, ?_⟩, fun z => absurd rfl z⟩)
              rw [vif_f q, vif_f q, ← Int.add_assoc, ← Int.add_assoc] at i2
              exact i2
        have := go2 (vcl D ff tt).toNat 0 (by omega)
        have z1 : vs (ymz D E ff tt) 0 = 0 := rfl
        have z2 : vs (ymc D ff tt) 0 = 0 := rfl
        rw [z1, z2, Int.add_zero, Int.add_zero] at this
        exact this
    exact go _ 0 none m1 (Nat.zero_add _) f1' l1
end QN
