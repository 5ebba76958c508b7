/-! ===== the model's next token ===== -/
section TN
variable {D : vD} {E : Int → Int} {z : vZs} {m m' : vm_M}
/-- kinds that are no run of letters -/
theorem TKm_mk {p F e c kd : Int} (h27 : m 96 27 = F) (h26 : m 96 26 = e) (h28 : m 96 28 = c) (hF : tF (zb z) (zn z) p = F) (he : tE0 (zb z) (zn z) p = e) (hk : tKd (zb z) (zn z) p = kd) (hc : (kd = 0 ∧ c = 0) ∨ (kd = 2 ∧ c = 3) ∨ (kd = 3 ∧ c = 4) ∨ (kd = 4 ∧ c = 5)) (hn : c = 3 → m 96 30 = tN (zb z) (zn z) p) : TKm z p m := by
  refine ⟨by rw [h27, hF], by rw [h26, he], ?_, ?_, ?_, ?_, ?_, ?_, ?_⟩
  · rw [h28, hk]; omega
  · rw [h28, hk]; exact ⟨fun x => (by omega : False).elim, fun x => (by have := x.1; omega : False).elim⟩
  · rw [h28, hk]; omega
  · rw [h28, hk]; omega
  · rw [h28, hk]; omega
  · rw [h28]; exact fun x => (by omega : False).elim
  · rw [h28]; exact hn
theorem sm_next {Q : vm_M → Prop} (hZ : ZO D z) (hT : MT z m) {p : Int} (hp : 0 ≤ p ∧ p ≤ zn z) (h26 : m 96 26 = p) (h : ∀ m', vfr vTo m m' → TKm z p m' → Q m') : vm_C 202 [vm_r 96] m (vm_qv Q) := by
  have hN := hZ.1
  have hb := hZ.2.1
  have hf := tf_bd (b := zb z) (n := zn z) (zn z - p).toNat p (by omega)
  have ef : tF (zb z) (zn z) p = tf (zb z) (zn z) (zn z - p).toNat p := rfl
  have htk := tok_bd hp hb
  have fT : ∀ m2, vfr vTo m m2 → MT z m2 := fun m2 f => hT.fr f (fun _ => rfl) rfl
  generalize hF : tF (zb z) (zn z) p = F at *
  have k0 : tK0 (zb z) (zn z) p = tkd (tb (zb z) (zn z) F) := by unfold tK0; rw [hF]
  have go : ∀ (k : Nat) (q : Int) (m2 : vm_M), 0 ≤ q → q + k = zn z → vfr vTo m m2 → m2 96 26 = q → tf (zb z) (zn z) k q = F → vm_C 202 [vm_r 96] m2 (vm_qv Q) := by
    intro k
    induction k with
    | zero =>
      intro q m2 hq hk f2 g26 hr
      have hr : q = F := hr
      have T2 := fT m2 f2
      have eK : tK0 (zb z) (zn z) p = 0 := by
        rw [k0]; unfold tb; rw [if_neg (by omega)]; rfl
      have eE : tE0 (zb z) (zn z) p = F := by unfold tE0; rw [hF, if_neg (by omega)]
      have eD : tKd (zb z) (zn z) p = 0 := by unfold tKd; rw [eK, if_neg (by omega)]
      refine ru11_next_0 (sm_whiteAt hZ T2 g26 hq (fun x _ => by omega) (fun _ => ⟨fun _ => ?_, fun x => absurd rfl x⟩))
      have e1 : vm_st m2 96 27 (m2 96 26) 96 26 = q := by rw [vst_i (by decide)]; exact g26
      have e2 : vm_st m2 96 27 (m2 96 26) 96 1 = zn z := by rw [vst_i (by decide)]; exact T2.1
      rw [e1, e2]
      refine ⟨fun x => by omega, fun _ => h _ ((f2.st rfl).st rfl) (TKm_mk (F := F) (e := F) (c := 0) (kd := 0) ?_ ?_ (vst_s _ _ _ _) hF eE eD (Or.inl ⟨rfl, rfl⟩) (fun x => by omega))⟩
      · rw [vst_i (by decide), vst_s, g26, hr]
      · rw [vst_i (by decide), e1, hr]
    | succ k ih =>
      intro q m2 hq hk f2 g26 hr
      have T2 := fT m2 f2
      have hbq := hb q hq (by omega)
      unfold tf at hr
      refine ru11_next_0 (sm_whiteAt hZ T2 g26 hq (fun _ w => ⟨fun x => by omega, fun _ => ?_⟩) (fun w => ⟨fun _ => ?_, fun x => absurd rfl x⟩))
      · rw [if_pos w] at hr
        rw [g26]
        exact ⟨by omega, ih (q + 1) _ (by omega) (by omega) (f2.st rfl) (vst_s _ _ _ _) hr⟩
      · have w2 : ¬ (zb z q = 32 ∨ zb z q = 10) := fun x => w ⟨by omega, x⟩
        rw [if_neg w2] at hr
        have hr : q = F := hr
        have hFn : F < zn z := by omega
        have etb : tb (zb z) (zn z) F = zb z F := if_pos ⟨by omega, hFn⟩
        rw [etb] at k0
        have f3 : vfr vTo m (vm_st m2 96 27 (m2 96 26)) := f2.st rfl
        have e1 : vm_st m2 96 27 (m2 96 26) 96 26 = F := by rw [vst_i (by decide), g26, hr]
        have e2 : vm_st m2 96 27 (m2 96 26) 96 1 = zn z := by rw [vst_i (by decide)]; exact T2.1
        have e3 : vm_st m2 96 27 (m2 96 26) 96 27 = F := by rw [vst_s, g26, hr]
        generalize vm_st m2 96 27 (m2 96 26) = M at *
        have TM := fT M f3
        rw [e1, e2]
        rw [hr] at hbq
        have run : ∀ c, tK0 (zb z) (zn z) p = c → (c = 1 ∨ c = 2) → F < tE0 (zb z) (zn z) p ∧ (∀ i, F ≤ i → i < tE0 (zb z) (zn z) p → tkd (zb z i) = c) ∧ (tE0 (zb z) (zn z) p < zn z → tkd (zb z (tE0 (zb z) (zn z) p)) ≠ c) := fun c hc hc2 => by
          have eE : tE0 (zb z) (zn z) p = tru (zb z) (zn z) c (zn z - (F + 1)).toNat (F + 1) := by
            unfold tE0; rw [hF, if_pos hFn, hc, if_pos hc2]
          have t := tru_bd (b := zb z) (n := zn z) (c := c) (zn z - (F + 1)).toNat (F + 1) (by omega)
          rw [eE]
          refine ⟨by omega, fun i h1 h2 => ?_, t.2.2.2⟩
          by_cases x : i = F
          · rw [x, ← k0]; exact hc
          · exact t.2.2.1 i (by omega) h2
        have c1 : ∀ v, 97 ≤ v ∧ v ≤ 122 → tkd v = 1 := fun v x => by unfold tkd; rw [if_neg (by omega), if_pos x]
        have c2 : ∀ v, 48 ≤ v ∧ v ≤ 57 → tkd v = 2 := fun v x => by unfold tkd; rw [if_neg (by omega), if_neg (by omega), if_pos x]
        refine ⟨fun _ => sm_byteIn hZ TM e1 (by omega) (by decide) (by decide) (fun _ y => ⟨fun x => by omega, fun _ => ?_⟩) (fun y => ⟨fun _ => ?_, fun x => absurd rfl x⟩), fun x => by omega⟩
        · -- letters
          have eK := k0.trans (c1 _ y)
          have eD : tKd (zb z) (zn z) p = 1 := by unfold tKd; rw [eK, if_neg (by omega)]
          obtain ⟨r1, r2, r3⟩ := run 1 eK (Or.inl rfl)
          refine sm_nextWord hZ TM (by omega) r1 htk.2.2.1 e1 e3 (fun i h1 h2 => tkd_1 (r2 i h1 h2)) (fun x w => r3 x (c1 _ w)) (fun m4 f4 a27 a26 a29 a2 a1 a5 => h m4 (f3.tr f4) ?_)
          have eW : tW (zb z) (zn z) p = tpk (zb z) F (tE0 (zb z) (zn z) p - F).toNat := by unfold tW; rw [hF]
          unfold TKm
          rw [hF, eD, eW]
          generalize tE0 (zb z) (zn z) p = e at *
          by_cases l1 : e - F = 1
          · have g := a2 l1
            rw [g]
            exact ⟨a27, a26, by omega, ⟨fun x => (by omega : False).elim, fun x => (by have := x.2.1; omega : False).elim⟩, by omega, by omega, by omega, fun _ => a29 (by omega), fun x => by omega⟩
          · by_cases l8 : e - F ≤ 8 ∧ tkey (tpk (zb z) F (e - F).toNat)
            · have g := a1 l1 l8.1 l8.2
              rw [g]
              exact ⟨a27, a26, by omega, ⟨fun _ => ⟨rfl, by omega, l8.1, l8.2⟩, fun _ => rfl⟩, by omega, by omega, by omega, fun _ => a29 l8.1, fun x => by omega⟩
            · have g := a5 l1 l8
              rw [g]
              exact ⟨a27, a26, by omega, ⟨fun x => (by omega : False).elim, fun x => (l8 ⟨x.2.2.1, x.2.2.2⟩).elim⟩, by omega, by omega, by omega, fun x => (by omega : False).elim, fun x => by omega⟩
        · have y1 : ¬ (97 ≤ zb z F ∧ zb z F ≤ 122) := fun x => y ⟨hFn, x⟩
          refine sm_byteIn hZ TM e1 (by omega) (by decide) (by decide) (fun _ y2 => ⟨fun x => by omega, fun _ => ?_⟩) (fun y2 => ⟨fun _ => ?_, fun x => absurd rfl x⟩)
          · -- digits
            have eK := k0.trans (c2 _ y2)
            obtain ⟨r1, r2, r3⟩ := run 2 eK (Or.inr rfl)
            refine sm_nextInt hZ TM (by omega) r1 htk.2.2.1 e1 e3 (fun i h1 h2 => tkd_2 (r2 i h1 h2)) (fun x w => r3 x (c2 _ w)) (fun m4 f4 a27 a26 a3 a5 => h m4 (f3.tr f4) ?_)
            by_cases l4 : 4 < tE0 (zb z) (zn z) p - F
            · exact TKm_mk (kd := 4) a27 a26 (a5 l4) hF rfl (by unfold tKd; rw [eK, hF, if_pos ⟨rfl, l4⟩]) (Or.inr (Or.inr (Or.inr ⟨rfl, rfl⟩))) (fun x => by omega)
            · have g := a3 (by omega)
              exact TKm_mk (kd := 2) a27 a26 g.1 hF rfl (by unfold tKd; rw [eK, hF, if_neg (fun x => l4 x.2)]) (Or.inr (Or.inl ⟨rfl, rfl⟩)) (fun _ => by rw [g.2]; unfold tN; rw [hF])
          · have y3 : ¬ (48 ≤ zb z F ∧ zb z F ≤ 57) := fun x => y2 ⟨hFn, x⟩
            have ec : M 97 F = vsg (zb z F) := TM.2 F (by omega) hFn
            have e59 := vsg_w hbq (c := 59) (by decide)
            rw [e1, ec]
            have eK : tK0 (zb z) (zn z) p = if zb z F = 59 then 3 else 4 := by
              rw [k0]; unfold tkd; rw [if_neg (by omega), if_neg y1, if_neg y3]
            have eE : tE0 (zb z) (zn z) p = F + 1 := by
              unfold tE0
              rw [hF, if_pos hFn, if_neg]
              rw [eK]
              split <;> omega
            have es : ∀ v, vm_st M 96 28 v 96 26 = F := fun v => by rw [vst_i (by decide)]; exact e1
            rw [es, es]
            refine ⟨⟨by omega, by omega⟩, fun x => ⟨by omega, h _ ((f3.st rfl).st rfl) (TKm_mk (c := 5) (kd := 4) (by rw [vst_i (by decide), vst_i (by decide)]; exact e3) (vst_s _ _ _ _) (by rw [vst_i (by decide), vst_s]) hF eE ?_ (Or.inr (Or.inr (Or.inr ⟨rfl, rfl⟩))) (fun x => by omega))⟩, fun x => ⟨by omega, h _ ((f3.st rfl).st rfl) (TKm_mk (c := 4) (kd := 3) (by rw [vst_i (by decide), vst_i (by decide)]; exact e3) (vst_s _ _ _ _) (by rw [vst_i (by decide), vst_s]) hF eE ?_ (Or.inr (Or.inr (Or.inl ⟨rfl, rfl⟩))) (fun x => by omega))⟩⟩
            · have : ¬ zb z F = 59 := fun w => x (e59.mpr w)
              unfold tKd
              rw [eK, if_neg this, if_neg (by omega)]
            · have : zb z F = 59 := e59.mp (Decidable.not_not.mp x)
              unfold tKd
              rw [eK, if_pos this, if_neg (by omega)]
  exact go (zn z - p).toNat p m hp.1 (by omega) vfr.rf h26 ef.symm
end TN
