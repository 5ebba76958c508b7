/-! ===== the least INNER, the best exchange, the best correction ===== -/
section QC
variable {D : vD} {E : Int → Int} {m m' : vm_M}
theorem sm_isEnough {Q : Int → vm_M → Prop} {B : vB} (hB : bOK B) {v most : Int} (hv : 10 ≤ v ∧ v ≤ 9999) (hP : vPm (bJ B v) (vm_st m 100 0 v)) (h1 : ∀ m', vfr vSr (vm_st m 100 0 v) m' → benough (bJ B v) most → Q 1 m') (h0 : ∀ m', vfr vSr (vm_st m 100 0 v) m' → ¬ benough (bJ B v) most → Q 0 m') : vm_C 272 [vm_r 96, vm_i v, vm_i most] m (vm_qi Q) := by
  have hJ := bJ_ok hB hv
  have hN := hB.2.1
  have eN : bN (bJ B v) = bN B := rfl
  have eW : bW (bJ B v) = bW B := rfl
  have eZ : bZ (bJ B v) = bZ B := rfl
  have eI : bI (bJ B v) = v := rfl
  refine ru11_isEnough_0 (sm_greedy hJ hP (fun m1 f1 _ => ?_))
  have p1 := hP.fr f1
  have h1 := h1 m1 f1
  have h0 := h0 m1 f1
  have hz : ∀ (n : Nat) (w : Int), 0 ≤ w → w + n = bN B → ¬ benough (bJ B v) most → ku11_isEnough_24 v most 0 w m1 Q := by
    intro n
    induction n with
    | zero =>
      intro w hw hn hb
      exact ru11_isEnough_24 ⟨fun _ => ⟨Or.inl rfl, h0 hb⟩, fun z => by rw [p1.1] at z; omega⟩
    | succ n ih =>
      intro w hw hn hb
      exact ru11_isEnough_24 ⟨fun z => by rw [p1.1] at z; omega, fun _ => ⟨fun _ => ⟨by omega, ih (w + 1) (by omega) (by omega) hb⟩, fun z => absurd rfl z⟩⟩
  have ho : (gcnt (bR (bJ B v)) : Int) ≤ most → ∀ (n : Nat) (w : Int), 0 ≤ w → w + n = bN B → (∀ x, 0 ≤ x → x < w → bW B x * bZ B ≤ v) → ku11_isEnough_24 v most 1 w m1 Q := by
    intro hg n
    induction n with
    | zero =>
      intro w hw hn hx
      exact ru11_isEnough_24 ⟨fun _ => ⟨Or.inr rfl, h1 ⟨hg, fun x a b => hx x a (by omega)⟩⟩, fun z => by rw [p1.1] at z; omega⟩
    | succ n ih =>
      intro w hw hn hx
      have e104 : m1 104 w = bW B w := p1.2.2.2.2 w hw (by omega)
      have e5 : m1 100 5 = bZ B := p1.2.2.2.1
      have hwb := hB.2.2.1 w hw (by omega)
      have hb := vmul_bd (a := bW B w) (b := bZ B) (A := 1188) (B := 9) ⟨by omega, hwb.2⟩ ⟨by have := hB.2.2.2.2.2.1; omega, hB.2.2.2.2.2.2.1⟩
      refine ru11_isEnough_24 ⟨fun z => by rw [p1.1] at z; omega, fun _ => ⟨fun z => by omega, fun _ => ?_⟩⟩
      rw [e104, e5]
      refine ⟨by omega, fun z => ⟨by omega, hz n (w + 1) (by omega) (by omega) (fun k => ?_)⟩, fun z => ⟨by omega, ih (w + 1) (by omega) (by omega) (fun x a b => ?_)⟩⟩
      · have := k.2 w hw (by omega)
        rw [eI, eW, eZ] at this
        omega
      · by_cases q : x = w
        · rw [q]; omega
        · exact hx x a (by omega)
  refine ⟨fun z => hz (bN B).toNat 0 (Int.le_refl _) (by have := hB.1; omega) (fun k => by have := k.1; omega), fun z => ho (by omega) (bN B).toNat 0 (Int.le_refl _) (by have := hB.1; omega) (fun x a b => by omega)⟩
theorem q_leastInner (c : CC D E m) (hs : vST m) {most : Int} {G : Int → Int → vm_M → Prop} (h : ∀ z m', vfr vSQ m m' → CC D E m' → G z z m') : vm_C 141 [vm_r 0, vm_i most] m (vm_qi (fun z1 m1 => vP m m1 ∧ vm_C 273 [vm_r 96, vm_i most] m1 (vm_qi (fun z2 m2 => G z1 z2 m2)))) := by
  obtain ⟨hD, hO, hE⟩ := c.1
  have hB := eB_ok hD hO hE
  have hG := hE.2.2.2.1
  have eN : bN (eB D E) = dN D := rfl
  -- the answer
  have hans : ∃ ans : Int, (¬ (1 ≤ most ∧ most ≤ 12) → ans = -1) ∧ ((1 ≤ most ∧ most ≤ 12) → dN D = 0 → ans = -2) ∧ ((1 ≤ most ∧ most ≤ 12) → dN D ≠ 0 → (¬ benough (bJ (eB D E) 9999) most → ans = -2) ∧ (benough (bJ (eB D E) 9999) most → 10 ≤ ans ∧ ans ≤ 9999 ∧ benough (bJ (eB D E) ans) most ∧ ∀ x, 10 ≤ x → x < ans → ¬ benough (bJ (eB D E) x) most)) := by
    by_cases a : 1 ≤ most ∧ most ≤ 12
    · by_cases b : dN D = 0
      · exact ⟨-2, fun k => absurd a k, fun _ _ => rfl, fun _ k => absurd b k⟩
      · by_cases d : benough (bJ (eB D E) 9999) most
        · obtain ⟨v, v1, v2, v3, v4⟩ := least_ex (P := fun x => benough (bJ (eB D E) x) most) (lo := 10) (hi := 9999) ⟨9999, by decide, by decide, d⟩
          exact ⟨v, fun k => absurd a k, fun _ k => absurd k b, fun _ _ => ⟨fun k => absurd d k, fun _ => ⟨v1, v2, v3, v4⟩⟩⟩
        · exact ⟨-2, fun k => absurd a k, fun _ _ => rfl, fun _ _ => ⟨fun _ => rfl, fun k => absurd k d⟩⟩
    · exact ⟨-1, fun _ => rfl, fun k => absurd k a, fun k => absurd k a⟩
  obtain ⟨ans, an1, an2, an3⟩ := hans
  refine qpair1 c ans (fun Q h => ?_) (fun Q m hM h => ?_) h
  · refine ru10_leastInner_0 ⟨fun z => ?_, fun z => ⟨fun z2 => sx_layOut c.1 c.2.1 (fun m1 f1 x1 l1 _ => sx_prepT c.1 x1 l1 (fun m2 f2 p2 => ?_)), fun z2 => ?_⟩⟩
    · rw [← an1 (by omega)]; exact h m vfr.rf c.2.1
    · have hmo : 1 ≤ most ∧ most ≤ 12 := ⟨by omega, z2⟩
      have zp : ∀ {B : vB} {mm : vm_M}, bOK B → vPx B 72 mm → mm 74 0 = 0 := fun hb p => p.2.2.2.2.2 0 (Int.le_refl _) hb.1
      have x2 := x1.ft f2 (zp hB p2)
      have t2 := (hs.fr f1 (fun k i a => vSX_n (by omega) (by omega))).fr f2 (fun k i a => vSt_n (by omega))
      have e9 : m2 9 6 = dN D := x2.2.1.1
      rw [e9, t2.2.1]
      refine ⟨fun q => ?_, fun q => ?_⟩
      · rw [← an2 hmo q]; exact h m2 (f1.tr (vSt_X f2)) x2
      · have hNp : 0 < bN (eB D E) := by have := hO.2.1; omega
        have hJ9 := bJ_ok hB (i := 9999) ⟨by decide, by decide⟩
        refine sx_within rfl hB p2 ⟨by decide, by decide⟩ (fun m3 f3 p3 k => ⟨fun _ => ?_, fun z => by omega⟩) (fun m3 f3 p3 k => ⟨fun z => absurd rfl z, fun _ => ?_⟩)
        · have hen := (benough_iff hJ9 hNp hmo.2).mp k
          obtain ⟨a1, a2, a3, a4⟩ := (an3 hmo q).2 hen
          have f23 := f2.tr f3
          have t3 := t2.fr f3 (fun k i a => vSt_n (by omega))
          have go : ∀ (n : Nat) (low high v4 : Int) (m4 : vm_M) (w5 : Option vm_V), high - low < n → 10 ≤ low → low ≤ ans → ans ≤ high → high ≤ 9999 → 0 ≤ v4 → v4 + (high - low) ≤ 9989 → vfr (vSt 72) m1 m4 → (∃ i, (10 ≤ i ∧ i ≤ 9999) ∧ vPx (bJ (eB D E) i) 72 m4) → ku10_leastInner_61 most low high v4 w5 m4 Q := by
            intro n
            induction n with
            | zero => intro low high v4 m4 w5 hn; intros; omega
            | succ n ih =>
              intro low high v4 m4 w5 hn b1 b2 b3 b4 b5 b6 f4 hp
              obtain ⟨i, hi, p4⟩ := hp
              have t4 := (hs.fr f1 (fun k i a => vSX_n (by omega) (by omega))).fr f4 (fun k i a => vSt_n (by omega))
              have hJi := bJ_ok hB hi
              refine ru10_leastInner_61 ⟨fun z => by rw [t4.2.1] at z; omega, fun _ => ⟨fun z => ?_, fun z => ⟨by omega, ?_⟩⟩⟩
              · rw [show high = ans by omega]
                exact h m4 (f1.tr (vSt_X f4)) (x1.ft f4 (zp hJi p4))
              · have hmid : 10 ≤ (low + high) / 2 ∧ (low + high) / 2 ≤ 9999 := by omega
                have hJm := bJ_ok hB hmid
                refine sx_within rfl hJi p4 hmid (fun m5 f5 p5 k => ⟨fun z => by omega, fun _ => ⟨by omega, ?_⟩⟩) (fun m5 f5 p5 k => ⟨fun _ => ⟨by omega, ?_⟩, fun z => absurd rfl z⟩)
                · have hen := (benough_iff hJm hNp hmo.2).mp k
                  have : ans ≤ (low + high) / 2 := by
                    rcases Int.lt_or_le ((low + high) / 2) ans with d | d
                    · exact absurd hen (a4 _ hmid.1 d)
                    · exact d
                  exact ih low ((low + high) / 2) (v4 + 1) m5 _ (by omega) b1 b2 this (by omega) (by omega) (by omega) (f4.tr f5) ⟨_, hmid, p5⟩
                · have hen : ¬ benough (bJ (eB D E) ((low + high) / 2)) most := fun q => k ((benough_iff hJm hNp hmo.2).mpr q)
                  have : (low + high) / 2 < ans := by
                    rcases Int.lt_or_le ((low + high) / 2) ans with d | d
                    · exact d
                    · exact absurd (benough_mono hB ⟨a1, a2⟩ hmid d a3) hen
                  exact ih ((low + high) / 2 + 1) high (v4 + 1) m5 _ (by omega) (by omega) (by omega) b3 b4 (by omega) (by omega) (f4.tr f5) ⟨_, hmid, p5⟩
          rw [t2.1.1]
          exact go 10000 10 9999 0 m3 none (by decide) (by decide) a1 a2 (by decide) (by decide) (by decide) f23 ⟨9999, ⟨by decide, by decide⟩, p3⟩
        · have hen : ¬ benough (bJ (eB D E) 9999) most := fun w => k ((benough_iff hJ9 hNp hmo.2).mpr w)
          rw [← (an3 hmo q).1 hen]
          have f23 := f2.tr f3
          exact h m3 (f1.tr (vSt_X f23)) (x1.ft f23 (zp hJ9 p3))
    · rw [← an1 (by omega)]; exact h m vfr.rf c.2.1
  · have e0 : m 100 0 = E 0 := hM.2.2.1
    refine ru11_leastInner_0 (sm_in (fun hmo => ⟨fun _ => sm_laysW hD hO hG.2 hM.1 hM.2.1 hM.2.2.2.2.2.1 (fun m1 f1 hv => ?_), fun z => by omega⟩) (fun hmo => ⟨fun z => absurd rfl z, fun _ => ?_⟩))
    · have E1 : dEm E m1 := hM.2.2.fr f1 (fun _ => rfl)
      have S1 : dSm D m1 := hM.2.1.fr f1 (fun _ => rfl)
      have P1 : vPm (eB D E) m1 := ⟨S1.1, E1.1, E1.2.2.2.2.1, E1.2.2.2.2.2.1, hv⟩
      have f1u : vfr (vSu 0) m m1 := vSm_u (vSl_m (vSw_l f1))
      have hfin : ∀ m4, vfr (vSu 0) m m4 → Q ans (vm_st m4 100 0 (E 0)) := fun m4 f4 => by
        rw [← e0]; exact h _ (vfr.back f4)
      have go : ∀ (n : Nat) (low high : Int) (m4 : vm_M) (w5 : Option vm_V), high - low < n → 10 ≤ low → low ≤ high → high ≤ 10000 → (∀ x, 10 ≤ x → x < low → ¬ benough (bJ (eB D E) x) most) → (high = 10000 ∨ (high ≤ 9999 ∧ benough (bJ (eB D E) high) most)) → vfr (vSu 0) m m4 → (∃ i, vPm (bJ (eB D E) i) m4) → ku11_leastInner_33 most (E 0) low high w5 m4 Q := by
        intro n
        induction n with
        | zero => intro low high m4 w5 hn; intros; omega
        | succ n ih =>
          intro low high m4 w5 hn b1 b2 b3 b4 b5 f4 hp
          obtain ⟨i, p4⟩ := hp
          have e8 : (vm_st m4 100 0 (E 0)) 100 8 = dN D := by rw [vst_i (by decide)]; exact p4.1
          refine ru11_leastInner_33 ⟨fun z => ?_, fun z => ⟨by omega, ?_⟩⟩
          · have hlh : low = high := by omega
            rw [e8]
            refine ⟨fun z2 => ?_, fun z2 => ⟨fun q => ?_, fun q => ?_⟩⟩
            · have : ans = -2 := by
                by_cases q : dN D = 0
                · exact an2 hmo q
                · exact (an3 hmo q).1 (b4 9999 (by decide) (by omega))
              rw [← this]; exact hfin m4 f4
            · rcases b5 with b5 | b5
              · omega
              · have hen : benough (bJ (eB D E) 9999) most := benough_mono hB ⟨by omega, b5.1⟩ ⟨by decide, by decide⟩ b5.1 b5.2
                obtain ⟨a1, a2, a3, a4⟩ := (an3 hmo q).2 hen
                have : low = ans := by
                  rcases Int.lt_trichotomy low ans with d | d | d
                  · exact absurd (hlh ▸ b5.2) (a4 low b1 d)
                  · exact d
                  · exact absurd a3 (b4 ans a1 d)
                rw [this]; exact hfin m4 f4
            · rw [← an2 hmo (Classical.not_not.mp q)]; exact hfin m4 f4
          · have hmid : 10 ≤ (low + high) / 2 ∧ (low + high) / 2 ≤ 9999 := by omega
            have p5 : vPm (bJ (eB D E) ((low + high) / 2)) (vm_st m4 100 0 ((low + high) / 2)) := by
              obtain ⟨c1, c2, c3, c4, c5⟩ := p4
              exact ⟨by rw [vst_i (by decide)]; exact c1, by rw [vst_s]; rfl, by rw [vst_i (by decide)]; exact c3, by rw [vst_i (by decide)]; exact c4, fun w a b => by rw [vst_k (by decide)]; exact c5 w a b⟩
            have f5 : vfr (vSu 0) m (vm_st m4 100 0 ((low + high) / 2)) := f4.st vSu_t
            refine sm_isEnough hB hmid p5 (fun m6 f6 k => ⟨fun z => by omega, fun _ => ?_⟩) (fun m6 f6 k => ⟨fun _ => ⟨by omega, ?_⟩, fun z => absurd rfl z⟩)
            · exact ih low ((low + high) / 2) m6 _ (by omega) b1 (by omega) (by omega) b4 (Or.inr ⟨hmid.2, k⟩) (f5.tr (vSm_u (vSl_m (vSr_l f6)))) ⟨_, p5.fr f6⟩
            · refine ih ((low + high) / 2 + 1) high m6 _ (by omega) (by omega) (by omega) b3 (fun x x1 x2 k2 => ?_) b5 (f5.tr (vSm_u (vSl_m (vSr_l f6)))) ⟨_, p5.fr f6⟩
              exact k (benough_mono hB ⟨x1, by omega⟩ hmid (by omega) k2)
      rw [e0]
      exact go 10000 10 10000 m1 none (by decide) (by decide) (by decide) (by decide) (fun x a b => by omega) (Or.inl rfl) f1u ⟨E 0, P1⟩
    · rw [← an1 hmo]; exact h m vfr.rf
/-- one exchange tried -/
def ybx (B : vB) (how : Int) (s : Int × Int) (i j : Int) : Int × Int := if 0 < bQ (bR (bX B i j)) how ∧ bcost (bR (bX B i j)) how < s.2 then (100 * i + j, bcost (bR (bX B i j)) how) else s
def ybj (B : vB) (how i : Int) : Nat → Int → Int × Int → Int × Int
  | 0, _, s => s
  | n + 1, j, s => ybj B how i n (j + 1) (ybx B how s i j)
def ybi (B : vB) (how : Int) : Nat → Int → Int × Int → Int × Int
  | 0, _, s => s
  | n + 1, i, s => ybi B how n (i + 1) (ybj B how i n (i + 1) s)
theorem q_bestSwap (c : CC D E m) {G : Int → Int → vm_M → Prop} (h : ∀ z m', vfr vSQ m m' → CC D E m' → G z z m') : vm_C 146 [vm_r 0] m (vm_qi (fun z1 m1 => vP m m1 ∧ vm_C 279 [vm_r 96] m1 (vm_qi (fun z2 m2 => G z1 z2 m2)))) := by
  obtain ⟨hD, hO, hE⟩ := c.1
  have hB := eB_ok hD hO hE
  have hN := hO.2.2.1
  have hN0 := hO.2.1
  have eN : bN (eB D E) = dN D := rfl
  have h6 := hE.2.2.2.2.2.2.1
  refine qpair c (if eQ D E = 0 then -2 else (ybi (eB D E) (E 6) (dN D).toNat 0 (-2, bcost (bR (eB D E)) (E 6))).1) (fun Q m hX h => ?_) (fun Q m hM h => ?_) h
  · refine ru10_bestSwap_0 (sx_layOut c.1 hX (fun m1 f1 x1 l1 _ => ?_))
    have e8 : m1 67 8 = (eQ D E : Int) := l1.2.2.1.1
    rw [e8]
    refine ⟨fun z => sx_prepT c.1 x1 l1 (fun m2 f2 p2 => ?_), fun z => ?_⟩
    · have zp : ∀ {B : vB} {mm : vm_M}, bOK B → vPx B 72 mm → mm 74 0 = 0 := fun hb p => p.2.2.2.2.2 0 (Int.le_refl _) hb.1
      have l2 := l1.ft f2
      refine sx_cost rfl hB l2.2.1 l2.2.2.1 ?_
      have go : ∀ (n : Nat) (i : Int) (s : Int × Int) (m3 : vm_M) (w4 w5 : Option vm_V), 0 ≤ i → i + n = dN D → ybi (eB D E) (E 6) n i s = ybi (eB D E) (E 6) (dN D).toNat 0 (-2, bcost (bR (eB D E)) (E 6)) → vfr (vSt 72) m1 m3 → vPx (eB D E) 72 m3 → ku10_bestSwap_34 s.1 s.2 i w4 w5 m3 Q := by
        intro n
        induction n with
        | zero =>
          intro i s m3 w4 w5 hi hn hk f3 p3
          have x3 := x1.ft f3 (zp hB p3)
          have h := h m3 (f1.tr (vSt_X f3)) x3
          rw [if_neg (by omega), ← hk] at h
          exact ru10_bestSwap_34 ⟨fun _ => h, fun q => by rw [x3.2.1.1] at q; omega⟩
        | succ n ih =>
          intro i s m3 w4 w5 hi hn hk f3 p3
          have hk : ybi (eB D E) (E 6) n (i + 1) (ybj (eB D E) (E 6) i n (i + 1) s) = _ := hk
          have x3 := x1.ft f3 (zp hB p3)
          have gj : ∀ (r : Nat) (j : Int) (s2 : Int × Int) (m4 : vm_M) (w5 : Option vm_V), i < j → j + r = dN D → ybj (eB D E) (E 6) i r j s2 = ybj (eB D E) (E 6) i n (i + 1) s → vfr (vSt 72) m1 m4 → vPx (eB D E) 72 m4 → ku10_bestSwap_50 s2.1 s2.2 i j w5 m4 Q := by
            intro r
            induction r with
            | zero =>
              intro j s2 m4 w5 hj hr hk2 f4 p4
              have x4 := x1.ft f4 (zp hB p4)
              have hk2 : s2 = _ := hk2
              refine ru10_bestSwap_50 ⟨fun _ => ⟨by omega, ih (i + 1) s2 m4 _ _ (by omega) (by omega) (by rw [hk2]; exact hk) f4 p4⟩, fun q => by rw [x4.2.1.1] at q; omega⟩
            | succ r ihr =>
              intro j s2 m4 w5 hj hr hk2 f4 p4
              have x4 := x1.ft f4 (zp hB p4)
              have hk2 : ybj (eB D E) (E 6) i r (j + 1) (ybx (eB D E) (E 6) s2 i j) = _ := hk2
              have e6 : m4 9 4 = E 6 := x4.2.2.1.2.2.2.2.2.2.1
              have hX2 := bX_ok hB (i := i) (j := j) ⟨hi, by omega⟩ ⟨by omega, by omega⟩
              have hcb := bcost_bd (bR_ok hX2) (E 6) (bQ (bR (bX (eB D E) i j)) (E 6) - 1) (by omega)
              have hcb : 0 ≤ bcost (bR (bX (eB D E) i j)) (E 6) ∧ bcost (bR (bX (eB D E) i j)) (E 6) ≤ 99960004 * 12 := hcb
              refine ru10_bestSwap_50 ⟨fun q => by rw [x4.2.1.1] at q; omega, fun _ => ?_⟩
              rw [e6]
              refine sx_costX rfl hB p4 ⟨hi, by omega⟩ ⟨by omega, by omega⟩ h6 (fun m5 f5 p5 => ?_)
              unfold ybx at hk2
              by_cases q : bQ (bR (bX (eB D E) i j)) (E 6) = 0
              · rw [if_pos q]
                rw [if_neg (fun k => by omega)] at hk2
                exact ⟨fun _ => ⟨by omega, ihr (j + 1) s2 m5 _ (by omega) (by omega) hk2 (f4.tr f5) p5⟩, fun z => absurd rfl z⟩
              · rw [if_neg q]
                refine ⟨fun z => by omega, fun _ => ⟨fun z => ⟨by omega, ?_⟩, fun z => ⟨by omega, ?_⟩⟩⟩
                · rw [if_neg (fun k => by omega)] at hk2
                  exact ihr (j + 1) s2 m5 _ (by omega) (by omega) hk2 (f4.tr f5) p5
                · rw [if_pos ⟨by omega, by omega⟩] at hk2
                  exact ihr (j + 1) (100 * i + j, bcost (bR (bX (eB D E) i j)) (E 6)) m5 _ (by omega) (by omega) hk2 (f4.tr f5) p5
          exact ru10_bestSwap_34 ⟨fun q => by rw [x3.2.1.1] at q; omega, fun _ => ⟨by omega, gj n (i + 1) s m3 _ (by omega) (by omega) rfl f3 p3⟩⟩
      exact go (dN D).toNat 0 (-2, bcost (bR (eB D E)) (E 6)) m2 none none (Int.le_refl _) (by omega) rfl f2 p2
    · have h := h m1 f1 x1
      rw [if_pos (by omega)] at h; exact h
  · refine ru11_bestSwap_0 (sm_laysRows hD hO hE hM.1 hM.2.1 hM.2.2 (fun m1 f1 p1 l1 => ?_))
    have e14 : m1 96 14 = (eQ D E : Int) := l1.1
    have f1' := vSl_m f1
    rw [e14]
    refine ⟨fun z => sm_cost hB p1 l1 ?_, fun z => ?_⟩
    · have hxs : ∀ (m2 : vm_M) (B2 : vB) (i j : Int) (K : vm_M → Prop), bOK B2 → vfr vSm m m2 → vPm B2 m2 → (0 ≤ i ∧ i < bN B2) → (0 ≤ j ∧ j < bN B2) → (∀ m3, vfr vSm m m3 → vPm (bX B2 i j) m3 → (∀ a, m3 100 a = m2 100 a) → m3 96 14 = m2 96 14 → K m3) → vm_C 278 [vm_r 96, vm_i i, vm_i j] m2 (vm_qv K) := by
        intro m2 B2 i j K hB2 f2 p2 hi hj hK
        have hN2 := hB2.2.1
        obtain ⟨c1, c2, c3, c4, c5⟩ := p2
        refine ru11_exchangesWidths_0 ⟨by omega, ?_⟩
        rw [c5 i hi.1 hi.2, c5 j hj.1 hj.2]
        have t104 : ∀ a : Int, vSm 104 a = true := fun a => rfl
        refine hK _ ((f2.st (t104 _)).st (t104 _)) ⟨by rw [vst_k (by decide), vst_k (by decide)]; exact c1, by rw [vst_k (by decide), vst_k (by decide)]; exact c2, by rw [vst_k (by decide), vst_k (by decide)]; exact c3, by rw [vst_k (by decide), vst_k (by decide)]; exact c4, fun w a b => ?_⟩ (fun a => by rw [vst_k (by decide), vst_k (by decide)]) (by rw [vst_k (by decide), vst_k (by decide)])
        have b : w < bN B2 := b
        show _ = wX (bW B2) i j w
        unfold wX
        by_cases q1 : w = j
        · rw [q1, vst_s]
          by_cases q2 : j = i
          · rw [if_pos q2, q2]
          · rw [if_neg q2, if_pos rfl]
        · rw [vst_i q1]
          by_cases q2 : w = i
          · rw [q2, vst_s, if_pos rfl]
          · rw [vst_i q2, if_neg q2, if_neg q1]
            exact c5 w a b
      have go : ∀ (n : Nat) (i : Int) (s : Int × Int) (m3 : vm_M) (w5 w6 : Option vm_V), 0 ≤ i → i + n = dN D → ybi (eB D E) (E 6) n i s = ybi (eB D E) (E 6) (dN D).toNat 0 (-2, bcost (bR (eB D E)) (E 6)) → vfr vSm m m3 → vPm (eB D E) m3 → m3 100 6 = E 6 → ku11_bestSwap_25 s.2 s.1 i w5 w6 m3 Q := by
        intro n
        induction n with
        | zero =>
          intro i s m3 w5 w6 hi hn hk f3 p3 g6
          have h := h m3 f3
          rw [if_neg (by omega), ← hk] at h
          exact ru11_bestSwap_25 ⟨fun _ => h, fun q => by rw [p3.1] at q; omega⟩
        | succ n ih =>
          intro i s m3 w5 w6 hi hn hk f3 p3 g6
          have hk : ybi (eB D E) (E 6) n (i + 1) (ybj (eB D E) (E 6) i n (i + 1) s) = _ := hk
          have gj : ∀ (r : Nat) (j : Int) (s2 : Int × Int) (m4 : vm_M) (w6 : Option vm_V), i < j → j + r = dN D → ybj (eB D E) (E 6) i r j s2 = ybj (eB D E) (E 6) i n (i + 1) s → vfr vSm m m4 → vPm (eB D E) m4 → m4 100 6 = E 6 → ku11_bestSwap_43 s2.2 s2.1 i j w6 m4 Q := by
            intro r
            induction r with
            | zero =>
              intro j s2 m4 w6 hj hr hk2 f4 p4 g6
              have hk2 : s2 = _ := hk2
              refine ru11_bestSwap_43 ⟨fun _ => ⟨by omega, ih (i + 1) s2 m4 _ _ (by omega) (by omega) (by rw [hk2]; exact hk) f4 p4 g6⟩, fun q => by rw [p4.1] at q; omega⟩
            | succ r ihr =>
              intro j s2 m4 w6 hj hr hk2 f4 p4 g6
              have hk2 : ybj (eB D E) (E 6) i r (j + 1) (ybx (eB D E) (E 6) s2 i j) = _ := hk2
              have hi2 : 0 ≤ i ∧ i < bN (eB D E) := ⟨hi, by omega⟩
              have hj2 : 0 ≤ j ∧ j < bN (eB D E) := ⟨by omega, by omega⟩
              have hX2 := bX_ok hB hi2 hj2
              refine ru11_bestSwap_43 ⟨fun q => by rw [p4.1] at q; omega, fun _ => hxs m4 (eB D E) i j _ hB f4 p4 hi2 hj2 (fun m5 f5 p5 g5 _ => sm_break hX2 p5 h6 (by rw [g5, g6]) (fun m6 f6 l6 => ?_))⟩
              have p6 := p5.fr f6
              have f6' := f5.tr (vSl_m (vSr_l f6))
              have g66 : m6 100 6 = E 6 := by rw [f6 100 6 rfl, g5, g6]
              have back : ∀ m7, vPm (bX (bX (eB D E) i j) i j) m7 → vPm (eB D E) m7 := fun m7 p7 => by
                have e : bX (bX (eB D E) i j) i j = eB D E := by
                  show ((wX (wX (bW (eB D E)) i j) i j, bN (eB D E), bP (eB D E), bZ (eB D E), bI (eB D E)) : vB) = eB D E
                  rw [show wX (wX (bW (eB D E)) i j) i j = bW (eB D E) from funext (wX_2 (bW (eB D E)) i j)]
                  rfl
                rw [e] at p7; exact p7
              rw [l6.1]
              unfold ybx at hk2
              refine ⟨fun z => sm_cost hX2 p6 l6 (hxs m6 (bX (eB D E) i j) i j _ hX2 f6' p6 hi2 hj2 (fun m7 f7 p7 g7 _ => ?_)), fun z => hxs m6 (bX (eB D E) i j) i j _ hX2 f6' p6 hi2 hj2 (fun m7 f7 p7 g7 _ => ?_)⟩
              · have p8 := back m7 p7
                have g8 : m7 100 6 = E 6 := by rw [g7, g66]
                rw [vcmp_ge]
                refine ⟨fun q => ⟨fun _ => ⟨by omega, ?_⟩, fun q2 => absurd q q2⟩, fun q => ⟨by omega, fun q2 => absurd q2 q, fun _ => ⟨by omega, ?_⟩⟩⟩
                · rw [if_neg (fun k => by omega)] at hk2
                  exact ihr (j + 1) s2 m7 _ (by omega) (by omega) hk2 f7 p8 g8
                · rw [if_pos ⟨by omega, by omega⟩] at hk2
                  exact ihr (j + 1) (100 * i + j, bcost (bR (bX (eB D E) i j)) (E 6)) m7 _ (by omega) (by omega) hk2 f7 p8 g8
              · have p8 := back m7 p7
                have g8 : m7 100 6 = E 6 := by rw [g7, g66]
                rw [if_neg (fun k => by omega)] at hk2
                rw [vcmp_ge]
                exact ⟨fun q => ⟨fun _ => ⟨by omega, ihr (j + 1) s2 m7 _ (by omega) (by omega) hk2 f7 p8 g8⟩, fun q2 => absurd q q2⟩, fun q => absurd (Int.le_refl _) q⟩
          exact ru11_bestSwap_25 ⟨fun q => by rw [p3.1] at q; omega, fun _ => ⟨by omega, gj n (i + 1) s m3 _ (by omega) (by omega) rfl f3 p3 g6⟩⟩
      have hm1 : dEm E m1 := hM.2.2.fr f1 (fun _ => rfl)
      exact go (dN D).toNat 0 (-2, bcost (bR (eB D E)) (E 6)) m1 none none (Int.le_refl _) (by omega) rfl f1' p1 hm1.2.2.2.2.2.2.1
    · have h := h m1 f1'
      rw [if_pos (by omega)] at h; exact h
end QC
