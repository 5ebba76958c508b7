/-! ===== the least INNER, the best exchange, the best correction ===== -/
section QC
variable {D : vD} {E : Int → Int} {m m' : vm_M}
theorem s_leastInner (c : OC D E) (hX : XC D E m) (hs : vST m) {most : Int} {Q : Int → vm_M → Prop} (h : ∀ ans : Int, ((¬ (1 ≤ most ∧ most ≤ 12) → ans = -1) ∧ ((1 ≤ most ∧ most ≤ 12) → dN D = 0 → ans = -2) ∧ ((1 ≤ most ∧ most ≤ 12) → dN D ≠ 0 → (¬ benough (bJ (eB D E) 9999) most → ans = -2) ∧ (benough (bJ (eB D E) 9999) most → 10 ≤ ans ∧ ans ≤ 9999 ∧ benough (bJ (eB D E) ans) most ∧ ∀ x, 10 ≤ x → x < ans → ¬ benough (bJ (eB D E) x) most))) → ∀ m', vfr vSX m m' → XC D E m' → Q ans m') : vm_C 141 [vm_r 0, vm_i most] m (vm_qi Q) := by
  have c9 := c
  obtain ⟨hD, hO, hE⟩ := c9
  have hB := eB_ok hD hO hE
  have hG := hE.2.2.2.1
  have eN : bN (eB D E) = dN D := rfl
  -- the answer
  have hans : ∃ ans : Int, (¬ (1 ≤ most ∧ most ≤ 12) → ans = -1) ∧ ((1 ≤ most ∧ most ≤ 12) → dN D = 0 → ans = -2) ∧ ((1 ≤ most ∧ most ≤ 12) → dN D ≠ 0 → (¬ benough (bJ (eB D E) 9999) most → ans = -2) ∧ (benough (bJ (eB D E) 9999) most → 10 ≤ ans ∧ ans ≤ 9999 ∧ benough (bJ (eB D E) ans) most ∧ ∀ x, 10 ≤ x → x < ans → ¬ benough (bJ (eB D E) x) most)) := by
    by_cases a : 1 ≤ most ∧ most ≤ 12
    · by_cases b : dN D = 0
      · exact ⟨-2, fun k => absurd a k, fun _ _ => rfl, fun _ k => absurd b k⟩
      · by_cases d : benough (bJ (eB D E) 9999) most
        · obtain ⟨v, v1, v2, v3, v4⟩ := least_ex (P := fun x => benough (bJ (eB D E) x) most) (lo := 10) (hi := 9999) ⟨9999, by decide, by decide, d⟩
          exact ⟨v, fun k => absurd a k, fun _ k => absurd k b, fun _ _ => ⟨fun k => absurd d k, fun _ => ⟨v1, v2, v3, v4⟩⟩⟩
        · exact ⟨-2, fun k => absurd a k, fun _ _ => rfl, fun _ _ => ⟨fun _ => rfl, fun k => absurd k d⟩⟩
    · exact ⟨-1, fun _ => rfl, fun k => absurd k a, fun k => absurd k a⟩
  obtain ⟨ans, an1, an2, an3⟩ := hans
  replace h := h ans ⟨an1, an2, an3⟩
  refine ru10_leastInner_0 ⟨fun z => ?_, fun z => ⟨fun z2 => sx_layOut c hX (fun m1 f1 x1 l1 _ => sx_prepT c x1 l1 (fun m2 f2 p2 => ?_)), fun z2 => ?_⟩⟩
  · rw [← an1 (by omega)]; exact h m vfr.rf hX
  · have hmo : 1 ≤ most ∧ most ≤ 12 := ⟨by omega, z2⟩
    have zp : ∀ {B : vB} {mm : vm_M}, bOK B → vPx B 72 mm → mm 74 0 = 0 := fun hb p => p.2.2.2.2.2 0 (Int.le_refl _) hb.1
    have x2 := x1.ft f2 (zp hB p2)
    have t2 := (hs.fr f1 (fun k i a => vSX_n (by omega) (by omega))).fr f2 (fun k i a => vSt_n (by omega))
    have e9 : m2 9 6 = dN D := x2.2.1.1
    rw [e9, t2.2.1]
    refine ⟨fun q => ?_, fun q => ?_⟩
    · rw [← an2 hmo q]; exact h m2 (f1.tr (vSt_X f2)) x2
    · have hNp : 0 < bN (eB D E) := by have := hO.2.1; omega
      have hJ9 := bJ_ok hB (i := 9999) ⟨by decide, by decide⟩
      refine sx_within rfl hB p2 ⟨by decide, by decide⟩ (fun m3 f3 p3 k => ⟨fun _ => ?_, fun z => by omega⟩) (fun m3 f3 p3 k => ⟨fun z => absurd rfl z, fun _ => ?_⟩)
      · have hen := (benough_iff hJ9 hNp hmo.2).mp k
        obtain ⟨a1, a2, a3, a4⟩ := (an3 hmo q).2 hen
        have f23 := f2.tr f3
        have t3 := t2.fr f3 (fun k i a => vSt_n (by omega))
        have go : ∀ (n : Nat) (low high v4 : Int) (m4 : vm_M) (w5 : Option vm_V), high - low < n → 10 ≤ low → low ≤ ans → ans ≤ high → high ≤ 9999 → 0 ≤ v4 → v4 + (high - low) ≤ 9989 → vfr (vSt 72) m1 m4 → (∃ i, (10 ≤ i ∧ i ≤ 9999) ∧ vPx (bJ (eB D E) i) 72 m4) → ku10_leastInner_61 most low high v4 w5 m4 Q := by
          intro n
          induction n with
          | zero => intro low high v4 m4 w5 hn; intros; omega
          | succ n ih =>
            intro low high v4 m4 w5 hn b1 b2 b3 b4 b5 b6 f4 hp
            obtain ⟨i, hi, p4⟩ := hp
            have t4 := (hs.fr f1 (fun k i a => vSX_n (by omega) (by omega))).fr f4 (fun k i a => vSt_n (by omega))
            have hJi := bJ_ok hB hi
            refine ru10_leastInner_61 ⟨fun z => by rw [t4.2.1] at z; omega, fun _ => ⟨fun z => ?_, fun z => ⟨by omega, ?_⟩⟩⟩
            · rw [show high = ans by omega]
              exact h m4 (f1.tr (vSt_X f4)) (x1.ft f4 (zp hJi p4))
            · have hmid : 10 ≤ (low + high) / 2 ∧ (low + high) / 2 ≤ 9999 := by omega
              have hJm := bJ_ok hB hmid
              refine sx_within rfl hJi p4 hmid (fun m5 f5 p5 k => ⟨fun z => by omega, fun _ => ⟨by omega, ?_⟩⟩) (fun m5 f5 p5 k => ⟨fun _ => ⟨by omega, ?_⟩, fun z => absurd rfl z⟩)
              · have hen := (benough_iff hJm hNp hmo.2).mp k
                have : ans ≤ (low + high) / 2 := by
                  rcases Int.lt_or_le ((low + high) / 2) ans with d | d
                  · exact absurd hen (a4 _ hmid.1 d)
                  · exact d
                exact ih low ((low + high) / 2) (v4 + 1) m5 _ (by omega) b1 b2 this (by omega) (by omega) (by omega) (f4.tr f5) ⟨_, hmid, p5⟩
              · have hen : ¬ benough (bJ (eB D E) ((low + high) / 2)) most := fun q => k ((benough_iff hJm hNp hmo.2).mpr q)
                have : (low + high) / 2 < ans := by
                  rcases Int.lt_or_le ((low + high) / 2) ans with d | d
                  · exact d
                  · exact absurd (benough_mono hB ⟨a1, a2⟩ hmid d a3) hen
                exact ih ((low + high) / 2 + 1) high (v4 + 1) m5 _ (by omega) (by omega) (by omega) b3 b4 (by omega) (by omega) (f4.tr f5) ⟨_, hmid, p5⟩
        rw [t2.1.1]
        exact go 10000 10 9999 0 m3 none (by decide) (by decide) a1 a2 (by decide) (by decide) (by decide) f23 ⟨9999, ⟨by decide, by decide⟩, p3⟩
      · have hen : ¬ benough (bJ (eB D E) 9999) most := fun w => k ((benough_iff hJ9 hNp hmo.2).mpr w)
        rw [← (an3 hmo q).1 hen]
        have f23 := f2.tr f3
        exact h m3 (f1.tr (vSt_X f23)) (x1.ft f23 (zp hJ9 p3))
  · rw [← an1 (by omega)]; exact h m vfr.rf hX
/-- one exchange tried -/
def ybx (B : vB) (how : Int) (s : Int × Int) (i j : Int) : Int × Int := if 0 < bQ (bR (bX B i j)) how ∧ bcost (bR (bX B i j)) how < s.2 then (100 * i + j, bcost (bR (bX B i j)) how) else s
def ybj (B : vB) (how i : Int) : Nat → Int → Int × Int → Int × Int
  | 0, _, s => s
  | n + 1, j, s => ybj B how i n (j + 1) (ybx B how s i j)
def ybi (B : vB) (how : Int) : Nat → Int → Int × Int → Int × Int
  | 0, _, s => s
  | n + 1, i, s => ybi B how n (i + 1) (ybj B how i n (i + 1) s)
theorem s_bestSwap (c : OC D E) (hX : XC D E m) {Q : Int → vm_M → Prop} (h : ∀ m', vfr vSX m m' → XC D E m' → Q (if eQ D E = 0 then -2 else (ybi (eB D E) (E 6) (dN D).toNat 0 (-2, bcost (bR (eB D E)) (E 6))).1) m') : vm_C 146 [vm_r 0] m (vm_qi Q) := by
  have c9 := c
  obtain ⟨hD, hO, hE⟩ := c9
  have hB := eB_ok hD hO hE
  have hN := hO.2.2.1
  have hN0 := hO.2.1
  have eN : bN (eB D E) = dN D := rfl
  have h6 := hE.2.2.2.2.2.2.1
  refine ru10_bestSwap_0 (sx_layOut c hX (fun m1 f1 x1 l1 _ => ?_))
  have e8 : m1 67 8 = (eQ D E : Int) := l1.2.2.1.1
  rw [e8]
  refine ⟨fun z => sx_prepT c x1 l1 (fun m2 f2 p2 => ?_), fun z => ?_⟩
  · have zp : ∀ {B : vB} {mm : vm_M}, bOK B → vPx B 72 mm → mm 74 0 = 0 := fun hb p => p.2.2.2.2.2 0 (Int.le_refl _) hb.1
    have l2 := l1.ft f2
    refine sx_cost rfl hB l2.2.1 l2.2.2.1 ?_
    have go : ∀ (n : Nat) (i : Int) (s : Int × Int) (m3 : vm_M) (w4 w5 : Option vm_V), 0 ≤ i → i + n = dN D → ybi (eB D E) (E 6) n i s = ybi (eB D E) (E 6) (dN D).toNat 0 (-2, bcost (bR (eB D E)) (E 6)) → vfr (vSt 72) m1 m3 → vPx (eB D E) 72 m3 → ku10_bestSwap_34 s.1 s.2 i w4 w5 m3 Q := by
      intro n
      induction n with
      | zero =>
        intro i s m3 w4 w5 hi hn hk f3 p3
        have x3 := x1.ft f3 (zp hB p3)
        have h := h m3 (f1.tr (vSt_X f3)) x3
        rw [if_neg (by omega), ← hk] at h
        exact ru10_bestSwap_34 ⟨fun _ => h, fun q => by rw [x3.2.1.1] at q; omega⟩
      | succ n ih =>
        intro i s m3 w4 w5 hi hn hk f3 p3
        have hk : ybi (eB D E) (E 6) n (i + 1) (ybj (eB D E) (E 6) i n (i + 1) s) = _ := hk
        have x3 := x1.ft f3 (zp hB p3)
        have gj : ∀ (r : Nat) (j : Int) (s2 : Int × Int) (m4 : vm_M) (w5 : Option vm_V), i < j → j + r = dN D → ybj (eB D E) (E 6) i r j s2 = ybj (eB D E) (E 6) i n (i + 1) s → vfr (vSt 72) m1 m4 → vPx (eB D E) 72 m4 → ku10_bestSwap_50 s2.1 s2.2 i j w5 m4 Q := by
          intro r
          induction r with
          | zero =>
            intro j s2 m4 w5 hj hr hk2 f4 p4
            have x4 := x1.ft f4 (zp hB p4)
            have hk2 : s2 = _ := hk2
            refine ru10_bestSwap_50 ⟨fun _ => ⟨by omega, ih (i + 1) s2 m4 _ _ (by omega) (by omega) (by rw [hk2]; exact hk) f4 p4⟩, fun q => by rw [x4.2.1.1] at q; omega⟩
          | succ r ihr =>
            intro j s2 m4 w5 hj hr hk2 f4 p4
            have x4 := x1.ft f4 (zp hB p4)
            have hk2 : ybj (eB D E) (E 6) i r (j + 1) (ybx (eB D E) (E 6) s2 i j) = _ := hk2
            have e6 : m4 9 4 = E 6 := x4.2.2.1.2.2.2.2.2.2.1
            have hX2 := bX_ok hB (i := i) (j := j) ⟨hi, by omega⟩ ⟨by omega, by omega⟩
            have hcb := bcost_bd (bR_ok hX2) (E 6) (bQ (bR (bX (eB D E) i j)) (E 6) - 1) (by omega)
            have hcb : 0 ≤ bcost (bR (bX (eB D E) i j)) (E 6) ∧ bcost (bR (bX (eB D E) i j)) (E 6) ≤ 99960004 * 12 := hcb
            refine ru10_bestSwap_50 ⟨fun q => by rw [x4.2.1.1] at q; omega, fun _ => ?_⟩
            rw [e6]
            refine sx_costX rfl hB p4 ⟨hi, by omega⟩ ⟨by omega, by omega⟩ h6 (fun m5 f5 p5 => ?_)
            unfold ybx at hk2
            by_cases q : bQ (bR (bX (eB D E) i j)) (E 6) = 0
            · rw [if_pos q]
              rw [if_neg (fun k => by omega)] at hk2
              exact ⟨fun _ => ⟨by omega, ihr (j + 1) s2 m5 _ (by omega) (by omega) hk2 (f4.tr f5) p5⟩, fun z => absurd rfl z⟩
            · rw [if_neg q]
              refine ⟨fun z => by omega, fun _ => ⟨fun z => ⟨by omega, ?_⟩, fun z => ⟨by omega, ?_⟩⟩⟩
              · rw [if_neg (fun k => by omega)] at hk2
                exact ihr (j + 1) s2 m5 _ (by omega) (by omega) hk2 (f4.tr f5) p5
              · rw [if_pos ⟨by omega, by omega⟩] at hk2
                exact ihr (j + 1) (100 * i + j, bcost (bR (bX (eB D E) i j)) (E 6)) m5 _ (by omega) (by omega) hk2 (f4.tr f5) p5
        exact ru10_bestSwap_34 ⟨fun q => by rw [x3.2.1.1] at q; omega, fun _ => ⟨by omega, gj n (i + 1) s m3 _ (by omega) (by omega) rfl f3 p3⟩⟩
    exact go (dN D).toNat 0 (-2, bcost (bR (eB D E)) (E 6)) m2 none none (Int.le_refl _) (by omega) rfl f2 p2
  · have h := h m1 f1 x1
    rw [if_pos (by omega)] at h; exact h
end QC
