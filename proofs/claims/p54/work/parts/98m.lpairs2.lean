/-! ===== gaps and distances of two letters: the method ===== -/
/-- x stands at o, the numbers at q, and else all is as it was -/
def lS3 (D : vD) (E : Int → Int) (z : vZs) (o q : Nat) (S0 S : lwS) : Prop := lO D E z o S ∧ lQ q S ∧ lk2 o q S0 S ∧ S.2 = S0.2
theorem lS3.nx {D D' : vD} {E E' : Int → Int} {z z' : vZs} {o q : Nat} {S0 S S' : lwS} (h : lS3 D E z o q S0 S) (hs : lsame o S S') (hO : lO D' E' z' o S') : lS3 D' E' z' o q S0 S' := ⟨hO, h.2.1.o h.1 hs.fr, h.2.2.1.tr hs.ko, by rw [hs.2]; exact h.2.2.2⟩
theorem lS3.dr {D : vD} {E : Int → Int} {z : vZs} {o q : Nat} {S0 S : lwS} {P : Int → lwS → Prop} (h : lS3 D E z o q S0 S) (kk : ∀ d S', 0 ≤ d ∧ d ≤ 32767 → lS3 D E z o q S0 S' → P d S') : lCi lK_draw [vm_r q] S P :=
  ln_draw h.2.1 (fun d S' hd hs hQ => kk d S' hd ⟨h.1.q h.2.1 hs.fr, hQ, h.2.2.1.tr hs.kq, by rw [hs.2]; exact h.2.2.2⟩)
section LPA
variable {L : Nat} {D : vD} {E : Int → Int} {z : vZs} {o q : Nat} {a b : Int}
theorem lp_meas {t : vTE} {S : lwS} {v : Int} {X : Int → Int → lwS → Prop} (hT : lT D t z o S) (hE : t.2 = E) (ht : t.1.1 (26 * a + b) = v) (ha : dk D a) (hb : dk D b) (h : ∀ S', lsame o S S' → lT D t z o S' → X (vog D a b (vcd1 (vpd D a b (E 3)) v)) (E 3) S') : lNn 115 o [3] S (fun z4 S3 => lNn 119 o [a, b, z4] S3 (fun z6 S5 => (vm_32 (z6 - 9)) ∧ (lNn 118 o [a, b, (z6 - 9)] S5 (fun z8 S7 => lNn 115 o [3] S7 (fun z10 S9 => X z8 z10 S9))))) := by
  subst hE
  have hOC : OC (teD D t) t.2 := hT.1
  have e3 := hOC.2.2.2.2.2.1
  have ha' : dk (teD D t) a := ha
  have hb' : dk (teD D t) b := hb
  have bd := vcd_bd hOC.1 hOC.2.1 ha' hb' e3.2
  have ev : vcd (teD D t) a b (t.2 3) = vcd1 (vpd D a b (t.2 3)) v := by rw [← ht]; rfl
  refine lq_value hT (fun S1 hs1 hT1 => lq_distance hT1 (fun S2 hs2 hT2 => ?_))
  have v3 : a_value (teD D t) t.2 3 = t.2 3 := rfl
  have ed : a_distance (teD D t) t.2 a b (a_value (teD D t) t.2 3) = vcd (teD D t) a b (t.2 3) + 9 := by
    rw [v3]
    unfold a_distance
    rw [vif_t ⟨ha', hb', e3.1, e3.2⟩]
  rw [ed]
  refine ⟨⟨by omega, by omega⟩, lq_gapAt hT2 (fun S3 hs3 hT3 => lq_value hT3 (fun S4 hs4 hT4 => ?_))⟩
  have eg : a_gapAt (teD D t) t.2 a b (vcd (teD D t) a b (t.2 3) + 9 - 9) = vog D a b (vcd1 (vpd D a b (t.2 3)) v) := by
    unfold a_gapAt
    rw [vif_t ⟨ha', hb', by omega, by omega⟩, show vcd (teD D t) a b (t.2 3) + 9 - 9 = vcd (teD D t) a b (t.2 3) by omega, ev]
    rfl
  rw [eg, v3]
  exact h S4 (((hs1.tr hs2).tr hs3).tr hs4) hT4
theorem ld_pairs {S : lwS} {Qp : Option vm_V → lwS → Prop} (hO : lO D E z o S) (hQ : lQ q S) (hG : lGa L D) (kk : ∀ z' S', lS3 D E z' o q S S' → Qp (some (vm_i 1)) S') : lG lK_pairs 0 (lEn lK_pairs [vm_r o, vm_r q]) [] S Qp := by
  have hOC := hO.1
  obtain ⟨hD, hS, hE⟩ := hOC
  obtain ⟨e0, e1, e2, e3, e4, e5, e6, e7⟩ := hE
  obtain ⟨⟨L2, L5⟩, ⟨C1, C2⟩, hL, hdk⟩ := hG
  have v9 : a_value D E 9 = (L : Int) := hL
  have v6 : a_value D E 6 = dC D := rfl
  have v3 : a_value D E 3 = E 3 := rfl
  have dr : ∀ {d m : Int}, 0 < m → 0 ≤ d % m ∧ d % m < m := fun h => ⟨Int.emod_nonneg _ (by omega), Int.emod_lt_of_pos _ h⟩
  have main : ∀ (a b : Int) (S1 : lwS), dk D a → dk D b → lS3 D E z o q S S1 → lG lK_pairs 49 [some (vm_r o), none, some (vm_i a), some (vm_i b), some (vm_i (dK D (26 * a + b))), some (vm_i 1), some (vm_i 0), some (vm_i (-9)), none, none, none, none, none, none, none, none, none] [] S1 Qp := by
    intro a b S1 ha hb h1
    have a1 := ha.1
    have a2 := ha.2.1
    have b1 := hb.1
    have b2 := hb.2.1
    obtain ⟨c, hc⟩ : ∃ c, c = dK D (26 * a + b) := ⟨_, rfl⟩
    have cb : -9 ≤ c ∧ c ≤ 9 := by rw [hc]; exact hS.1 _ (by omega) (by omega)
    rw [← hc]
    have og : ∀ d, 0 ≤ vog D a b d ∧ vog D a b d ≤ dC D := fun d => vog_cp hD
    have ega : ∀ d, -9 ≤ d → d ≤ 99 → a_gapAt D E a b d = vog D a b d := fun d x y => by unfold a_gapAt; rw [vif_t ⟨ha, hb, x, y⟩]
    have edi : ∀ g, 0 ≤ g → g ≤ dC D → a_distance D E a b g = vcd D a b g + 9 := fun g x y => by unfold a_distance; rw [vif_t ⟨ha, hb, x, y⟩]
    obtain ⟨f, hf⟩ : ∃ f, f = yof D a b (E 3) (vpd D a b (E 3)) := ⟨_, rfl⟩
    have f100 : ∀ v, f v < 100 := fun v => by
      rw [hf]
      have := og (vcd1 (vpd D a b (E 3)) v)
      unfold yof
      split <;> omega
    -- the trials of corrections
    have l316 : ∀ (B : Int), (-9 ≤ B ∧ B ≤ 9) → (∀ v, -9 ≤ v → v ≤ 9 → yle f B v) → ∀ (n k : Nat) (z2 : vZs) (off found : Int) (S2 : lwS), k + n = 19 → lcb f k off found → lS3 D E z2 o q S S2 → lG lK_pairs 316 [some (vm_r o), none, some (vm_i a), some (vm_i b), some (vm_i c), some (vm_i 1), none, none, none, none, some (vm_i (B + 9)), some (vm_i off), some (vm_i found), some (vm_i (k : Int)), none, none, none] [] S2 Qp := by
      intro B hB hBm n
      induction n with
      | zero =>
        intro k z2 off found S2 hk hl h2
        obtain rfl : k = 19 := by omega
        have eB := lcb_e hl hB hBm
        have n25 : ¬ dk D 25 := fun x => by have := (hdk 25).mp x; omega
        refine rL_pairs_316 ⟨fun _ => rL_pairs_444 ⟨fun c => absurd c (by decide), fun _ => ⟨⟨by omega, by omega⟩, fun ne => absurd (by omega) ne, fun _ => lq_correction h2.1 (fun S3 hs3 hO3 => ⟨⟨by omega, by omega⟩, fun ne => absurd ?_ ne, fun _ => lq_gapAt hO3 (fun S4 hs4 hO4 => lq_letter hO4 (fun S5 hs5 hO5 => ⟨fun _ => rL_pairs_503 ⟨fun ne => absurd ?_ ne, fun _ => kk z2 S5 (((h2.nx hs3 hO3).nx hs4 hO4).nx hs5 hO5)⟩, fun ne => absurd ?_ ne⟩))⟩)⟩⟩, fun c => absurd (by omega) c⟩
        · unfold a_correction; rw [vif_t ⟨ha, hb⟩, hc]
        · unfold a_gapAt; rw [vif_f (fun x => n25 x.2.1)]
        · unfold a_letter; rw [vif_f n25]; decide
      | succ n ih =>
        intro k z2 off found S2 hk hl h2
        have ck : -9 ≤ lcc k ∧ lcc k ≤ 9 := by unfold lcc; split <;> omega
        have at349 : lG lK_pairs 349 [some (vm_r o), none, some (vm_i a), some (vm_i b), some (vm_i c), none, none, none, none, none, some (vm_i (B + 9)), some (vm_i off), some (vm_i found), some (vm_i (k : Int)), none, none, none] [vm_i (lcc k)] S2 Qp := by
          have nxt : ∀ (z3 : vZs) (S3 : lwS), lS3 D E z3 o q S S3 → lG lK_pairs 436 [some (vm_r o), none, some (vm_i a), some (vm_i b), some (vm_i c), none, none, none, none, none, some (vm_i (B + 9)), some (vm_i (if f (lcc k) < off then f (lcc k) else off)), some (vm_i (if f (lcc k) < off then lcc k else found)), some (vm_i (k : Int)), none, none, none] [vm_i 1] S3 Qp := fun z3 S3 h3 => by
            refine rL_pairs_436 ⟨⟨by omega, by omega⟩, ?_⟩
            have := ih (k + 1) z3 _ _ S3 (by omega) (lcb_s f100 hl) h3
            rwa [show ((k + 1 : Nat) : Int) = (k : Int) + 1 by omega] at this
          have fk : ∀ u, u = vog D a b (vcd1 (vpd D a b (E 3)) (lcc k)) → (if 0 ≤ u - E 3 then u - E 3 else 0 - (u - E 3)) = f (lcc k) := fun u hu => by
            rw [hf]
            unfold yof
            rw [← hu]
            (repeat' split) <;> omega
          have gol : ∀ (t : vTE) (z3 : vZs) (had : Int) (S3 : lwS), t.2 = E → t.1.1 (26 * a + b) = lcc k → lT D t z3 o S3 → (∀ S4, lsame o S3 S4 → lT D t z3 o S4 → lG lK_pairs 406 [some (vm_r o), none, some (vm_i a), some (vm_i b), some (vm_i c), none, none, none, none, none, some (vm_i (B + 9)), some (vm_i off), none, some (vm_i (k : Int)), none, some (vm_i had), some (vm_i (f (lcc k)))] [vm_i (if f (lcc k) < off then lcc k else found)] S4 Qp) → lNn 115 o [3] S3 (fun z4 S3 => lNn 119 o [a, b, z4] S3 (fun z6 S5 => (vm_32 (z6 - 9)) ∧ (lNn 118 o [a, b, (z6 - 9)] S5 (fun z8 S7 => lNn 115 o [3] S7 (fun z10 S9 => (vm_32 (z8 - z10)) ∧ ((vm_32 (0 - ((z8 - z10)))) ∧ ((off ≤ ((if 0 ≤ ((z8 - z10)) then ((z8 - z10)) else 0 - ((z8 - z10)))) → (lG lK_pairs 406 [some (vm_r o), none, some (vm_i a), some (vm_i b), some (vm_i c), none, none, none, none, none, some (vm_i (B + 9)), some (vm_i off), none, some (vm_i (k : Int)), none, some (vm_i had), some (vm_i ((if 0 ≤ ((z8 - z10)) then ((z8 - z10)) else 0 - ((z8 - z10)))))] [vm_i found] S9 Qp)) ∧ (¬ (off ≤ ((if 0 ≤ ((z8 - z10)) then ((z8 - z10)) else 0 - ((z8 - z10))))) → (lG lK_pairs 406 [some (vm_r o), none, some (vm_i a), some (vm_i b), some (vm_i c), none, none, none, none, none, some (vm_i (B + 9)), some (vm_i off), none, some (vm_i (k : Int)), none, some (vm_i had), some (vm_i ((if 0 ≤ ((z8 - z10)) then ((z8 - z10)) else 0 - ((z8 - z10)))))] [vm_i (lcc k)] S9 Qp))))))))) := by
            intro t z3 had S3 hE ht hT hh
            refine lp_meas hT hE ht ha hb (fun S4 hs4 hT4 => ?_)
            have hu := og (vcd1 (vpd D a b (E 3)) (lcc k))
            rw [fk _ rfl]
            have hh := hh S4 hs4 hT4
            refine ⟨⟨by omega, by omega⟩, ⟨by omega, by omega⟩, fun le => ?_, fun le => ?_⟩
            · rwa [if_neg (by omega)] at hh
            · rwa [if_pos (by omega)] at hh
          refine rL_pairs_349 (lp_correct h2.1 (fun ne => absurd ⟨ha, hb, ck.1, ck.2⟩ ne) (fun _ e S3 hs3 hO3 => ?_) (fun _ ne S3 hs3 hT3 => ?_))
          · exact gol (teN D E) z2 (-2) S3 rfl e hO3 (fun S4 hs4 hT4 => rL_pairs_406 ⟨fun _ => nxt z2 S4 ((h2.nx hs3 hO3).nx hs4 hT4), fun c => absurd rfl c⟩)
          · have hK : -9 ≤ dK D (26 * a + b) := by rw [← hc]; exact cb.1
            refine gol (tK (teN D E) (26 * a + b) (lcc k)) (zP z2 (teN D E)) (dK D (26 * a + b) + 9) S3 rfl (if_pos rfl) hT3 (fun S4 hs4 hT4 => rL_pairs_406 ⟨fun c => absurd c (by omega), fun _ => lp_undo hT4 (fun z0 => absurd z0 (by have := zP_pos (z := z2) (t := teN D E); omega)) (fun zp S5 hs5 hT5 => ⟨fun c => absurd c (by omega), fun _ => nxt (zU (zP z2 (teN D E))) S5 (((h2.nx hs3 hT3).nx hs4 hT4).nx hs5 ?_)⟩)⟩)
            rw [zP_top] at hT5
            exact hT5
        refine rL_pairs_316 ⟨fun c => absurd c (by omega), fun _ => ⟨fun c => absurd c (by decide), fun _ => ⟨⟨by omega, by decide⟩, fun odd => ?_, fun even => ?_⟩⟩⟩
        · have ec : Int.tdiv (-((k : Int) + 1)) 2 = lcc k := by
            rw [Int.neg_tdiv, Int.tdiv_eq_ediv_of_nonneg (by omega)]
            unfold lcc
            rw [if_neg (by omega)]
            omega
          rw [ec]
          exact ⟨⟨by omega, by omega⟩, ⟨by omega, by omega⟩, ⟨by decide, by omega, by omega⟩, at349⟩
        · have ec : (k : Int) / 2 = lcc k := by
            unfold lcc
            rw [if_pos (by omega)]
            omega
          rw [ec]
          exact ⟨⟨by omega, by decide⟩, at349⟩
    -- the extremes
    have l211 : ∀ S2 : lwS, lS3 D E z o q S S2 → lG lK_pairs 211 [some (vm_r o), none, some (vm_i a), some (vm_i b), some (vm_i c), some (vm_i 1), none, none, none, none, none, none, none, none, none, none, none] [] S2 Qp := by
      intro S2 h2
      obtain ⟨p, ⟨p0, p1⟩, p2, p3, p4, p5, -⟩ := vex_is ha hb (g := E 3) 0
      obtain ⟨r, ⟨r0, r1⟩, r2, r3, r4, -, r6⟩ := vex_is ha hb (g := E 3) 1
      have ex0 : a_extreme D E 0 = p := p4
      have ex1 : a_extreme D E 1 = r := r4
      have edp : a_distance D E (p / 26) (p % 26) (E 3) = vcd D (p / 26) (p % 26) (E 3) + 9 := by unfold a_distance; rw [vif_t ⟨p2, p3, e3.1, e3.2⟩]
      have edr : a_distance D E (r / 26) (r % 26) (E 3) = vcd D (r / 26) (r % 26) (E 3) + 9 := by unfold a_distance; rw [vif_t ⟨r2, r3, e3.1, e3.2⟩]
      have p5 := p5 rfl
      have r6 := r6 (by decide)
      refine rL_pairs_211 (lq_extreme h2.1 (fun S3 hs3 hO3 => lq_extreme hO3 (fun S4 hs4 hO4 => lq_value hO4 (fun S5 hs5 hO5 => lq_distance hO5 (fun S6 hs6 hO6 => lq_bestCorrection hO6 (fun B hB S7 hs7 hO7 => ?_))))))
      obtain ⟨hB1, hB2⟩ := hB ⟨ha, hb⟩
      rw [vif_t ⟨ha, hb⟩, ex0, ex1, v3, edi _ e3.1 e3.2]
      have h7 := ((((h2.nx hs3 hO3).nx hs4 hO4).nx hs5 hO5).nx hs6 hO6).nx hs7 hO7
      refine ⟨fun c => absurd c (by decide), fun _ => ⟨⟨p0, by decide⟩, ⟨p0, by decide⟩, lq_value hO7 (fun S8 hs8 hO8 => lq_distance hO8 (fun S9 hs9 hO9 => ?_))⟩⟩
      rw [v3, edp]
      refine ⟨fun c => absurd c (by omega), fun _ => ⟨⟨r0, by decide⟩, ⟨r0, by decide⟩, lq_value hO9 (fun S10 hs10 hO10 => lq_distance hO10 (fun S11 hs11 hO11 => ?_))⟩⟩
      rw [v3, edr]
      refine ⟨fun c => absurd c (by omega), fun _ => rL_pairs_304 ?_⟩
      exact l316 B hB1 (by rw [hf]; exact hB2) 19 0 z 100 0 S11 (by decide) (Or.inl ⟨rfl, rfl, rfl⟩) ((((h7.nx hs8 hO8).nx hs9 hO9).nx hs10 hO10).nx hs11 hO11)
    -- distances
    have l112 : ∀ (n : Nat) (g v : Int) (S2 : lwS), g + n = dC D + 1 → 0 ≤ g → (g ≤ dC D → v ≤ vcd D a b g + 9) → lS3 D E z o q S S2 → lG lK_pairs 112 [some (vm_r o), none, some (vm_i a), some (vm_i b), some (vm_i c), some (vm_i 1), some (vm_i v), some (vm_i g), none, none, none, none, none, none, none, none, none] [] S2 Qp := by
      intro n
      induction n with
      | zero =>
        intro g v S2 hg h0 hv h2
        exact rL_pairs_112 (lq_value h2.1 (fun S3 hs3 hO3 => ⟨fun _ => l211 S3 (h2.nx hs3 hO3), fun c => absurd (by rw [v6]; omega) c⟩))
      | succ n ih =>
        intro g v S2 hg h0 hv h2
        have hv := hv (by omega)
        have gC : g ≤ dC D := by omega
        have bd := vcd_bd hD hS ha hb gC
        have pb := vpd_ok hD ha hb gC
        have l132 : ∀ (n2 : Nat) (d : Int) (S3 : lwS), d + n2 = vpd D a b g → -9 ≤ d → lS3 D E z o q S S3 → lG lK_pairs 132 [some (vm_r o), none, some (vm_i a), some (vm_i b), some (vm_i c), none, some (vm_i v), some (vm_i g), some (vm_i d), none, none, none, none, none, none, none, none] [] S3 Qp := by
          intro n2
          induction n2 with
          | zero =>
            intro d S3 hd d0 h3
            have hd : d = vpd D a b g := by omega
            have ev : (if (-9 : Int) < d + c then d + c else -9) = vcd D a b g := by
              unfold vcd vcd1
              rw [← hc, ← hd]
              (repeat' split) <;> omega
            refine rL_pairs_132 (lq_gapAt h3.1 (fun S4 hs4 hO4 => ⟨fun _ => lq_distance hO4 (fun S5 hs5 hO5 => ?_), fun ne => absurd ?_ ne⟩))
            · rw [edi g h0 gC, ev]
              refine ⟨⟨by omega, by omega⟩, ⟨by omega, by omega⟩, fun ne => absurd rfl ne, fun _ => lq_distance hO5 (fun S6 hs6 hO6 => ?_)⟩
              rw [edi g h0 gC]
              refine ⟨fun lt => absurd lt (by omega), fun _ => rL_pairs_193 (lq_distance hO6 (fun S7 hs7 hO7 => ⟨⟨by omega, by omega⟩, ?_⟩))⟩
              rw [edi g h0 gC]
              exact ih (g + 1) _ S7 (by omega) (by omega) (fun hg1 => by have := vcd_mono hD ha hb (show g ≤ g + 1 by omega) hg1; omega) ((((h3.nx hs4 hO4).nx hs5 hO5).nx hs6 hO6).nx hs7 hO7)
            · rw [ega d d0 (by omega)]
              exact (vpd_at hD ha hb gC ⟨d0, by omega⟩).mpr hd
          | succ n2 ih2 =>
            intro d S3 hd d0 h3
            refine rL_pairs_132 (lq_gapAt h3.1 (fun S4 hs4 hO4 => ⟨fun le => absurd ?_ (show ¬ d = vpd D a b g by omega), fun _ => ⟨⟨by omega, by omega⟩, ?_⟩⟩))
            · rw [ega d d0 (by omega)] at le
              exact (vpd_at hD ha hb gC ⟨d0, by omega⟩).mp le
            · exact ih2 (d + 1) S4 (by omega) (by omega) (h3.nx hs4 hO4)
        exact rL_pairs_112 (lq_value h2.1 (fun S3 hs3 hO3 => ⟨fun lt => absurd lt (by rw [v6]; omega), fun _ => ⟨fun z0 => absurd z0 (by decide), fun _ => l132 (vpd D a b g + 9).toNat (-9) S3 (by omega) (by omega) (h2.nx hs3 hO3)⟩⟩))
    -- gaps
    have l49 : ∀ (n : Nat) (d v : Int) (S2 : lwS), d + n = 40 → -9 ≤ d → v ≤ vog D a b d → lS3 D E z o q S S2 → lG lK_pairs 49 [some (vm_r o), none, some (vm_i a), some (vm_i b), some (vm_i c), some (vm_i 1), some (vm_i v), some (vm_i d), none, none, none, none, none, none, none, none, none] [] S2 Qp := by
      intro n
      induction n with
      | zero =>
        intro d v S2 hd d0 hv h2
        refine rL_pairs_49 ⟨fun _ => rL_pairs_106 (l112 (dC D + 1).toNat 0 0 S2 (by omega) (by decide) (fun h => by have := vcd_bd hD hS ha hb (show 0 ≤ dC D by omega); omega) h2), fun c => absurd (by omega) c⟩
      | succ n ih =>
        intro d v S2 hd d0 hv h2
        refine rL_pairs_49 ⟨fun c => absurd c (by omega), fun _ => ⟨fun c => absurd c (by decide), fun _ => lq_gapAt h2.1 (fun S3 hs3 hO3 => ?_)⟩⟩
        rw [ega d d0 (by omega)]
        refine ⟨fun c => absurd c (by omega), fun _ => lq_value hO3 (fun S4 hs4 hO4 => ?_)⟩
        rw [v6]
        have ob := og d
        exact ⟨fun c => absurd c (by omega), fun _ => rL_pairs_94 ⟨⟨by omega, by omega⟩, ih (d + 1) _ S4 (by omega) (by omega) (vog_up hD) ((h2.nx hs3 hO3).nx hs4 hO4)⟩⟩
    exact l49 49 (-9) 0 S1 (by decide) (by decide) (og _).1 h1
  have h0 : lS3 D E z o q S S := ⟨hO, hQ, lk2.rf, rfl⟩
  refine rL_pairs_0 (h0.dr (fun d1 S1 hd1 h1 => lq_value h1.1 (fun S2 hs2 hO2 => ?_)))
  rw [v9]
  have h2 := h1.nx hs2 hO2
  have m1 := dr (d := d1) (m := (L : Int)) (by omega)
  refine ⟨⟨hd1.1, by omega⟩, ⟨by omega, by omega⟩, h2.dr (fun d2 S3 hd2 h3 => lq_value h3.1 (fun S4 hs4 hO4 => ?_))⟩
  rw [v9]
  have h4 := h3.nx hs4 hO4
  have m2 := dr (d := d2) (m := (L : Int)) (by omega)
  have ka : dk D (3 * (d1 % (L : Int))) := (hdk _).mpr ⟨by omega, by omega, by omega⟩
  have kb : dk D (3 * (d2 % (L : Int))) := (hdk _).mpr ⟨by omega, by omega, by omega⟩
  refine ⟨⟨hd2.1, by omega⟩, ⟨by omega, by omega⟩, lq_correction hO4 (fun S5 hs5 hO5 => ?_)⟩
  have hc := hS.1 (26 * (3 * (d1 % (L : Int))) + 3 * (d2 % (L : Int))) (by omega) (by omega)
  have ec : a_correction D E (3 * (d1 % (L : Int))) (3 * (d2 % (L : Int))) = dK D (26 * (3 * (d1 % (L : Int))) + 3 * (d2 % (L : Int))) + 9 := by unfold a_correction; rw [vif_t ⟨ka, kb⟩]
  rw [ec]
  refine ⟨⟨by omega, by omega⟩, ?_⟩
  have := main _ _ S5 ka kb (h4.nx hs5 hO5)
  rwa [show dK D (26 * (3 * (d1 % (L : Int))) + 3 * (d2 % (L : Int))) + 9 - 9 = dK D (26 * (3 * (d1 % (L : Int))) + 3 * (d2 % (L : Int))) by omega]
theorem ln_pairs {S : lwS} {P : Int → lwS → Prop} (hO : lO D E z o S) (hQ : lQ q S) (hG : lGa L D) (kk : ∀ z' S', lS3 D E z' o q S S' → P 1 S') : lCi lK_pairs [vm_r o, vm_r q] S P :=
  ⟨0, 0, ⟨Nat.zero_le _, Nat.zero_le _⟩, ld_pairs (S := (S.1, 0, 0)) hO hQ hG (fun z' S' h => ⟨1, rfl, kk z' _ ⟨h.1, h.2.1, h.2.2.1, rfl⟩⟩)⟩
end LPA
