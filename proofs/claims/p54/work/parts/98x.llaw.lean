/-! ===== the law ===== -/
section LWN
variable {D : vD} {E : Int → Int} {t : vTE} {z : vZs} {o q L : Nat}
theorem ln_setup {S : lwS} {x y : Nat} {P : Nat → lwS → Prop} (hQ : lQ q S) (hb : 25000 + x ≤ S.2.1 ∧ 100000 + y ≤ S.2.2) (kk : ∀ e C W Sd n ps a S', lRnd e C W Sd n ps → (lSetT e C W Sd n ps).length ≤ 1000 → 100 ≤ a → S.1 a = none → S'.1 a = some (lbS (lSetT e C W Sd n ps)) → lQ q S' → lkp q S S' → (x ≤ S'.2.1 ∧ y ≤ S'.2.2) → P a S') : lCr lK_setup [vm_r q] S P := by
  obtain ⟨cT, hcT⟩ : ∃ c : Nat, c = 25000 := ⟨_, rfl⟩
  obtain ⟨zT, hzT⟩ : ∃ c : Nat, c = 100000 := ⟨_, rfl⟩
  rw [← hcT, ← hzT] at hb
  refine ⟨cT, zT, ⟨by omega, by omega⟩, ld_setup (S := (S.1, cT, zT)) (x := 0) (y := 0) hQ ⟨by show 25000 + 0 ≤ cT; omega, by show 100000 + 0 ≤ zT; omega⟩ (fun e C W Sd n ps a S' h1 h2 h3 h4 h5 h6 h7 _ => ⟨a, rfl, kk e C W Sd n ps a _ h1 h2 h3 h4 h5 h6 h7 ⟨?_, ?_⟩⟩)⟩
  · show x ≤ S.2.1 - cT; omega
  · show y ≤ S.2.2 - zT; omega
theorem ln_words {S : lwS} {x y : Nat} {P : Nat → lwS → Prop} (hO : lO D E z o S) (hQ : lQ q S) (hL : vs (vtl D) 26 = L) (hL1 : 1 ≤ L) (ht : ∀ i : Nat, i < L → dk D (3 * (i : Int))) (hb : 100 + x ≤ S.2.1 ∧ 500 + y ≤ S.2.2) (kk : ∀ ws a S', (1 ≤ ws.length ∧ ws.length ≤ 9) → (∀ u ∈ ws, (1 ≤ u.1.length ∧ u.1.length ≤ 5) ∧ ∀ a ∈ u.1, dk D a) → 100 ≤ a → S.1 a = none → S'.1 a = some (lbS (lWt ws)) → lO D E z o S' → lQ q S' → lk2 o q S S' → (x ≤ S'.2.1 ∧ y ≤ S'.2.2) → P a S') : lCr lK_words [vm_r o, vm_r q] S P := by
  obtain ⟨cT, hcT⟩ : ∃ c : Nat, c = 100 := ⟨_, rfl⟩
  obtain ⟨zT, hzT⟩ : ∃ c : Nat, c = 500 := ⟨_, rfl⟩
  rw [← hcT, ← hzT] at hb
  refine ⟨cT, zT, ⟨by omega, by omega⟩, ld_words (S := (S.1, cT, zT)) (x := 0) (y := 0) hO hQ hL hL1 ht ⟨by show 100 + 0 ≤ cT; omega, by show 500 + 0 ≤ zT; omega⟩ (fun ws a S' h1 h2 h3 h4 h5 h6 h7 h8 _ => ⟨a, rfl, kk ws a _ h1 h2 h3 h4 h5 h6 h7 h8 ⟨?_, ?_⟩⟩)⟩
  · show x ≤ S.2.1 - cT; omega
  · show y ≤ S.2.2 - zT; omega
theorem ln_bests {S : lwS} {x y : Nat} {P : Int → lwS → Prop} (hT : lT D t z o S) (hQ : lQ q S) (hG : lGd L (teD D t) t.2) (hb : 64000 + x ≤ S.2.1 ∧ 400000 + y ≤ S.2.2) (kk : ∀ z' S', lT D t z' o S' → lQ q S' → lk2 o q S S' → (x ≤ S'.2.1 ∧ y ≤ S'.2.2) → P 1 S') : lCi lK_bests [vm_r o, vm_r q] S P := by
  obtain ⟨cT, hcT⟩ : ∃ c : Nat, c = 64000 := ⟨_, rfl⟩
  obtain ⟨zT, hzT⟩ : ∃ c : Nat, c = 400000 := ⟨_, rfl⟩
  rw [← hcT, ← hzT] at hb
  refine ⟨cT, zT, ⟨by omega, by omega⟩, ld_bests (S := (S.1, cT, zT)) (x := 0) (y := 0) hT hQ hG ⟨by show 16000 + (16000 + (16000 + (16000 + 0))) ≤ cT; rw [hcT]; decide, by show 100000 + (100000 + (100000 + (100000 + 0))) ≤ zT; rw [hzT]; decide⟩ (fun z' S' h1 h2 h3 _ => ⟨1, rfl, kk z' _ h1 h2 h3 ⟨?_, ?_⟩⟩)⟩
  · show x ≤ S.2.1 - cT; omega
  · show y ≤ S.2.2 - zT; omega
theorem ln_undone {S : lwS} {x y : Nat} {P : Int → lwS → Prop} (hT : lT D t z o S) (hQ : lQ q S) (hG : lGd L (teD D t) t.2) (hb : 68000 + x ≤ S.2.1 ∧ 360000 + y ≤ S.2.2) (kk : ∀ S', lQ q S' → lk2 o q S S' → (x ≤ S'.2.1 ∧ y ≤ S'.2.2) → P 1 S') : lCi lK_undone [vm_r o, vm_r q] S P := by
  obtain ⟨cT, hcT⟩ : ∃ c : Nat, c = 68000 := ⟨_, rfl⟩
  obtain ⟨zT, hzT⟩ : ∃ c : Nat, c = 360000 := ⟨_, rfl⟩
  rw [← hcT, ← hzT] at hb
  refine ⟨cT, zT, ⟨by omega, by omega⟩, ld_undone (S := (S.1, cT, zT)) (x := 0) (y := 0) hT hQ hG ⟨by show 16000 + (16000 + (16000 + (20000 + 0))) ≤ cT; rw [hcT]; decide, by show 100000 + (100000 + (100000 + (60000 + 0))) ≤ zT; rw [hzT]; decide⟩ (fun S' h1 h2 _ => ⟨1, rfl, kk _ h1 h2 ⟨?_, ?_⟩⟩)⟩
  · show x ≤ S.2.1 - cT; omega
  · show y ≤ S.2.2 - zT; omega
end LWN
/-- what one round of the law needs -/
def lbx (x : Nat) : Nat := 96 + (25000 + (100 + (100 + (100 + (64000 + (68000 + x))))))
def lby (y : Nat) : Nat := 18373 + (100000 + (500 + (500 + (500 + (400000 + (360000 + y))))))
section LLW
variable {Ls : Nat} {Qp : Option vm_V → lwS → Prop}
theorem ll_round (hLs : Ls ≤ 3072) {q : Nat} {i x0 : Int} {S : lwS} {x y : Nat} (hi : 0 ≤ i ∧ i < 2) (hQ : lQ q S) (hb : lbx x ≤ S.2.1 ∧ lby y ≤ S.2.2) (kk : ∀ S', lQ q S' → (x ≤ S'.2.1 ∧ y ≤ S'.2.2) → lG (lK_law Ls) 157 [some (vm_r (99)), some (vm_r (q)), none, some (vm_i (i)), none, none, none] [vm_i 1] S' Qp) : lG (lK_law Ls) 37 [some (vm_r (99)), some (vm_r (q)), none, some (vm_i (i)), none, none, none] [vm_i x0, vm_i 7, vm_r q] S Qp := by
  obtain ⟨hb1, hb2⟩ := hb
  unfold lbx at hb1
  unfold lby at hb2
  obtain ⟨x6, hx6⟩ : ∃ c, c = 68000 + x := ⟨_, rfl⟩
  obtain ⟨x5, hx5⟩ : ∃ c, c = 64000 + x6 := ⟨_, rfl⟩
  obtain ⟨x4, hx4⟩ : ∃ c, c = 100 + x5 := ⟨_, rfl⟩
  obtain ⟨x3, hx3⟩ : ∃ c, c = 100 + x4 := ⟨_, rfl⟩
  obtain ⟨x2, hx2⟩ : ∃ c, c = 100 + x3 := ⟨_, rfl⟩
  obtain ⟨x1, hx1⟩ : ∃ c, c = 25000 + x2 := ⟨_, rfl⟩
  obtain ⟨y6, hy6⟩ : ∃ c, c = 360000 + y := ⟨_, rfl⟩
  obtain ⟨y5, hy5⟩ : ∃ c, c = 400000 + y6 := ⟨_, rfl⟩
  obtain ⟨y4, hy4⟩ : ∃ c, c = 500 + y5 := ⟨_, rfl⟩
  obtain ⟨y3, hy3⟩ : ∃ c, c = 500 + y4 := ⟨_, rfl⟩
  obtain ⟨y2, hy2⟩ : ∃ c, c = 500 + y3 := ⟨_, rfl⟩
  obtain ⟨y1, hy1⟩ : ∃ c, c = 100000 + y2 := ⟨_, rfl⟩
  rw [← hx6, ← hx5, ← hx4, ← hx3, ← hx2, ← hx1] at hb1
  rw [← hy6, ← hy5, ← hy4, ← hy3, ← hy2, ← hy1] at hb2
  obtain ⟨l, hl1, hl2⟩ := hQ
  refine rL_law_37 hLs ⟨l, hl1, ⟨by decide, by rw [hl2]; decide⟩, ?_⟩
  have hQ1 : lQ q ((lup S.1 q (lbA (l.set (7 : Int).toNat x0)), S.2) : lwS) := ⟨_, lup_s _ _ _, by rw [List.length_set]; exact hl2⟩
  have hc1 : 96 + x1 ≤ ((lup S.1 q (lbA (l.set (7 : Int).toNat x0)), S.2) : lwS).2.1 ∧ 18373 + y1 ≤ ((lup S.1 q (lbA (l.set (7 : Int).toNat x0)), S.2) : lwS).2.2 := ⟨hb1, hb2⟩
  generalize ((lup S.1 q (lbA (l.set (7 : Int).toNat x0)), S.2) : lwS) = S1 at hQ1 hc1 ⊢
  refine ln_Nx x1 y1 hc1 (fun o S2 ho1 ho2 hf2 hO2 hc2 => ?_)
  have noq := hQ1.nn ho2
  have hQ2 := hQ1.fr hf2 noq.symm
  rw [hx1, hy1] at hc2
  refine ln_setup hQ2 hc2 (fun e C W Sd n ps a S4 hrnd hlen ha1 ha2 hA hQ4 hk4 hc4 => ?_)
  have hO4 : lO d0 e0 z0 o S4 := hO2.kp hk4 noq
  obtain ⟨hok, hn, hC, he0, he1, he2, he4, he5⟩ := hrnd
  rw [hx2, hy2] at hc4
  refine ln_loads hO4 (Or.inr hA) hok (lSetT_tx hok) (by omega) hc4 (fun s' z' S6 hR hO6 _ hk6 hc6 => ⟨fun c => absurd c (by decide), fun _ => ?_⟩)
  have hQ6 := hQ4.kp hk6 noq.symm
  obtain ⟨gA, gK⟩ := lread_good hR hok hn hC
  refine ln_pairs hO6 hQ6 gA (fun z8 S8 h8 => ⟨fun c => absurd c (by decide), fun _ => ?_⟩)
  have hc8 := hc6
  rw [← h8.2.2.2, hx3, hy3] at hc8
  refine ln_words h8.1 h8.2.1 gA.2.2.1 (by omega) (fun i hi => (gA.2.2.2 _).mpr ⟨by omega, by omega, by omega⟩) hc8 (fun ws a2 S10 hws hwu ha3 ha4 hA2 hO10 hQ10 hk10 hc10 => ?_)
  rw [hx4, hy4] at hc10
  have hww := lWt_len ws (fun u hu => (hwu u hu).1.2)
  refine ln_says hO10 (Or.inr hA2) hws.2 hwu (lWt_tx ws (fun u hu a ha => by have := (hwu u hu).2 a ha; exact ⟨this.1, this.2.1⟩)) (by omega) hc10 (fun t z12 S12 hT12 ht1 ht2 hsaid hk12 hc12 => ⟨fun c => absurd c (by decide), fun _ => ?_⟩)
  have hQ12 := hQ10.kp hk12 (lOQ hO10 hQ10).symm
  -- the state is good
  have gD : lGd n (teD (pD s') t) t.2 := by
    refine ⟨gA, fun k k0 k1 k2 => ?_, ?_, ?_⟩
    · have k2 : t.1.1 k ≠ 0 := k2
      rw [ht2] at k2
      exact gK k k0 k1 k2
    · obtain ⟨-, r2, -⟩ := hR
      rw [ht1]
      have p : ∀ k, 0 ≤ k → k < 6 → pN6 s' k = e k := fun k k0 k6 => by
        show (if k < 6 then pE s' k else 0) = e k
        rw [if_pos k6, r2 k k0 k6]
      unfold lGe
      rw [p 0 (by decide) (by decide), p 2 (by decide) (by decide), p 4 (by decide) (by decide), p 5 (by decide) (by decide)]
      omega
    · refine ⟨?_, fun w w0 w1 => (hsaid.2 w w0 w1).2⟩
      rw [hsaid.1]
      omega
  have hw12 : 1 ≤ dN (teD (pD s') t) ∧ dN (teD (pD s') t) ≤ 12 := by have := gD.2.2.2.1; omega
  refine ln_stands hT12 hw12 (fun S14 h14 => ⟨fun c => absurd c (by decide), fun _ => rL_law_95 hLs ?_⟩)
  have hT14 : lT (pD s') t z12 o S14 := h14.1
  have hQ14 := hQ12.o hT12 h14.2.fr
  have hc14 : x5 ≤ S14.2.1 ∧ y5 ≤ S14.2.2 := by rw [h14.2.2]; exact hc12
  -- the acts
  have acts : ∀ (m k : Nat) (u : vTE) (z3 : vZs) (S3 : lwS), k + m = 8 → lT (pD s') u z3 o S3 → lQ q S3 → lGd n (teD (pD s') u) u.2 → (x5 ≤ S3.2.1 ∧ y5 ≤ S3.2.2) → lG (lK_law Ls) 99 [some (vm_r (99)), some (vm_r (q)), some (vm_i (1)), some (vm_i (i)), some (vm_r (o)), some (vm_i ((k : Int))), none] [] S3 Qp := by
    intro m
    induction m with
    | zero =>
      intro k u z3 S3 hk hT3 hQ3 hG3 hc3
      rw [hx5, hy5] at hc3
      refine rL_law_99 hLs ⟨fun _ => rL_law_130 hLs ⟨fun c => absurd c (by decide), fun _ => ln_bests hT3 hQ3 hG3 hc3 (fun z4 S4 hT4 hQ4 _ hc4 => ⟨fun c => absurd c (by decide), fun _ => ?_⟩)⟩, fun c => absurd (by omega) c⟩
      rw [hx6, hy6] at hc4
      exact ln_undone hT4 hQ4 hG3 hc4 (fun S5 hQ5 _ hc5 => ⟨fun c => absurd c (by decide), fun _ => kk S5 hQ5 hc5⟩)
    | succ m ih =>
      intro k u z3 S3 hk hT3 hQ3 hG3 hc3
      refine rL_law_99 hLs ⟨fun c => absurd c (by omega), fun _ => ⟨fun c => absurd c (by decide), fun _ => ln_acts hT3 hQ3 hG3 (fun r u' z4 S4 hA hT4 hQ4 _ hb4 => ?_)⟩⟩
      have hT4 : lT (pD s') u' z4 o S4 := hT4
      have hG4 : lGd n (teD (pD s') u') u'.2 := hA.1
      refine ln_stands hT4 (by have := hG4.2.2.2.1; omega) (fun S5 h5 => ⟨⟨by omega, by omega⟩, ?_⟩)
      have hT5 : lT (pD s') u' z4 o S5 := h5.1
      have := ih (k + 1) u' z4 S5 (by omega) hT5 (hQ4.o hT4 h5.2.fr) hG4 (by rw [h5.2.2, hb4]; exact hc3)
      rwa [show ((k + 1 : Nat) : Int) = (k : Int) + 1 by omega] at this
  exact acts 8 0 t z12 S14 (by decide) hT14 hQ14 gD hc14
/-- the law answers true -/
theorem ll_law (hLs : Ls ≤ 3072) {S : lwS} (hb : 1 + lbx (lbx 0) ≤ S.2.1 ∧ 8 + lby (lby 0) ≤ S.2.2) (kk : ∀ S', Qp (some (vm_i 1)) S') : lG (lK_law Ls) 0 [some (vm_r (99)), none, none, none, none, none, none] [] S Qp := by
  obtain ⟨xa, hxa⟩ : ∃ c, c = lbx 0 := ⟨_, rfl⟩
  obtain ⟨ya, hya⟩ : ∃ c, c = lby 0 := ⟨_, rfl⟩
  obtain ⟨xb, hxb⟩ : ∃ c, c = lbx xa := ⟨_, rfl⟩
  obtain ⟨yb, hyb⟩ : ∃ c, c = lby ya := ⟨_, rfl⟩
  rw [← hxa, ← hya, ← hxb, ← hyb] at hb
  have f9 : ∀ (q : Nat) (i : Int) (S1 : lwS) (x y : Nat), (0 ≤ i ∧ i < 2) → lQ q S1 → (lbx x ≤ S1.2.1 ∧ lby y ≤ S1.2.2) → (∀ S', lQ q S' → (x ≤ S'.2.1 ∧ y ≤ S'.2.2) → lG (lK_law Ls) 9 [some (vm_r (99)), some (vm_r (q)), some (vm_i (1)), some (vm_i (i + 1)), none, none, none] [] S' Qp) → lG (lK_law Ls) 9 [some (vm_r (99)), some (vm_r (q)), some (vm_i (1)), some (vm_i (i)), none, none, none] [] S1 Qp := fun q i S1 x y hi hQ hc nxt => by
    have go : ∀ x0, lG (lK_law Ls) 37 [some (vm_r (99)), some (vm_r (q)), none, some (vm_i (i)), none, none, none] [vm_i x0, vm_i 7, vm_r q] S1 Qp := fun x0 => ll_round hLs hi hQ hc (fun S2 hQ2 hc2 => rL_law_157 hLs ⟨⟨by omega, by omega⟩, nxt S2 hQ2 hc2⟩)
    exact rL_law_9 hLs ⟨fun c => absurd c (by omega), fun _ => ⟨fun c => absurd c (by decide), fun _ => ⟨fun _ => ⟨⟨by omega, by omega⟩, go _⟩, fun c => ⟨⟨hi.1, by omega⟩, fun z1 _ => go z1⟩⟩⟩⟩
  refine rL_law_0 hLs ⟨⟨by omega, by omega⟩, fun q hq1 hq2 => ?_⟩
  have hQ : lQ q ((lup S.1 q (lbA (List.replicate 8 0)), S.2.1 - 1, S.2.2 - 8) : lwS) := ⟨_, lup_s _ _ _, List.length_replicate⟩
  refine f9 q 0 _ xa ya ⟨by decide, by decide⟩ hQ ⟨by show lbx xa ≤ S.2.1 - 1; rw [← hxb]; omega, by show lby ya ≤ S.2.2 - 8; rw [← hyb]; omega⟩ (fun S2 hQ2 hc2 => ?_)
  refine f9 q 1 S2 0 0 ⟨by decide, by decide⟩ hQ2 (by rw [← hxa, ← hya]; exact hc2) (fun S3 hQ3 _ => ?_)
  exact rL_law_9 hLs ⟨fun _ => rL_law_164 hLs ⟨Or.inr rfl, kk S3⟩, fun c => absurd (by decide) c⟩
end LLW
