/-! ===== a random setup's text: the method ===== -/
theorem lZ.less {b q k N x y x' y' : Nat} {l : List Int} {S0 S : lwS} (h : lZ b q l k N x y S0 S) (hx : x' ≤ x) (hy : y' ≤ y) : lZ b q l k N x' y' S0 S := by
  obtain ⟨⟨c, h1, h2, h3, h4⟩, h5⟩ := h
  exact ⟨⟨c, h1, h2, Nat.le_trans (Nat.add_le_add_left hx _) h3, Nat.le_trans (Nat.add_le_add_left hy _) h4⟩, h5⟩
theorem lZ.eq {b q k N x y : Nat} {l l' : List Int} {S0 S : lwS} (h : lZ b q l k N x y S0 S) (e : l = l') : lZ b q l' k N x y S0 S := e ▸ h
/-- the numbers of a random setup -/
def lE6 (e0 e1 e2 e3 e4 e5 : Int) : Int → Int := fun k => if k = 0 then e0 else if k = 1 then e1 else if k = 2 then e2 else if k = 3 then e3 else if k = 4 then e4 else e5
/-- what is known of a random setup -/
def lRnd (e : Int → Int) (C : Int) (W Sd : Int → Int) (n : Nat) (ps : List (Int × Int × Bool × Int)) : Prop := lSetOk e C W Sd n ps ∧ (2 ≤ n ∧ n ≤ 5) ∧ C ≤ 12 ∧ (20 ≤ e 0 ∧ e 0 ≤ 169) ∧ e 1 ≤ 64 ∧ e 2 ≤ 4 ∧ e 4 ≤ 8 ∧ e 5 ≤ 2
section LSV
variable {q : Nat}
set_option maxRecDepth 8000 in
theorem ld_setup {S : lwS} {x y : Nat} {Qp : Option vm_V → lwS → Prop} (hQ : lQ q S) (hb : 25000 + x ≤ S.2.1 ∧ 100000 + y ≤ S.2.2) (kk : ∀ e C W Sd n ps a S', lRnd e C W Sd n ps → (lSetT e C W Sd n ps).length ≤ 1000 → 100 ≤ a → S.1 a = none → S'.1 a = some (lbS (lSetT e C W Sd n ps)) → lQ q S' → lkp q S S' → (x ≤ S'.2.1 ∧ y ≤ S'.2.2) → Qp (some (vm_r a)) S') : lG lK_setup 0 (lEn lK_setup [vm_r q]) [] S Qp := by
  obtain ⟨X, hX⟩ : ∃ u, u = x + 2 := ⟨_, rfl⟩
  obtain ⟨Y, hY⟩ : ∃ u, u = y + 4 + 1000 := ⟨_, rfl⟩
  have hbx : 1000 + (X + 20600) + 2 ≤ S.2.1 := by rw [hX]; exact Nat.le_trans (by omega) hb.1
  have hby : 4000 + (Y + 84000 + 10) + 20 ≤ S.2.2 := Nat.le_trans (m := 100000 + y) (by rw [hY]; clear hb hbx; omega) hb.2
  have dr : ∀ {d m : Int}, 0 < m → 0 ≤ d % m ∧ d % m < m := fun h => ⟨Int.emod_nonneg _ (by omega), Int.emod_lt_of_pos _ h⟩
  -- the pairs
  have pairs : ∀ (n : Nat) (e : Int → Int) (C : Int) (W Sd : Int → Int) (L : Nat) (ps : List (Int × Int × Bool × Int)) (b : Nat) (S2 : lwS), S.1 b = none → n + ps.length ≤ 3 → lRnd e C W Sd L ps → lZ b q (lSetT e C W Sd L ps) (600 + 20 * ps.length) 1000 X Y S S2 → lG lK_setup 222 [some (vm_r q), none, some (vm_r b), some (vm_i (L : Int)), some (vm_i (n : Int))] [] S2 Qp := by
    intro n
    induction n with
    | zero =>
      intro e C W Sd L ps b S2 hb0 hn hR hZ
      obtain ⟨h1, h2, h3, h4⟩ := hZ
      rw [hX, hY] at h1
      refine rL_setup_222 ⟨fun _ => ln_To h1 (by omega) (fun a S3 ha hna hf hA hc => ?_), fun c => absurd (by omega) c⟩
      have naq : q ≠ a := fun e9 => by
        obtain ⟨l9, h9, -⟩ := h2
        rw [e9, hna] at h9
        cases h9
      have hk : lk2 b q S S3 := h3.tr (hf.kn (o := b) hna).ko
      have nab : a ≠ b := fun e9 => by
        obtain ⟨c9, -, h9, -⟩ := h1
        rw [← e9, hna] at h9
        cases h9
      refine kk e C W Sd L ps a S3 hR (by omega) ha ?_ hA (h2.fr hf naq) (fun r hr hrq => hk r hr (fun e9 => hr (by rw [e9]; exact hb0)) hrq) hc
      cases hS : S.1 a with
      | none => rfl
      | some B =>
        have := h3.s hS nab naq.symm
        rw [hna] at this
        cases this
    | succ n ih =>
      intro e C W Sd L ps b S2 hb0 hn hR hZ
      have hL2 := hR.2.1
      refine rL_setup_222 ⟨fun c => absurd c (by omega), fun _ => ?_⟩
      refine lz_s hZ [112, 97, 105, 114, 32] (by decide) (by decide) (by decide) (605 + 20 * ps.length) (by show _ + 5 ≤ _; omega) (by omega) (fun S3 hZ => lz_d hZ (fun d1 S4 hd1 hZ => ?_))
      have m1 := dr (d := d1) (m := (L : Int)) (by omega)
      refine ⟨⟨hd1.1, by omega⟩, ⟨by omega, by omega⟩, ⟨by omega, by omega⟩, ⟨by omega, by omega⟩, ?_⟩
      refine lz_c hZ ⟨by omega, by omega⟩ (by decide) (606 + 20 * ps.length) (by omega) (by omega) (fun S5 hZ => lz_c hZ (by decide) (by decide) (607 + 20 * ps.length) (by omega) (by omega) (fun S6 hZ => lz_d hZ (fun d2 S7 hd2 hZ => ?_)))
      have m2 := dr (d := d2) (m := (L : Int)) (by omega)
      refine ⟨⟨hd2.1, by omega⟩, ⟨by omega, by omega⟩, ⟨by omega, by omega⟩, ⟨by omega, by omega⟩, ?_⟩
      refine lz_c hZ ⟨by omega, by omega⟩ (by decide) (608 + 20 * ps.length) (by omega) (by omega) (fun S8 hZ => lz_d hZ (fun d3 S9 hd3 hZ => ⟨⟨hd3.1, by decide⟩, ?_⟩))
      have fin : ∀ (cl : Bool) (t : Nat), t < 48 → (if cl then [32, 99, 108, 111, 115, 101, 114, 32] else [32, 119, 105, 100, 101, 114, 32] : List Int) = vm_strL.getD t [] → lG lK_setup 284 [some (vm_r q), none, some (vm_r b), some (vm_i (L : Int)), some (vm_i ((n + 1 : Nat) : Int))] [vm_r t, vm_r b] S9 Qp := by
        intro cl t ht htw
        have hl8 : (if cl then [32, 99, 108, 111, 115, 101, 114, 32] else [32, 119, 105, 100, 101, 114, 32] : List Int).length ≤ 8 := by cases cl <;> decide
        refine rL_setup_284 (lz_s hZ _ ht htw (by decide) (616 + 20 * ps.length) (by omega) (by omega) (fun S10 hZ => lz_d hZ (fun d4 S11 hd4 hZ => ⟨⟨hd4.1, by decide⟩, ?_⟩)))
        have m4 := dr (d := d4) (m := 10) (by decide)
        refine lz_i hZ ⟨by omega, by omega⟩ (by decide) (619 + 20 * ps.length) (by omega) (by omega) (fun S12 hZ => lz_s hZ [59] (by decide) (by decide) (by decide) (620 + 20 * ps.length) (by show _ + 1 ≤ _; omega) (by omega) (fun S13 hZ => ⟨⟨by omega, by omega⟩, ?_⟩))
        have hR2 : lRnd e C W Sd L (ps ++ [(3 * (d1 % (L : Int)), 3 * (d2 % (L : Int)), cl, d4 % 10)]) := by
          obtain ⟨⟨a1, a2, a3, a4, a5⟩, a6⟩ := hR
          refine ⟨⟨a1, a2, a3, a4, fun p hp => ?_⟩, a6⟩
          rcases List.mem_append.mp hp with h | h
          · exact a5 p h
          · rw [List.mem_singleton.mp h]
            exact ⟨⟨(d1 % (L : Int)).toNat, (d2 % (L : Int)).toNat, by omega, by omega, by show 3 * (d1 % (L : Int)) = _; omega, by show 3 * (d2 % (L : Int)) = _; omega⟩, by show 0 ≤ d4 % 10; omega, by show d4 % 10 ≤ 9; omega⟩
        have := ih e C W Sd L (ps ++ [(3 * (d1 % (L : Int)), 3 * (d2 % (L : Int)), cl, d4 % 10)]) b S13 hb0 (by rw [List.length_append]; simp; omega) hR2 (by
          refine (show lZ b q _ (600 + 20 * (ps ++ [(3 * (d1 % (L : Int)), 3 * (d2 % (L : Int)), cl, d4 % 10)]).length) 1000 X Y S S13 from ?_)
          rw [List.length_append, List.length_singleton, show 600 + 20 * (ps.length + 1) = 620 + 20 * ps.length by omega]
          refine hZ.eq ?_
          unfold lSetT
          rw [lPs_snoc, lBoard_app, lLs_app, lBoard_app e C (lLs W Sd L 0 (lPs ps ++ _)), lLs_app W Sd L 0 (lPs ps ++ _)]
          unfold lPr
          cases cl <;> simp only [List.append_assoc, List.cons_append, List.nil_append, if_true, Bool.false_eq_true, if_false])
        rwa [show ((n + 1 : Nat) : Int) + -1 = (n : Int) by omega]
      exact ⟨fun c => fin false 44 (by decide) (by decide), fun c => fin true 43 (by decide) (by decide)⟩
  -- the letters
  have lets : ∀ (n i L : Nat) (e : Int → Int) (C : Int) (W Sd : Int → Int) (b : Nat) (S2 : lwS), S.1 b = none → i + n = L → (2 ≤ L ∧ L ≤ 5) → ((1 ≤ C ∧ C ≤ 30) ∧ (∀ k, 0 ≤ k → k < 6 → plo k ≤ e k ∧ e k ≤ phi C k)) → (C ≤ 12 ∧ (20 ≤ e 0 ∧ e 0 ≤ 169) ∧ e 1 ≤ 64 ∧ e 2 ≤ 4 ∧ e 4 ≤ 8 ∧ e 5 ≤ 2) → (∀ j : Nat, j < i → 1 ≤ W (3 * j) ∧ W (3 * j) ≤ 60 ∧ ∀ t, 0 ≤ t → t < 12 → -1 ≤ Sd (12 * (3 * j) + t) ∧ Sd (12 * (3 * j) + t) ≤ 9) → lZ b q (lBoard e C [] ++ lLs W Sd i 0 []) (100 + 100 * i) 1000 (X + 4120 * n) (Y + 16800 * n) S S2 → lG lK_setup 138 [some (vm_r q), none, some (vm_r b), some (vm_i (L : Int)), some (vm_i (i : Int))] [] S2 Qp := by
    intro n
    induction n with
    | zero =>
      intro i L e C W Sd b S2 hb0 hi hL hC hR hW hZ
      obtain rfl : i = L := by omega
      refine rL_setup_138 ⟨fun _ => lz_d hZ (fun d S3 hd hZ => ⟨⟨hd.1, by decide⟩, ?_⟩), fun c => absurd (by omega) c⟩
      have m := dr (d := d) (m := 4) (by decide)
      have hZ2 : lZ b q (lSetT e C W Sd i []) (600 + 20 * ([] : List (Int × Int × Bool × Int)).length) 1000 X Y S S3 := by
        obtain ⟨h1, h2, h3, h4⟩ := (hZ.less (x' := X) (y' := Y) (Nat.le_refl _) (Nat.le_refl _))
        refine (show lZ b q (lBoard e C [] ++ lLs W Sd i 0 []) _ 1000 X Y S S3 from ⟨h1, h2, h3, by show _ ≤ 600 + 20 * 0; omega⟩).eq ?_
        unfold lSetT
        rw [lBoard_app e C (lLs W Sd i 0 (lPs []))]
        rfl
      have := pairs (d % 4).toNat e C W Sd i [] b S3 hb0 (by simp; omega) ⟨⟨hC.1, hC.2, ⟨by omega, by omega⟩, hW, fun q hq => by cases hq⟩, hL, hR⟩ hZ2
      rwa [show (((d % 4).toNat : Nat) : Int) = d % 4 by omega] at this
    | succ n ih =>
      intro i L e C W Sd b S2 hb0 hi hL hC hR hW hZ
      refine rL_setup_138 ⟨fun c => absurd c (by omega), fun _ => ?_⟩
      refine lz_s hZ [108, 101, 116, 116, 101, 114, 32] (by decide) (by decide) (by decide) (107 + 100 * i) (by show _ + 7 ≤ _; omega) (by omega) (fun S3 hZ => ⟨⟨by omega, by omega⟩, ⟨by omega, by omega⟩, ⟨by omega, by omega⟩, ?_⟩)
      refine lz_c hZ ⟨by omega, by omega⟩ (by decide) (108 + 100 * i) (by omega) (by omega) (fun S4 hZ => ?_)
      refine lz_s hZ [32, 119, 105, 100, 101, 32] (by decide) (by decide) (by decide) (114 + 100 * i) (by show _ + 6 ≤ _; omega) (by omega) (fun S5 hZ => lz_d hZ (fun d1 S6 hd1 hZ => ⟨⟨hd1.1, by decide⟩, ⟨by omega, by omega⟩, ?_⟩))
      have m1 := dr (d := d1) (m := 20) (by decide)
      refine lz_i hZ ⟨by omega, by omega⟩ (by decide) (117 + 100 * i) (by omega) (by omega) (fun S7 hZ => ?_)
      refine lz_s hZ [32, 108, 101, 102, 116] (by decide) (by decide) (by decide) (122 + 100 * i) (by show _ + 5 ≤ _; omega) (by omega) (fun S8 hZ => ?_)
      refine lz_side (x := X + 4120 * n + 2060) (y := Y + 16800 * n + 8400) (hZ.less (by clear hZ hb hbx hby; show X + 4120 * n + 2060 + 2000 + 60 ≤ _; omega) (by clear hZ hb hbx hby; show Y + 16800 * n + 8400 + 8000 + 400 ≤ _; omega)) (by decide) (152 + 100 * i) (by omega) (by omega) (fun f1 S9 hf1 hZ => ?_)
      refine lz_s hZ [32, 114, 105, 103, 104, 116] (by decide) (by decide) (by decide) (158 + 100 * i) (by show _ + 6 ≤ _; omega) (by omega) (fun S10 hZ => ?_)
      refine lz_side (x := X + 4120 * n) (y := Y + 16800 * n) (hZ.less (by clear hZ hb hbx hby; show X + 4120 * n + 2000 + 60 ≤ _; omega) (by clear hZ hb hbx hby; show Y + 16800 * n + 8000 + 400 ≤ _; omega)) (by decide) (188 + 100 * i) (by omega) (by omega) (fun f2 S11 hf2 hZ => ?_)
      refine lz_s hZ [59] (by decide) (by decide) (by decide) (200 + 100 * i) (by show _ + 1 ≤ _; omega) (by omega) (fun S12 hZ => ⟨⟨by omega, by omega⟩, ?_⟩)
      obtain ⟨W', hW'⟩ : ∃ g : Int → Int, ∀ a, g a = if a = 3 * (i : Int) then 1 + d1 % 20 else W a := ⟨_, fun _ => rfl⟩
      obtain ⟨S', hS'⟩ : ∃ g : Int → Int, ∀ j, g j = if 36 * (i : Int) ≤ j ∧ j < 36 * (i : Int) + 6 then f1 (j - 36 * (i : Int)) else if 36 * (i : Int) + 6 ≤ j ∧ j < 36 * (i : Int) + 12 then f2 (j - 36 * (i : Int) - 6) else Sd j := ⟨_, fun _ => rfl⟩
      have hWS : ∀ j : Nat, j < i + 1 → 1 ≤ W' (3 * j) ∧ W' (3 * j) ≤ 60 ∧ ∀ t, 0 ≤ t → t < 12 → -1 ≤ S' (12 * (3 * j) + t) ∧ S' (12 * (3 * j) + t) ≤ 9 := fun j hj => by
        by_cases q9 : j = i
        · subst q9
          rw [hW', if_pos rfl]
          refine ⟨by omega, by omega, fun t t0 t1 => ?_⟩
          rw [hS']
          by_cases q8 : t < 6
          · rw [if_pos ⟨by omega, by omega⟩]; exact hf1 _ (by omega) (by omega)
          · rw [if_neg (by omega), if_pos ⟨by omega, by omega⟩]; exact hf2 _ (by omega) (by omega)
        · have := hW j (by omega)
          rw [hW', if_neg (by omega)]
          refine ⟨this.1, this.2.1, fun t t0 t1 => ?_⟩
          rw [hS', if_neg (by omega), if_neg (by omega)]
          exact this.2.2 t t0 t1
      have e1 : ∀ r, lSd (fun j => S' (12 * (3 * (i : Int)) + j)) 6 0 r = lSd f1 6 0 r := fun r => lSd_cg 6 0 r (fun j h1 h2 => by rw [hS', if_pos ⟨by omega, by omega⟩]; exact congrArg f1 (by omega))
      have e2 : ∀ r, lSd (fun j => S' (12 * (3 * (i : Int)) + (6 + j))) 6 0 r = lSd f2 6 0 r := fun r => lSd_cg 6 0 r (fun j h1 h2 => by rw [hS', if_neg (by omega), if_pos ⟨by omega, by omega⟩]; exact congrArg f2 (by omega))
      have e3 : lLs W' S' i 0 [] = lLs W Sd i 0 [] := lLs_cg i 0 [] (fun a h1 h2 => by rw [hW', if_neg (by omega)]) (fun j h1 h2 => by rw [hS', if_neg (by omega), if_neg (by omega)])
      have := ih (i + 1) L e C W' S' b S12 hb0 (by omega) hL hC hR hWS (by
        refine (show lZ b q _ (100 + 100 * (i + 1)) 1000 (X + 4120 * n) (Y + 16800 * n) S S12 from ?_)
        rw [show 100 + 100 * (i + 1) = 200 + 100 * i by omega]
        refine hZ.eq ?_
        rw [lLs_snoc, e3]
        unfold lLet
        rw [show (0 : Int) + 3 * (i : Int) = 3 * (i : Int) by omega, e1, e2, hW', if_pos rfl, lSd_app f1 6 0 ([32] ++ _), lSd_app f2 6 0 [59]]
        simp only [List.append_assoc, List.cons_append, List.nil_append])
      rwa [show ((i + 1 : Nat) : Int) = (i : Int) + 1 by omega] at this
  -- the board
  refine rL_setup_0 (ln_draw hQ (fun dc S1 hdc hs1 hQ1 => ⟨⟨hdc.1, by decide⟩, ⟨by omega, by omega⟩, ?_⟩))
  have mc := dr (d := dc) (m := 12) (by decide)
  refine ln_Nb 1000 (X + 20600) (Y + 84000 + 10) (by rw [hs1.2]; exact ⟨hbx, hby⟩) (fun b S3 hb1 hb2 hf3 hB3 hc3 => ?_)
  have nqb : q ≠ b := fun e9 => by
    obtain ⟨l9, h9, -⟩ := hQ1
    rw [e9, hb2] at h9
    cases h9
  have hb0 : S.1 b = none := by rw [← hs1.1 b nqb.symm]; exact hb2
  refine ln_Is (N := 1000) (x := X + 20600) (y := Y + 84000) (r := 31) (w := [98, 111, 97, 114, 100, 32]) hB3 (Or.inl ⟨by decide, by decide⟩) (by decide) ⟨hc3.1, Nat.le_trans (m := 4000 + (Y + 84000 + 10) + 16) (by clear hc3 hb hbx hby; show 4000 + (Y + 84000) + 6 + 16 ≤ _; omega) hc3.2⟩ (fun S5 hf5 hB5 => ?_)
  have hZ : lZ b q [98, 111, 97, 114, 100, 32] 6 1000 (X + 20600) (Y + 84000) S S5 := ⟨hB5, (hQ1.fr hf3 nqb).fr hf5 nqb, (((lk2.rf (o := b)).tr hs1.kq).b hb0 hf3).b hb0 hf5, by decide⟩
  refine lz_d hZ (fun d0 S6 hd0 hZ => ⟨⟨hd0.1, by decide⟩, ⟨by omega, by omega⟩, ?_⟩)
  have m0 := dr (d := d0) (m := 150) (by decide)
  refine lz_i hZ ⟨by omega, by omega⟩ (by decide) 9 (by decide) (by decide) (fun S8 hZ => lz_c hZ (by decide) (by decide) 10 (by decide) (by decide) (fun S9 hZ => lz_d hZ (fun d1 S10 hd1 hZ => ⟨⟨hd1.1, by decide⟩, ⟨by omega, by omega⟩, ?_⟩)))
  have m1 := dr (d := d1) (m := 60) (by decide)
  refine lz_i hZ ⟨by omega, by omega⟩ (by decide) 13 (by decide) (by decide) (fun S12 hZ => lz_s hZ [32, 108, 101, 97, 100, 32] (by decide) (by decide) (by decide) 19 (by decide) (by decide) (fun S13 hZ => lz_d hZ (fun d2 S14 hd2 hZ => ⟨⟨hd2.1, by decide⟩, ?_⟩)))
  have m2 := dr (d := d2) (m := 5) (by decide)
  refine lz_i hZ ⟨by omega, by omega⟩ (by decide) 22 (by decide) (by decide) (fun S16 hZ => lz_s hZ [32, 99, 97, 112, 32] (by decide) (by decide) (by decide) 27 (by decide) (by decide) (fun S17 hZ => ?_))
  refine lz_i hZ ⟨by omega, by omega⟩ (by decide) 30 (by decide) (by decide) (fun S18 hZ => lz_s hZ [32, 103, 97, 112, 32] (by decide) (by decide) (by decide) 35 (by decide) (by decide) (fun S19 hZ => lz_d hZ (fun d3 S20 hd3 hZ => ⟨⟨by omega, by omega⟩, ⟨hd3.1, by omega⟩, ?_⟩)))
  have m3 := dr (d := d3) (m := (1 + dc % 12) + 1) (by omega)
  refine lz_i hZ ⟨by omega, by omega⟩ (by decide) 38 (by decide) (by decide) (fun S22 hZ => lz_s hZ [32, 119, 111, 114, 100, 32] (by decide) (by decide) (by decide) 44 (by decide) (by decide) (fun S23 hZ => lz_d hZ (fun d4 S24 hd4 hZ => ⟨⟨hd4.1, by decide⟩, ?_⟩)))
  have m4 := dr (d := d4) (m := 9) (by decide)
  refine lz_i hZ ⟨by omega, by omega⟩ (by decide) 47 (by decide) (by decide) (fun S26 hZ => lz_s hZ [32, 115, 105, 122, 101, 32] (by decide) (by decide) (by decide) 53 (by decide) (by decide) (fun S27 hZ => lz_d hZ (fun d5 S28 hd5 hZ => ⟨⟨hd5.1, by decide⟩, ⟨by omega, by omega⟩, ?_⟩)))
  have m5 := dr (d := d5) (m := 2) (by decide)
  refine lz_i hZ ⟨by omega, by omega⟩ (by decide) 56 (by decide) (by decide) (fun S30 hZ => lz_s hZ [59] (by decide) (by decide) (by decide) 57 (by decide) (by decide) (fun S31 hZ => lz_d hZ (fun d6 S32 hd6 hZ => ⟨⟨hd6.1, by decide⟩, ⟨by omega, by omega⟩, ?_⟩)))
  have m6 := dr (d := d6) (m := 4) (by decide)
  have hE : ∀ k, 0 ≤ k → k < 6 → plo k ≤ lE6 (20 + d0 % 150) (5 + d1 % 60) (d2 % 5) (d3 % ((1 + dc % 12) + 1)) (d4 % 9) (1 + d5 % 2) k ∧ lE6 (20 + d0 % 150) (5 + d1 % 60) (d2 % 5) (d3 % ((1 + dc % 12) + 1)) (d4 % 9) (1 + d5 % 2) k ≤ phi (1 + dc % 12) k := fun k k0 k6 => by
    have : k = 0 ∨ k = 1 ∨ k = 2 ∨ k = 3 ∨ k = 4 ∨ k = 5 := by omega
    rcases this with rfl | rfl | rfl | rfl | rfl | rfl
    · show 10 ≤ 20 + d0 % 150 ∧ 20 + d0 % 150 ≤ 9999; omega
    · show 1 ≤ 5 + d1 % 60 ∧ 5 + d1 % 60 ≤ 9999; omega
    · show 0 ≤ d2 % 5 ∧ d2 % 5 ≤ 99; omega
    · show 0 ≤ d3 % ((1 + dc % 12) + 1) ∧ d3 % ((1 + dc % 12) + 1) ≤ 1 + dc % 12; omega
    · show 0 ≤ d4 % 9 ∧ d4 % 9 ≤ 99; omega
    · show 1 ≤ 1 + d5 % 2 ∧ 1 + d5 % 2 ≤ 9; omega
  have hZ9 := (hZ.less (x' := X + 4120 * (2 + d6 % 4).toNat) (y' := Y + 16800 * (2 + d6 % 4).toNat) (by omega) (by omega))
  have hZ8 : lZ b q (lBoard (lE6 (20 + d0 % 150) (5 + d1 % 60) (d2 % 5) (d3 % ((1 + dc % 12) + 1)) (d4 % 9) (1 + d5 % 2)) (1 + dc % 12) [] ++ lLs (fun _ => 1) (fun _ => 0) 0 0 []) (100 + 100 * 0) 1000 (X + 4120 * (2 + d6 % 4).toNat) (Y + 16800 * (2 + d6 % 4).toNat) S S32 := by
    obtain ⟨h1, h2, h3, h4⟩ := hZ9
    refine (show lZ b q _ _ 1000 _ _ S S32 from ⟨h1, h2, h3, Nat.le_trans h4 (by decide)⟩).eq ?_
    show _ = lBoard _ _ [] ++ []
    rw [List.append_nil]
    unfold lBoard lE6
    simp only [List.append_assoc, List.cons_append, List.nil_append, if_true, show ((1 : Int) = 0) = False by decide, show ((2 : Int) = 0) = False by decide, show ((2 : Int) = 1) = False by decide, show ((3 : Int) = 0) = False by decide, show ((3 : Int) = 1) = False by decide, show ((3 : Int) = 2) = False by decide, show ((4 : Int) = 0) = False by decide, show ((4 : Int) = 1) = False by decide, show ((4 : Int) = 2) = False by decide, show ((4 : Int) = 3) = False by decide, show ((5 : Int) = 0) = False by decide, show ((5 : Int) = 1) = False by decide, show ((5 : Int) = 2) = False by decide, show ((5 : Int) = 3) = False by decide, show ((5 : Int) = 4) = False by decide, if_false]
  have := lets (2 + d6 % 4).toNat 0 (2 + d6 % 4).toNat _ (1 + dc % 12) (fun _ => 1) (fun _ => 0) b S32 hb0 (by omega) ⟨by omega, by omega⟩ ⟨⟨by omega, by omega⟩, hE⟩ ⟨by omega, ⟨by show 20 ≤ 20 + d0 % 150; omega, by show 20 + d0 % 150 ≤ 169; omega⟩, by show 5 + d1 % 60 ≤ 64; omega, by show d2 % 5 ≤ 4; omega, by show d4 % 9 ≤ 8; omega, by show 1 + d5 % 2 ≤ 2; omega⟩ (fun j hj => by omega) hZ8
  rwa [show (((2 + d6 % 4).toNat : Nat) : Int) = 2 + d6 % 4 by omega] at this
end LSV
