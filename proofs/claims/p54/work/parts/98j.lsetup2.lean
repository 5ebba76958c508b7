/-! ===== a random setup's text: the method ===== -/
theorem lZ.less {b q k N x y x' y' : Nat} {l : List Int} {S0 S : lwS} (h : lZ b q l k N x y S0 S) (hx : x' ≤ x) (hy : y' ≤ y) : lZ b q l k N x' y' S0 S := by
  obtain ⟨⟨c, h1, h2, h3, h4⟩, h5⟩ := h
  exact ⟨⟨c, h1, h2, Nat.le_trans (Nat.add_le_add_left hx _) h3, Nat.le_trans (Nat.add_le_add_left hy _) h4⟩, h5⟩
theorem lZ.eq {b q k N x y : Nat} {l l' : List Int} {S0 S : lwS} (h : lZ b q l k N x y S0 S) (e : l = l') : lZ b q l' k N x y S0 S := e ▸ h
/-- the numbers of a random setup -/
def lE6 (e0 e1 e2 e3 e4 e5 : Int) : Int → Int := fun k => if k = 0 then e0 else if k = 1 then e1 else if k = 2 then e2 else if k = 3 then e3 else if k = 4 then e4 else e5
/-- what is known of a random setup -/
def lRnd (e : Int → Int) (C : Int) (W Sd : Int → Int) (n : Nat) (ps : List (Int × Int × Bool × Int)) : Prop := lSetOk e C W Sd n ps ∧ (2 ≤ n ∧ n ≤ 5) ∧ C ≤ 12 ∧ (20 ≤ e 0 ∧ e 0 ≤ 169) ∧ e 1 ≤ 64 ∧ e 2 ≤ 4 ∧ e 4 ≤ 8 ∧ e 5 ≤ 2
section LSV
variable {q : Nat}
theorem ld_setup {S : lwS} {x y : Nat} {Qp : Option vm_V → lwS → Prop} (hQ : lQ q S) (hb : 25000 + x ≤ S.2.1 ∧ 100000 + y ≤ S.2.2) (kk : ∀ e C W Sd n ps a S', lRnd e C W Sd n ps → (lSetT e C W Sd n ps).length ≤ 1000 → 100 ≤ a → S.1 a = none → S'.1 a = some (lbS (lSetT e C W Sd n ps)) → lQ q S' → lkp q S S' → (x ≤ S'.2.1 ∧ y ≤ S'.2.2) → Qp (some (vm_r a)) S') : lG lK_setup 0 (lEn lK_setup [vm_r q]) [] S Qp := by
  obtain ⟨X, hX⟩ : ∃ u, u = x + 2 := ⟨_, rfl⟩
  obtain ⟨Y, hY⟩ : ∃ u, u = y + 4 + 1000 := ⟨_, rfl⟩
  have dr : ∀ {d m : Int}, 0 < m → 0 ≤ d % m ∧ d % m < m := fun h => ⟨Int.emod_nonneg _ (by omega), Int.emod_lt_of_pos _ h⟩
  -- the pairs
  have pairs : ∀ (n : Nat) (e : Int → Int) (C : Int) (W Sd : Int → Int) (L : Nat) (ps : List (Int × Int × Bool × Int)) (b : Nat) (S2 : lwS), S.1 b = none → n + ps.length ≤ 3 → lRnd e C W Sd L ps → lZ b q (lSetT e C W Sd L ps) (600 + 20 * ps.length) 1000 X Y S S2 → lG lK_setup 222 [some (vm_r q), none, some (vm_r b), some (vm_i (L : Int)), some (vm_i (n : Int))] [] S2 Qp := by
    intro n
    induction n with
    | zero =>
      intro e C W Sd L ps b S2 hb0 hn hR hZ
      obtain ⟨h1, h2, h3, h4⟩ := hZ
      rw [hX, hY] at h1
      refine rL_setup_222 ⟨fun _ => ln_To h1 (by omega) (fun a S3 ha hna hf hA hc => ?_), fun c => absurd (by omega) c⟩
      have naq : q ≠ a := fun e9 => by
        obtain ⟨l9, h9, -⟩ := h2
        rw [e9, hna] at h9
        cases h9
      have hk : lk2 b q S S3 := h3.tr (hf.kn (o := b) hna).ko
      have nab : a ≠ b := fun e9 => by
        obtain ⟨c9, -, h9, -⟩ := h1
        rw [← e9, hna] at h9
        cases h9
      refine kk e C W Sd L ps a S3 hR (by omega) ha ?_ hA (h2.fr hf naq) (fun r hr hrq => hk r hr (fun e9 => hr (by rw [e9]; exact hb0)) hrq) hc
      cases hS : S.1 a with
      | none => rfl
      | some B =>
        have := h3.s hS nab naq.symm
        rw [hna] at this
        cases this
    | succ n ih =>
      intro e C W Sd L ps b S2 hb0 hn hR hZ
      have hL2 := hR.2.1
      refine rL_setup_222 ⟨fun c => absurd c (by omega), fun _ => ?_⟩
      refine lz_s hZ [112, 97, 105, 114, 32] (by decide) (by decide) (by decide) (605 + 20 * ps.length) (by show _ + 5 ≤ _; omega) (by omega) (fun S3 hZ => lz_d hZ (fun d1 S4 hd1 hZ => ?_))
      have m1 := dr (d := d1) (m := (L : Int)) (by omega)
      refine ⟨⟨hd1.1, by omega⟩, ⟨by omega, by omega⟩, ⟨by omega, by omega⟩, ⟨by omega, by omega⟩, ?_⟩
      refine lz_c hZ ⟨by omega, by omega⟩ (by decide) (606 + 20 * ps.length) (by omega) (by omega) (fun S5 hZ => lz_c hZ (by decide) (by decide) (607 + 20 * ps.length) (by omega) (by omega) (fun S6 hZ => lz_d hZ (fun d2 S7 hd2 hZ => ?_)))
      have m2 := dr (d := d2) (m := (L : Int)) (by omega)
      refine ⟨⟨hd2.1, by omega⟩, ⟨by omega, by omega⟩, ⟨by omega, by omega⟩, ⟨by omega, by omega⟩, ?_⟩
      refine lz_c hZ ⟨by omega, by omega⟩ (by decide) (608 + 20 * ps.length) (by omega) (by omega) (fun S8 hZ => lz_d hZ (fun d3 S9 hd3 hZ => ⟨⟨hd3.1, by decide⟩, ?_⟩))
      have fin : ∀ (cl : Bool) (t : Nat), t < 48 → (if cl then [32, 99, 108, 111, 115, 101, 114, 32] else [32, 119, 105, 100, 101, 114, 32] : List Int) = vm_strL.getD t [] → lG lK_setup 284 [some (vm_r q), none, some (vm_r b), some (vm_i (L : Int)), some (vm_i ((n + 1 : Nat) : Int))] [vm_r t, vm_r b] S9 Qp := by
        intro cl t ht htw
        have hl8 : (if cl then [32, 99, 108, 111, 115, 101, 114, 32] else [32, 119, 105, 100, 101, 114, 32] : List Int).length ≤ 8 := by cases cl <;> decide
        refine rL_setup_284 (lz_s hZ _ ht htw (by decide) (616 + 20 * ps.length) (by omega) (by omega) (fun S10 hZ => lz_d hZ (fun d4 S11 hd4 hZ => ⟨⟨hd4.1, by decide⟩, ?_⟩)))
        have m4 := dr (d := d4) (m := 10) (by decide)
        refine lz_i hZ ⟨by omega, by omega⟩ (by decide) (619 + 20 * ps.length) (by omega) (by omega) (fun S12 hZ => lz_s hZ [59] (by decide) (by decide) (by decide) (620 + 20 * ps.length) (by show _ + 1 ≤ _; omega) (by omega) (fun S13 hZ => ⟨⟨by omega, by omega⟩, ?_⟩))
        have hR2 : lRnd e C W Sd L (ps ++ [(3 * (d1 % (L : Int)), 3 * (d2 % (L : Int)), cl, d4 % 10)]) := by
          obtain ⟨⟨a1, a2, a3, a4, a5⟩, a6⟩ := hR
          refine ⟨⟨a1, a2, a3, a4, fun p hp => ?_⟩, a6⟩
          rcases List.mem_append.mp hp with h | h
          · exact a5 p h
          · rw [List.mem_singleton.mp h]
            exact ⟨⟨(d1 % (L : Int)).toNat, (d2 % (L : Int)).toNat, by omega, by omega, by show 3 * (d1 % (L : Int)) = _; omega, by show 3 * (d2 % (L : Int)) = _; omega⟩, by show 0 ≤ d4 % 10; omega, by show d4 % 10 ≤ 9; omega⟩
        have := ih e C W Sd L (ps ++ [(3 * (d1 % (L : Int)), 3 * (d2 % (L : Int)), cl, d4 % 10)]) b S13 hb0 (by rw [List.length_append]; simp; omega) hR2 (by
          refine (show lZ b q _ (600 + 20 * (ps ++ [(3 * (d1 % (L : Int)), 3 * (d2 % (L : Int)), cl, d4 % 10)]).length) 1000 X Y S S13 from ?_)
          rw [List.length_append, List.length_singleton, show 600 + 20 * (ps.length + 1) = 620 + 20 * ps.length by omega]
          refine hZ.eq ?_
          unfold lSetT
          rw [lPs_snoc, lBoard_app, lLs_app, lBoard_app e C (lLs W Sd L 0 (lPs ps ++ _)), lLs_app W Sd L 0 (lPs ps ++ _)]
          unfold lPr
          cases cl <;> simp only [List.append_assoc, List.cons_append, List.nil_append, if_true, Bool.false_eq_true, if_false])
        rwa [show ((n + 1 : Nat) : Int) + -1 = (n : Int) by omega]
      exact ⟨fun c => fin false 44 (by decide) (by decide), fun c => fin true 43 (by decide) (by decide)⟩
  sorry
end LSV
