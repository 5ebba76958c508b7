/-! ===== the tape holds just a text ===== -/
theorem lbv {k : Nat} (h : k < 2147483648) : (Int32.ofInt (k : Int)).toBitVec = BitVec.ofNat 32 k := by
  apply BitVec.eq_of_toInt_eq
  show (Int32.ofInt (k : Int)).toInt = _
  rw [vm_ti ⟨by omega, by omega⟩, BitVec.toInt_eq_toNat_cond, BitVec.toNat_ofNat, Nat.mod_eq_of_lt (by omega : k < 2 ^ 32)]
  split <;> omega
theorem vm_shl8 {n : Nat} (h : n < 8388608) : vm_shl (n : Int) 8 = ((256 * n : Nat) : Int) := by
  have e0 : (Int32.ofInt (n : Int)).toBitVec = BitVec.ofNat 32 n := lbv (by omega)
  have e1 : (Int32.ofInt (n : Int) <<< (Int32.ofInt 8 &&& 31)).toBitVec = BitVec.ofNat 32 n <<< 8 := by
    rw [← e0]
    rfl
  show (Int32.ofInt (n : Int) <<< (Int32.ofInt 8 &&& 31)).toBitVec.toInt = _
  rw [e1, BitVec.toInt_eq_toNat_cond, BitVec.toNat_shiftLeft, BitVec.toNat_ofNat, Nat.shiftLeft_eq]
  have : n % 2 ^ 32 * 2 ^ 8 % 2 ^ 32 = 256 * n := by omega
  rw [this]
  split <;> omega
theorem vm_or8 {n c : Nat} (h : n < 8388608) (hc : c < 256) : vm_or ((256 * n : Nat) : Int) (c : Int) = ((256 * n + c : Nat) : Int) := by
  have e0 : ∀ k : Nat, k < 2147483648 → (Int32.ofInt (k : Int)).toBitVec = BitVec.ofNat 32 k := fun k hk => lbv hk
  show (Int32.ofInt ((256 * n : Nat) : Int) ||| Int32.ofInt (c : Int)).toBitVec.toInt = _
  have e1 : (Int32.ofInt ((256 * n : Nat) : Int) ||| Int32.ofInt (c : Int)).toBitVec = BitVec.ofNat 32 (256 * n) ||| BitVec.ofNat 32 c := by
    rw [← e0 _ (by omega), ← e0 c (by omega)]
    rfl
  rw [e1, BitVec.toInt_eq_toNat_cond, BitVec.toNat_or, BitVec.toNat_ofNat, BitVec.toNat_ofNat, Nat.mod_eq_of_lt (by omega : 256 * n < 2 ^ 32), Nat.mod_eq_of_lt (by omega : c < 2 ^ 32)]
  have : 256 * n ||| c = 256 * n + c := (Nat.two_pow_add_eq_or_of_lt (i := 8) hc n).symm
  rw [this]
  split <;> omega
theorem vby_nat {v s : Nat} (h : v < 2147483648) (hs : s ≤ 24) : vby (v : Int) (s : Int) = ((v / 2 ^ s % 256 : Nat) : Int) := by
  have e0 : (Int32.ofInt (v : Int)).toBitVec = BitVec.ofNat 32 v := lbv (by omega)
  have hv : vm_ushr (v : Int) (s : Int) = ((v / 2 ^ s : Nat) : Int) := by
    have hs2 : s = 0 ∨ s = 1 ∨ s = 2 ∨ s = 3 ∨ s = 4 ∨ s = 5 ∨ s = 6 ∨ s = 7 ∨ s = 8 ∨ s = 9 ∨ s = 10 ∨ s = 11 ∨ s = 12 ∨ s = 13 ∨ s = 14 ∨ s = 15 ∨ s = 16 ∨ s = 17 ∨ s = 18 ∨ s = 19 ∨ s = 20 ∨ s = 21 ∨ s = 22 ∨ s = 23 ∨ s = 24 := by omega
    have key : ∀ k : Nat, (((Int32.ofInt (v : Int)).toUInt32 >>> ((Int32.ofInt (k : Int)).toUInt32 &&& Int32.toUInt32 31)).toInt32).toBitVec = BitVec.ofNat 32 v >>> k → vm_ushr (v : Int) (k : Int) = ((v / 2 ^ k : Nat) : Int) := fun k hk => by
      show (((Int32.ofInt (v : Int)).toUInt32 >>> ((Int32.ofInt (k : Int)).toUInt32 &&& Int32.toUInt32 31)).toInt32).toBitVec.toInt = _
      rw [hk, BitVec.toInt_eq_toNat_cond, BitVec.toNat_ushiftRight, BitVec.toNat_ofNat, Nat.mod_eq_of_lt (by omega : v < 2 ^ 32), Nat.shiftRight_eq_div_pow]
      have := Nat.div_le_self v (2 ^ k)
      split <;> omega
    refine key s ?_
    rw [← e0]
    rcases hs2 with rfl | rfl | rfl | rfl | rfl | rfl | rfl | rfl | rfl | rfl | rfl | rfl | rfl | rfl | rfl | rfl | rfl | rfl | rfl | rfl | rfl | rfl | rfl | rfl | rfl <;> rfl
  unfold vby
  rw [hv]
  have hlt : v / 2 ^ s < 2147483648 := Nat.lt_of_le_of_lt (Nat.div_le_self _ _) h
  generalize v / 2 ^ s = u at hlt ⊢
  have e1 : (Int32.ofInt (u : Int)).toBitVec = BitVec.ofNat 32 u := lbv (by omega)
  show (Int32.ofInt (u : Int) &&& Int32.ofInt 255).toBitVec.toInt = _
  have e2 : (Int32.ofInt (u : Int) &&& Int32.ofInt 255).toBitVec = BitVec.ofNat 32 u &&& 255#32 := by
    rw [← e1]
    rfl
  have e3 : (BitVec.ofNat 32 u &&& 255#32).toNat = u % 256 := by
    rw [BitVec.toNat_and, BitVec.toNat_ofNat, Nat.mod_eq_of_lt (by omega : u < 2 ^ 32)]
    exact Nat.and_two_pow_sub_one_eq_mod _ 8
  rw [e2, BitVec.toInt_eq_toNat_cond, e3]
  split <;> omega
/-- four letters, packed -/
def lpc (f : Nat → Nat) : Nat → Nat
  | 0 => 0
  | n + 1 => 256 * lpc f n + f n
theorem lpc_lt {f : Nat → Nat} (hf : ∀ t, f t < 128) : lpc f 0 = 0 ∧ lpc f 1 < 128 ∧ lpc f 2 < 32768 ∧ lpc f 3 < 8388608 ∧ lpc f 4 < 2147483648 := by
  have h0 := hf 0
  have h1 := hf 1
  have h2 := hf 2
  have h3 := hf 3
  refine ⟨rfl, ?_, ?_, ?_, ?_⟩ <;> (simp only [lpc]; omega)
theorem lpc_by {f : Nat → Nat} (hf : ∀ t, f t < 128) : vby ((lpc f 4 : Nat) : Int) 24 = (f 0 : Int) ∧ vby ((lpc f 4 : Nat) : Int) 16 = (f 1 : Int) ∧ vby ((lpc f 4 : Nat) : Int) 8 = (f 2 : Int) ∧ vby ((lpc f 4 : Nat) : Int) 0 = (f 3 : Int) := by
  have h0 := hf 0
  have h1 := hf 1
  have h2 := hf 2
  have h3 := hf 3
  have hl := (lpc_lt hf).2.2.2.2
  have a := vby_nat (s := 24) hl (by decide)
  have b := vby_nat (s := 16) hl (by decide)
  have c := vby_nat (s := 8) hl (by decide)
  have d := vby_nat (s := 0) hl (by decide)
  have e : lpc f 4 = 256 * (256 * (256 * f 0 + f 1) + f 2) + f 3 := by simp only [lpc]; omega
  rw [e] at a b c d
  rw [e]
  refine ⟨?_, ?_, ?_, ?_⟩
  · refine a.trans ?_; congr 1; omega
  · refine b.trans ?_; congr 1; omega
  · refine c.trans ?_; congr 1; omega
  · refine d.trans ?_; congr 1; omega
/-- the text's letters, then spaces -/
def lch (w : List Int) (i : Nat) : Nat := if i < w.length then (w.getD i 0).toNat else 32
theorem lch_lt {w : List Int} (hw : lTx w) (i : Nat) : lch w i < 128 := by
  unfold lch
  split
  · rename_i h
    have : 0 ≤ w.getD i 0 ∧ w.getD i 0 < 128 := by
      rw [List.getD_eq_getElem?_getD, List.getElem?_eq_getElem h]
      exact hw _ (List.getElem_mem _)
    omega
  · decide
theorem lch_z {w : List Int} (hw : lTx w) {i : Nat} (h : i < w.length) : ((lch w i : Nat) : Int) = w.getD i 0 := by
  unfold lch
  rw [if_pos h]
  have : 0 ≤ w.getD i 0 := by
    rw [List.getD_eq_getElem?_getD, List.getElem?_eq_getElem h]
    exact (hw _ (List.getElem_mem _)).1
  omega
/-- the tape holds the first k of them -/
def lTq (w : List Int) (z : vZs) (k : Nat) : Prop := zn z = k ∧ ∀ i : Nat, i < k → zb z (i : Int) = ((lch w i : Nat) : Int)
theorem zF4 {z : vZs} {v : Int} {k : Nat} (h : zn z = k) : zn (zF 4 v z) = ((k + 4 : Nat) : Int) ∧ ∀ i : Int, zb (zF 4 v z) i = if i = (k : Int) + 3 then vby v 0 else if i = (k : Int) + 2 then vby v 8 else if i = (k : Int) + 1 then vby v 16 else if i = k then vby v 24 else zb z i := by
  have e1 : zF 4 v z = zA1 (zA1 (zA1 (zA1 z (vby v 24)) (vby v 16)) (vby v 8)) (vby v 0) := rfl
  refine ⟨by rw [e1]; show zn z + 1 + 1 + 1 + 1 = _; omega, fun i => ?_⟩
  rw [e1]
  show (if i = zn z + 1 + 1 + 1 then vby v 0 else if i = zn z + 1 + 1 then vby v 8 else if i = zn z + 1 then vby v 16 else if i = zn z then vby v 24 else zb z i) = _
  rw [h, show (k : Int) + 1 + 1 + 1 = (k : Int) + 3 by omega, show (k : Int) + 1 + 1 = (k : Int) + 2 by omega]
theorem lTq.four {w : List Int} {z : vZs} {k : Nat} (hw : lTx w) (h : lTq w z k) : lTq w (zF 4 ((lpc (fun t => lch w (k + t)) 4 : Nat) : Int) z) (k + 4) := by
  obtain ⟨b0, b1, b2, b3⟩ := lpc_by (f := fun t => lch w (k + t)) (fun t => lch_lt hw _)
  obtain ⟨e1, e2⟩ := zF4 (v := ((lpc (fun t => lch w (k + t)) 4 : Nat) : Int)) h.1
  refine ⟨e1, fun i hi => ?_⟩
  rw [e2, b0, b1, b2, b3]
  by_cases q3 : i = k + 3
  · rw [if_pos (by omega), q3]
  · rw [if_neg (by omega)]
    by_cases q2 : i = k + 2
    · rw [if_pos (by omega), q2]
    · rw [if_neg (by omega)]
      by_cases q1 : i = k + 1
      · rw [if_pos (by omega), q1]
      · rw [if_neg (by omega)]
        by_cases q0 : i = k
        · rw [if_pos (by omega), q0]; rfl
        · rw [if_neg (by omega)]
          exact h.2 i (by omega)
theorem lStr.kp {r o : Nat} {w : List Int} {S S' : lwS} {m : vm_M} (h : lStr S.1 r w) (hk : lkp o S S') (ho : S.1 o = some (lbI m)) : lStr S'.1 r w := by
  rcases h with h | h
  · exact Or.inl h
  · exact Or.inr (hk.s h (fun e => by rw [e, ho] at h; cases h))
section LWR
variable {D : vD} {E : Int → Int} {o r : Nat} {w : List Int}
/-- the row of five numbers, i letters in -/
def lR5 (w : List Int) (k i a : Nat) (S : lwS) : Prop := ∃ l, S.1 a = some (lbA l) ∧ l.length = 5 ∧ ∀ j : Nat, j < 5 → l.getD j 0 = ((lpc (fun t => lch w (k + 4 * j + t)) (min 4 (i - 4 * j)) : Nat) : Int)
theorem ld_write {z : vZs} {S : lwS} {x y : Nat} {Qp : Option vm_V → lwS → Prop} (hO : lO D E z o S) (hs : lStr S.1 r w) (hw : lTx w) (hl : w.length ≤ 1980) (hb : 100 + x ≤ S.2.1 ∧ 500 + y ≤ S.2.2) (kk : ∀ z' S', lO D E z' o S' → lTp z' 0 w → z'.2.2 = z.2.2 → lkp o S S' → (x ≤ S'.2.1 ∧ y ≤ S'.2.2) → Qp none S') : lG lK_write 0 (lEn lK_write [vm_r o, vm_r r]) [] S Qp := by
  have hZ := hO.2.1
  obtain ⟨m0, hm0⟩ : ∃ m, S.1 o = some (lbI m) := by obtain ⟨-, -, m, h, -⟩ := hO; exact ⟨m, h⟩
  have str : ∀ S', lkp o S S' → lStr S'.1 r w := fun S' hk => hs.kp hk hm0
  -- rows of twenty
  have go : ∀ (n k : Nat) (z2 : vZs) (S2 : lwS), k = 20 * (99 - n) ∨ w.length ≤ k → k ≤ 20 * 99 → n ≤ 99 → k + 20 * n = 20 * 99 → (k = 0 ∨ k < w.length + 20) → lO D E z2 o S2 → lTq w z2 k → z2.2.2 = z.2.2 → lkp o S S2 → (n + x ≤ S2.2.1 ∧ 5 * n + y ≤ S2.2.2) → lG lK_write 11 [some (vm_r o), some (vm_r r), none, some (vm_i (k : Int)), none, none, none] [] S2 Qp := by
    intro n
    induction n with
    | zero =>
      intro k z2 S2 _ hk _ hkn hkw hO2 hT2 hz2 hk2 hc2
      refine rL_write_11 ⟨w, str S2 hk2, fun _ => ⟨w, str S2 hk2, by omega, ⟨by omega, by omega⟩, by omega, ?_⟩, fun c => absurd (by omega) c⟩
      refine lp_truncate hO2 (fun c => absurd ⟨by omega, by rw [hT2.1]; omega⟩ c) (fun _ S3 hs3 hO3 => ?_)
      refine kk _ S3 hO3 ⟨Int.le_refl _, ?_, fun j hj => ?_⟩ hz2 (hk2.tr hs3.fr.kp) (by rw [hs3.2]; omega)
      · show zn z2 - (20 - (w.length : Int) % 20) % 20 = 0 + (w.length : Int)
        rw [hT2.1]; omega
      · show zb z2 (0 + (j : Int)) = _
        rw [show (0 : Int) + (j : Int) = j by omega, hT2.2 j (by omega), lch_z hw hj]
    | succ n ih =>
      intro k z2 S2 hkk hk hn hkn hkw hO2 hT2 hz2 hk2 hc2
      refine rL_write_11 ⟨w, str S2 hk2, fun c => ⟨w, str S2 hk2, by omega, ⟨by omega, by omega⟩, by omega, ?_⟩, fun c => ?_⟩
      · refine lp_truncate hO2 (fun c => absurd ⟨by omega, by rw [hT2.1]; omega⟩ c) (fun _ S3 hs3 hO3 => ?_)
        refine kk _ S3 hO3 ⟨Int.le_refl _, ?_, fun j hj => ?_⟩ hz2 (hk2.tr hs3.fr.kp) (by rw [hs3.2]; omega)
        · show zn z2 - (20 - (w.length : Int) % 20) % 20 = 0 + (w.length : Int)
          rw [hT2.1]; omega
        · show zb z2 (0 + (j : Int)) = _
          rw [show (0 : Int) + (j : Int) = j by omega, hT2.2 j (by omega), lch_z hw hj]
      · refine ⟨⟨by omega, by omega⟩, fun a ha hna => ?_⟩
        have nao : o ≠ a := by
          intro e
          obtain ⟨-, -, m, h3, -⟩ := hO2
          rw [e, hna] at h3
          cases h3
        have inner : ∀ (u i : Nat) (S3 : lwS), i + u = 20 → lO D E z2 o S3 → lR5 w k i a S3 → lkp o S2 S3 → (n + x ≤ S3.2.1 ∧ 5 * n + y ≤ S3.2.2) → lG lK_write 27 [some (vm_r o), some (vm_r r), none, some (vm_i (k : Int)), some (vm_r a), some (vm_i (i : Int)), none] [] S3 Qp := by
          intro u
          induction u with
          | zero =>
            intro i S3 hi hO3 hR3 hk3 hc3
            obtain ⟨l, l1, l2, l3⟩ := hR3
            obtain rfl : i = 20 := by omega
            have hi5 : ∀ j : Nat, j < 5 → l.getD j 0 = ((lpc (fun t => lch w (k + 4 * j + t)) 4 : Nat) : Int) := fun j hj => by
              rw [l3 j hj, Nat.min_eq_left (by omega)]
            refine rL_write_27 ⟨fun _ => ⟨l, l1, by rw [l2]; decide, l, l1, by rw [l2]; decide, l, l1, by rw [l2]; decide, l, l1, by rw [l2]; decide, l, l1, by rw [l2]; decide, ?_⟩, fun c => absurd (by omega) c⟩
            show lNn 101 o [l.getD 0 0, l.getD 1 0, l.getD 2 0, l.getD 3 0, l.getD 4 0] S3 _
            rw [hi5 0 (by decide), hi5 1 (by decide), hi5 2 (by decide), hi5 3 (by decide), hi5 4 (by decide)]
            refine lp_append hO3 (by rw [hT2.1]; omega) (fun S4 hs4 hO4 => ⟨⟨by omega, by omega⟩, ?_⟩)
            have T5 : lTq w (zA5 z2 _ _ _ _ _) (k + 4 + 4 + 4 + 4 + 4) := ((((hT2.four hw).four hw).four hw).four hw).four hw
            have := ih (k + 20) _ S4 (by omega) (by omega) (by omega) (by omega) (by omega) hO4 T5 (by show (zF 4 _ (zF 4 _ (zF 4 _ (zF 4 _ (zF 4 _ z2))))).2.2 = _; rw [zF_2, zF_2, zF_2, zF_2, zF_2]; exact hz2) ((hk2.tr hk3).tr hs4.fr.kp) (by rw [hs4.2]; exact hc3)
            rwa [show ((k + 20 : Nat) : Int) = (k : Int) + 20 by omega] at this
          | succ u ih2 =>
            intro i S3 hi hO3 hR3 hk3 hc3
            have s3 := str S3 (hk2.tr hk3)
            have put : lG lK_write 58 [some (vm_r o), some (vm_r r), none, some (vm_i (k : Int)), some (vm_r a), some (vm_i (i : Int)), none] [vm_i ((lch w (k + i) : Nat) : Int)] S3 Qp := by
              obtain ⟨l, l1, l2, l3⟩ := hR3
              refine rL_write_58 ⟨by omega, by omega, l, l1, ⟨by omega, by rw [l2]; omega⟩, l, l1, ⟨by omega, by rw [l2]; omega⟩, ⟨by omega, by omega⟩, ?_⟩
              have := ih2 (i + 1) (lup S3.1 a (lbA (l.set ((i : Int) / 4).toNat (vm_or (vm_shl (l.getD ((i : Int) / 4).toNat 0) 8) ((lch w (k + i) : Nat) : Int)))), S3.2) (by omega) (hO3.fr (fun q hq => lup_n hq) nao) ?_ (hk3.b hna (fun q hq => lup_n hq)) hc3
              · rwa [show ((i + 1 : Nat) : Int) = (i : Int) + 1 by omega] at this
              · refine ⟨_, lup_s _ _ _, by rw [List.length_set]; exact l2, fun j hj => ?_⟩
                have ei : ((i : Int) / 4).toNat = i / 4 := by omega
                rw [ei]
                by_cases q : j = i / 4
                · subst q
                  rw [List.getD_eq_getElem?_getD, List.getElem?_set_self (by omega), Option.getD_some, l3 _ hj]
                  have e4 : i - 4 * (i / 4) = i % 4 := by omega
                  have e5 : i + 1 - 4 * (i / 4) = i % 4 + 1 := by omega
                  rw [e4, e5, Nat.min_eq_right (by omega : i % 4 ≤ 4), Nat.min_eq_right (by omega : i % 4 + 1 ≤ 4)]
                  have hlt := lpc_lt (f := fun t => lch w (k + 4 * (i / 4) + t)) (fun t => lch_lt hw _)
                  have hb8 : lpc (fun t => lch w (k + 4 * (i / 4) + t)) (i % 4) < 8388608 := by
                    have : i % 4 = 0 ∨ i % 4 = 1 ∨ i % 4 = 2 ∨ i % 4 = 3 := by omega
                    rcases this with q | q | q | q <;> rw [q] <;> omega
                  rw [vm_shl8 hb8, vm_or8 hb8 (by have := lch_lt hw (k + i); omega)]
                  show ((256 * lpc (fun t => lch w (k + 4 * (i / 4) + t)) (i % 4) + lch w (k + i) : Nat) : Int) = ((256 * lpc (fun t => lch w (k + 4 * (i / 4) + t)) (i % 4) + lch w (k + 4 * (i / 4) + i % 4) : Nat) : Int)
                  rw [show k + 4 * (i / 4) + i % 4 = k + i by omega]
                · rw [List.getD_eq_getElem?_getD, List.getElem?_set_ne (Ne.symm q), ← List.getD_eq_getElem?_getD, l3 j hj]
                  have : min 4 (i - 4 * j) = min 4 (i + 1 - 4 * j) := by omega
                  rw [this]
            refine rL_write_27 ⟨fun c => absurd c (by omega), fun _ => ⟨⟨by omega, by omega⟩, w, s3, fun c => ?_, fun c => ⟨⟨by omega, by omega⟩, w, s3, by omega, ?_⟩⟩⟩
            · have e32 : ((lch w (k + i) : Nat) : Int) = 32 := by unfold lch; rw [if_neg (by omega)]; rfl
              rw [e32] at put
              exact put
            · have ew : w.getD ((k : Int) + (i : Int)).toNat 0 = ((lch w (k + i) : Nat) : Int) := by
                rw [lch_z hw (by omega), show ((k : Int) + (i : Int)).toNat = k + i by omega]
              rw [ew]
              exact put
        have R0 : lR5 w k 0 a (lup S2.1 a (lbA (List.replicate 5 0)), S2.2.1 - 1, S2.2.2 - 5) := by
          refine ⟨_, lup_s _ _ _, by rw [List.length_replicate], fun j hj => ?_⟩
          rw [List.getD_eq_getElem?_getD, List.getElem?_replicate, if_pos hj, Nat.zero_sub, Nat.min_zero]
          rfl
        exact inner 20 0 _ (by decide) (hO2.fr (fun q hq => lup_n hq) nao) R0 (lkp.rf.b hna (fun q hq => lup_n hq)) ⟨by show n + x ≤ S2.2.1 - 1; omega, by show 5 * n + y ≤ S2.2.2 - 5; omega⟩
  refine rL_write_0 (lq_tapeLength hO (fun S1 hs1 hO1 => lp_truncate hO1 (fun c => absurd ⟨hZ.1.1, Int.le_refl _⟩ c) (fun _ S2 hs2 hO2 => ?_)))
  have e0 : zn z - zn z = 0 := by omega
  rw [e0] at hO2
  exact go 99 0 _ S2 (Or.inl rfl) (by decide) (by decide) (by decide) (Or.inl rfl) hO2 ⟨rfl, fun i hi => absurd hi (by omega)⟩ rfl (hs1.fr.kp.tr hs2.fr.kp) (by rw [hs2.2, hs1.2]; omega)
theorem ln_write {z : vZs} {S : lwS} {x y : Nat} {P : lwS → Prop} (hO : lO D E z o S) (hs : lStr S.1 r w) (hw : lTx w) (hl : w.length ≤ 1980) (hb : 100 + x ≤ S.2.1 ∧ 500 + y ≤ S.2.2) (kk : ∀ z' S', lO D E z' o S' → lTp z' 0 w → z'.2.2 = z.2.2 → lkp o S S' → (x ≤ S'.2.1 ∧ y ≤ S'.2.2) → P S') : lCv lK_write [vm_r o, vm_r r] S P := by
  obtain ⟨cT, hcT⟩ : ∃ c : Nat, c = 100 := ⟨_, rfl⟩
  obtain ⟨zT, hzT⟩ : ∃ c : Nat, c = 500 := ⟨_, rfl⟩
  rw [← hcT, ← hzT] at hb
  refine ⟨cT, zT, ⟨by omega, by omega⟩, ld_write (S := (S.1, cT, zT)) (x := 0) (y := 0) hO hs hw hl ⟨by show 100 + 0 ≤ cT; omega, by show 500 + 0 ≤ zT; omega⟩ (fun z' S' h1 h2 h3 h4 _ => ⟨rfl, kk z' _ h1 h2 h3 h4 ⟨?_, ?_⟩⟩)⟩
  · show x ≤ S.2.1 - cT; omega
  · show y ≤ S.2.2 - zT; omega
end LWR
