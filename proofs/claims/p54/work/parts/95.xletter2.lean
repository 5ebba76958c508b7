/-! ===== x reads a letter, whole ===== -/
theorem nm_0 : nmOk (1000 + 0) 6 408572082 := ⟨by decide, by decide +kernel, by decide, by decide +kernel, by decide +kernel⟩
theorem nm_7 : nmOk (1000 + 7) 4 763013 := ⟨by decide, by decide +kernel, by decide, by decide +kernel, by decide +kernel⟩
theorem nm_8 : nmOk (1000 + 8) 4 398548 := ⟨by decide, by decide +kernel, by decide, by decide +kernel, by decide +kernel⟩
theorem nm_9 : nmOk (1000 + 9) 5 19176724 := ⟨by decide, by decide +kernel, by decide, by decide +kernel, by decide +kernel⟩
theorem pName_eq {z : vZs} {K : Int} {s : vPS} {k : vPS → vRS} : pName z K s k = vif (tIs (zb z) (zn z) (pp s) K) (k (padv z s)) (pErr z s) := rfl
/-- every told letter is laid -/
def pLd (U : Int → Prop) (s : vPS) : Prop := ∀ a, 0 ≤ a → a < 26 → 0 < pW s a → ∀ i, 0 ≤ i → i < 12 → U (12 * a + i)
section XM
variable {D : vD} {E : Int → Int} {z : vZs} {m m' m0 : vm_M} {U : Int → Prop} {c : Int} {s : vPS} {Q : Int → vm_M → Prop} {k : vPS → vRS} {R : vRS}
theorem sx_readLetter (hZ : ZO D z) (hT : XT z m0) (hs : pOk z s) (hP : PX z m0 U c s m) (hL : pLd U s) (he : pLetter z s k = R) (h0 : ∀ s' c' U' m', PX z m0 U' c' s' m' → R = pErr z s' → Q 0 m') (h1 : ∀ s' U' m', pOk z s' → PX z m0 U' c s' m' → pLd U' s' → k s' = R → Q 1 m') : vm_C 71 [vm_r 19] m (vm_qi Q) := by
  unfold pLetter at he
  rw [pName_eq] at he
  refine ru5_readLetter_0 (sx_passName hZ hT hs hP nm_0.1 nm_0.2.1 nm_0.2.2.1 (nm_c nm_0.2.2.2.1) nm_0.2.2.2.2 (fun t m1 p1 => ⟨fun _ => ?_, fun x => absurd (show ¬ (1 : Int) = 0 by decide) x⟩) (fun t => ⟨fun x => absurd rfl x, fun _ => ?_⟩))
  · rw [vif_t t] at he
    try dsimp only at he
    have o1 := padv_ok hZ hs
    have L1 : pLd U (padv z s) := hL
    generalize padv z s = s1 at *
    refine sx_asLetter hZ hT o1 p1 ⟨fun q => ?_, fun q => ?_⟩
    · rw [vif_f (fun x => x.1 q)] at he
      exact h0 _ _ _ _ p1 he.symm
    · have ab := tLt_bd hZ o1 q
      refine sx_knowsD p1 ab (fun kn => ⟨fun x => absurd x (by decide), fun _ => ?_⟩) (fun kn => ⟨fun _ => ?_, fun x => absurd rfl x⟩)
      · rw [vif_f (fun x => x.2 kn)] at he
        exact h0 _ _ _ _ p1 he.symm
      · rw [vif_t ⟨q, kn⟩] at he
        generalize tLt (zb z) (zn z) (pp s1) = a at *
        have kn2 : ¬ 0 < pW (padv z s1) a := kn
        have L2 : pLd U (padv z s1) := L1
        refine sx_adv hZ hT o1 p1 rfl vfr.rf rfl p1.2.2 (fun m2 p2 => ?_)
        have o2 := padv_ok hZ o1
        generalize padv z s1 = s2 at *
        refine xb_name hZ hT o2 p2 nm_7 he (fun s' c' m' p e => h0 _ _ _ _ p e) (fun m3 o3 p3 e3 => ?_)
        have kn3 : ¬ 0 < pW (padv z s2) a := kn2
        have L3 : pLd U (padv z s2) := L2
        generalize padv z s2 = s3 at *
        try dsimp only at e3
        refine sx_isNumber p3 (fun t3 v3 => ⟨fun _ => ?_, fun x => absurd (show ¬ (1 : Int) = 0 by decide) x⟩) (fun t3 => ⟨fun x => absurd rfl x, fun _ => ?_⟩)
        · rw [vif_t t3] at e3
          rw [v3]
          refine sx_tell hZ hT o3 p3 ab t3.2.1 kn3 (fun m4 p4 => ?_)
          have o4 := padv_ok hZ (s := psetW s3 a (tN (zb z) (zn z) (pp s3))) o3
          have L4 : ∀ b, 0 ≤ b → b < 26 → b ≠ a → 0 < pW (padv z (psetW s3 a (tN (zb z) (zn z) (pp s3)))) b → ∀ i, 0 ≤ i → i < 12 → U (12 * b + i) := fun b b0 b1 bn bw => L3 b b0 b1 (by
            have bw : 0 < (if b = a then tN (zb z) (zn z) (pp s3) else pW s3 b) := bw
            rw [if_neg bn] at bw; exact bw)
          generalize padv z (psetW s3 a (tN (zb z) (zn z) (pp s3))) = s4 at *
          refine xb_name hZ hT o4 p4 nm_8 e3 (fun s' c' m' p e => h0 _ _ _ _ p e) (fun m5 o5 p5 e5 => ?_)
          try dsimp only at e5
          refine ru5_readSide_0 (sx_readSide hZ hT (U := U) (w0 := pW s4) ab (Or.inl rfl) (fun s6 m6 U6 o6 p6 u6 l6 w6 e6 => ⟨fun x => absurd x (by decide), fun _ => ?_⟩) (fun s' m' U' p e => ⟨fun _ => h0 _ _ _ _ p e, fun x => absurd rfl x⟩) 6 0 _ _ _ (Int.le_refl _) (by decide) o5 p5 (fun i u => u) (fun j x y => by omega) rfl e5)
          refine xb_name hZ hT o6 p6 nm_9 e6 (fun s' c' m' p e => h0 _ _ _ _ p e) (fun m7 o7 p7 e7 => ?_)
          try dsimp only at e7
          refine ru5_readSide_0 (sx_readSide hZ hT (U := U6) (w0 := pW s6) ab (Or.inr rfl) (fun s8 m8 U8 o8 p8 u8 l8 w8 e8 => ⟨fun x => absurd x (by decide), fun _ => ?_⟩) (fun s' m' U' p e => ⟨fun _ => h0 _ _ _ _ p e, fun x => absurd rfl x⟩) 6 0 _ _ _ (Int.le_refl _) (by decide) o7 p7 (fun i u => u) (fun j x y => by omega) rfl e7)
          unfold pSemi at e8
          refine sx_passSemi hZ hT o8 p8 (fun tt m9 p9 => ⟨fun x => absurd x (by decide), fun _ => h1 _ U8 m9 (padv_ok hZ o8) p9 (fun b b0 b1 bw i i0 i1 => ?_) ?_⟩) (fun tt => ⟨fun _ => h0 _ _ _ _ p8 ?_, fun x => absurd rfl x⟩)
          · have bw : 0 < pW s8 b := bw
            rw [w8, w6] at bw
            by_cases q : b = a
            · rw [q]
              by_cases i6 : i < 6
              · have := u8 _ (l6 i i0 i6)
                rw [show 12 * a + 6 * 0 + i = 12 * a + i by omega] at this
                exact this
              · have := l8 (i - 6) (by omega) (by omega)
                rw [show 12 * a + 6 * 1 + (i - 6) = 12 * a + i by omega] at this
                exact this
            · exact u8 _ (u6 _ (L4 b b0 b1 q bw i i0 i1))
          · rw [vif_t tt] at e8; exact e8
          · rw [vif_f tt] at e8; exact e8.symm
        · rw [vif_f t3] at e3
          exact h0 _ _ _ _ p3 e3.symm
  · rw [vif_f t] at he
    exact h0 _ _ _ _ hP he.symm
end XM
