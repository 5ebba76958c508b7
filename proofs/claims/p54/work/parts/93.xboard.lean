/-! ===== x reads the board ===== -/
section XB
variable {D : vD} {E : Int → Int} {z : vZs} {m m' m0 : vm_M} {U : Int → Prop} {c : Int} {s : vPS} {Q : Int → vm_M → Prop} {Y : vm_M → Prop} {k : vPS → vRS} {R : vRS}
/-- a text of x and its packed form -/
def nmOk (s1 l : Nat) (K : Int) : Prop := (1000 ≤ s1 ∧ s1 < 1000 + vm_sN) ∧ vm_sn s1 = (l : Int) ∧ l ≤ 8 ∧ (List.range l).all (fun i => decide (97 ≤ vm_sc s1 (i : Int) ∧ vm_sc s1 (i : Int) ≤ 122)) = true ∧ tpk (vm_sc s1) 0 l = K
theorem xb_name (hZ : ZO D z) (hT : XT z m0) (hs : pOk z s) (hP : PX z m0 U c s m) {s1 l : Nat} {K : Int} (hn : nmOk s1 l K) (he : pName z K s k = R) (h0 : ∀ s' c' m', PX z m0 U c' s' m' → R = pErr z s' → Q 0 m') (h1 : ∀ m', pOk z (padv z s) → PX z m0 U c (padv z s) m' → k (padv z s) = R → Y m') : vm_C 74 [vm_r 19, vm_r s1] m (vm_qi (fun z1 m1 => (z1 = 0 → Q 0 m1) ∧ (¬ z1 = 0 → Y m1))) := by
  unfold pName at he
  refine sx_passName hZ hT hs hP hn.1 hn.2.1 hn.2.2.1 (nm_c hn.2.2.2.1) hn.2.2.2.2 (fun t m' p => ⟨fun x => absurd x (by decide), fun _ => ?_⟩) (fun t => ⟨fun _ => ?_, fun x => absurd rfl x⟩)
  · rw [vif_t t] at he
    exact h1 m' (padv_ok hZ hs) p he
  · rw [vif_f t] at he
    exact h0 s c m hP he.symm
theorem xb_num (hZ : ZO D z) (hT : XT z m0) (hS : vST m0) (hs : pOk z s) (hP : PX z m0 U c s m) (hc : 0 ≤ c ∧ c < 6) (he : pNum z c s k = R) (h0 : ∀ s' c' m', PX z m0 U c' s' m' → R = pErr z s' → Q 0 m') (h1 : ∀ s' m', pOk z s' → PX z m0 U (c + 1) s' m' → pW s' = pW s → k s' = R → Y m') : vm_C 69 [vm_r 19, vm_i c] m (vm_qi (fun z1 m1 => (z1 = 0 → Q 0 m1) ∧ (¬ z1 = 0 → Y m1))) := by
  unfold pNum at he
  refine sx_readNumber hZ hT hS hs hP hc (fun t m' p => ⟨fun x => absurd x (by decide), fun _ => ?_⟩) (fun t => ⟨fun _ => ?_, fun x => absurd rfl x⟩)
  · rw [vif_t t] at he
    exact h1 _ m' (padv_ok hZ (s := psetE s c (tN (zb z) (zn z) (pp s))) hs) p rfl he
  · rw [vif_f t] at he
    exact h0 s c m hP he.symm
theorem xb_cap (hZ : ZO D z) (hT : XT z m0) (hs : pOk z s) (hP : PX z m0 U c s m) (he : pCap z s k = R) (h0 : ∀ s' c' m', PX z m0 U c' s' m' → R = pErr z s' → Q 0 m') (h1 : ∀ s' m', pOk z s' → PX z m0 U c s' m' → pW s' = pW s → k s' = R → Y m') : vm_C 70 [vm_r 19] m (vm_qi (fun z1 m1 => (z1 = 0 → Q 0 m1) ∧ (¬ z1 = 0 → Y m1))) := by
  unfold pCap at he
  refine sx_readCap hZ hT hs hP (fun t m' p => ⟨fun x => absurd x (by decide), fun _ => ?_⟩) (fun t => ⟨fun _ => ?_, fun x => absurd rfl x⟩)
  · rw [vif_t t] at he
    exact h1 _ m' (padv_ok hZ (s := psetC s (tN (zb z) (zn z) (pp s))) hs) p rfl he
  · rw [vif_f t] at he
    exact h0 s c m hP he.symm
theorem xb_semi (hZ : ZO D z) (hT : XT z m0) (hs : pOk z s) (hP : PX z m0 U c s m) (he : pSemi z s k = R) (h0 : ∀ s' c' m', PX z m0 U c' s' m' → R = pErr z s' → Q 0 m') (h1 : ∀ s' m', pOk z s' → PX z m0 U c s' m' → pW s' = pW s → k s' = R → Y m') : vm_C 76 [vm_r 19] m (vm_qi (fun z1 m1 => (z1 = 0 → Q 0 m1) ∧ (¬ z1 = 0 → Y m1))) := by
  unfold pSemi at he
  refine sx_passSemi hZ hT hs hP (fun t m' p => ⟨fun x => absurd x (by decide), fun _ => ?_⟩) (fun t => ⟨fun _ => ?_, fun x => absurd rfl x⟩)
  · rw [vif_t t] at he
    exact h1 _ m' (padv_ok hZ hs) p rfl he
  · rw [vif_f t] at he
    exact h0 s c m hP he.symm
theorem nm_1 : nmOk (1000 + 1) 5 2590276 := ⟨by decide, by decide +kernel, by decide, by decide +kernel, by decide +kernel⟩
theorem nm_2 : nmOk (1000 + 2) 4 398372 := ⟨by decide, by decide +kernel, by decide, by decide +kernel, by decide +kernel⟩
theorem nm_3 : nmOk (1000 + 3) 3 3120 := ⟨by decide, by decide +kernel, by decide, by decide +kernel, by decide +kernel⟩
theorem nm_4 : nmOk (1000 + 4) 3 7216 := ⟨by decide, by decide +kernel, by decide, by decide +kernel, by decide +kernel⟩
theorem nm_5 : nmOk (1000 + 5) 4 769604 := ⟨by decide, by decide +kernel, by decide, by decide +kernel, by decide +kernel⟩
theorem nm_6 : nmOk (1000 + 6) 4 632645 := ⟨by decide, by decide +kernel, by decide, by decide +kernel, by decide +kernel⟩
theorem sx_readBoard (hZ : ZO D z) (hT : XT z m0) (hS : vST m0) (hs : pOk z s) (hP : PX z m0 U 0 s m) (he : pBoard z s k = R) (h0 : ∀ s' c' m', PX z m0 U c' s' m' → R = pErr z s' → Q 0 m') (h1 : ∀ s' m', pOk z s' → PX z m0 U 6 s' m' → pW s' = pW s → k s' = R → Q 1 m') : vm_C 68 [vm_r 19] m (vm_qi Q) := by
  unfold pBoard at he
  refine ru5_readBoard_0 ?_
  refine xb_name hZ hT hs hP nm_1 he h0 (fun m1 o1 p1 e1 => ?_)
  refine xb_num hZ hT hS o1 p1 (by decide) e1 h0 (fun s2 m2 o2 p2 w2 e2 => ?_)
  refine xb_num hZ hT hS o2 p2 (by decide) e2 h0 (fun s3 m3 o3 p3 w3 e3 => ?_)
  refine xb_name hZ hT o3 p3 nm_2 e3 h0 (fun m4 o4 p4 e4 => ?_)
  refine xb_num hZ hT hS o4 p4 (by decide) e4 h0 (fun s5 m5 o5 p5 w5 e5 => ?_)
  refine xb_name hZ hT o5 p5 nm_3 e5 h0 (fun m6 o6 p6 e6 => ?_)
  refine xb_cap hZ hT o6 p6 e6 h0 (fun s7 m7 o7 p7 w7 e7 => ?_)
  refine xb_name hZ hT o7 p7 nm_4 e7 h0 (fun m8 o8 p8 e8 => ?_)
  refine xb_num hZ hT hS o8 p8 (by decide) e8 h0 (fun s9 m9 o9 p9 w9 e9 => ?_)
  refine xb_name hZ hT o9 p9 nm_5 e9 h0 (fun m10 o10 p10 e10 => ?_)
  refine xb_num hZ hT hS o10 p10 (by decide) e10 h0 (fun s11 m11 o11 p11 w11 e11 => ?_)
  refine xb_name hZ hT o11 p11 nm_6 e11 h0 (fun m12 o12 p12 e12 => ?_)
  refine xb_num hZ hT hS o12 p12 (by decide) e12 h0 (fun s13 m13 o13 p13 w13 e13 => ?_)
  exact xb_semi hZ hT o13 p13 e13 h0 (fun s14 m14 o14 p14 w14 e14 => h1 s14 m14 o14 p14 (w14.trans (w13.trans (w11.trans (w9.trans (w7.trans (w5.trans (w3.trans w2))))))) e14)
end XB
