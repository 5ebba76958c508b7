/-! ===== the setup text ===== -/
def vsx (k : Nat) : List Int := vm_strL.getD k []
theorem vsx14 : vsx 14 = [98, 111, 97, 114, 100, 32] := rfl
theorem vsx15 : vsx 15 = [32] := rfl
theorem vsx16 : vsx 16 = [32, 108, 101, 97, 100, 32] := rfl
theorem vsx17 : vsx 17 = [32, 99, 97, 112, 32] := rfl
theorem vsx18 : vsx 18 = [32, 103, 97, 112, 32] := rfl
theorem vsx19 : vsx 19 = [32, 119, 111, 114, 100, 32] := rfl
theorem vsx20 : vsx 20 = [32, 115, 105, 122, 101, 32] := rfl
theorem vsx21 : vsx 21 = [108, 101, 116, 116, 101, 114, 32] := rfl
theorem vsx22 : vsx 22 = [32, 119, 105, 100, 101, 32] := rfl
theorem vsx23 : vsx 23 = [32, 108, 101, 102, 116] := rfl
theorem vsx24 : vsx 24 = [32, 114, 105, 103, 104, 116] := rfl
theorem vsx25 : vsx 25 = [32, 111, 112, 101, 110] := rfl
theorem vsx26 : vsx 26 = [112, 97, 105, 114, 32] := rfl
theorem vsx27 : vsx 27 = [32, 99, 108, 111, 115, 101, 114, 32] := rfl
theorem vsx28 : vsx 28 = [32, 119, 105, 100, 101, 114, 32] := rfl
def vsb (D : vD) (E : Int → Int) : List Int := vsx 14 ++ (vnum (E 0) ++ (vsx 15 ++ (vnum (E 1) ++ (vsx 16 ++ (vnum (E 2) ++ (vsx 17 ++ (vnum (dC D) ++ (vsx 18 ++ (vnum (E 3) ++ (vsx 19 ++ (vnum (E 4) ++ (vsx 20 ++ (vnum (E 5) ++ [59])))))))))))))
def vs1 (D : vD) (a s i : Int) : List Int := if dS D (12 * a + (6 * s + i)) = -1 then vsx 25 else vsx 15 ++ vnum (dS D (12 * a + (6 * s + i)))
def vss (D : vD) (a s : Int) : Nat → Int → List Int
  | 0, _ => []
  | n + 1, i => vs1 D a s i ++ vss D a s n (i + 1)
def vsL (D : vD) (a : Int) : List Int := vsx 21 ++ ([97 + a] ++ (vsx 22 ++ (vnum (dW D a) ++ (vsx 23 ++ (vss D a 0 6 0 ++ (vsx 24 ++ (vss D a 1 6 0 ++ [59])))))))
def vsP (a b v : Int) : List Int := vsx 26 ++ ([97 + a] ++ ([32] ++ ([97 + b] ++ ((if 0 ≤ v then vsx 28 else vsx 27) ++ (vnum (if 0 ≤ v then v else 0 - v) ++ [59])))))
noncomputable def vsl (D : vD) : Nat → Int → List Int
  | 0, _ => []
  | n + 1, a => vif (dk D a) (vsL D a) [] ++ vsl D n (a + 1)
def vsp (D : vD) : Nat → Int → List Int
  | 0, _ => []
  | n + 1, k => (if dK D k = 0 then [] else vsP (k / 26) (k % 26) (dK D k)) ++ vsp D n (k + 1)
noncomputable def vset (D : vD) (E : Int → Int) : List Int := vsb D E ++ (vsl D 26 0 ++ vsp D 676 0)
section QS
variable {D : vD} {E : Int → Int} {m m' : vm_M} {s : Int × Int × Int}
theorem vsb_len : (vsb D E).length ≤ 200 := by
  have h0 := vnum_len (E 0)
  have h1 := vnum_len (E 1)
  have h2 := vnum_len (E 2)
  have h3 := vnum_len (E 3)
  have h4 := vnum_len (E 4)
  have h5 := vnum_len (E 5)
  have h6 := vnum_len (dC D)
  unfold vsb
  simp only [vsx14, vsx15, vsx16, vsx17, vsx18, vsx19, vsx20, List.length_append, List.length_cons, List.length_nil]
  omega
theorem vs1_len {a s i : Int} : (vs1 D a s i).length ≤ 10 := by
  unfold vs1
  have h := vnum_len (dS D (12 * a + (6 * s + i)))
  split
  · rw [vsx25]; decide
  · rw [vsx15, List.length_append]; simp only [List.length_cons, List.length_nil]; omega
theorem vss_len {a s : Int} : ∀ (n : Nat) (i : Int), (vss D a s n i).length ≤ 10 * n
  | 0, i => Nat.le_refl _
  | n + 1, i => by
    have a1 := vs1_len (D := D) (a := a) (s := s) (i := i)
    have b1 := vss_len (a := a) (s := s) n (i + 1)
    unfold vss
    rw [List.length_append]; omega
theorem vsL_len {a : Int} : (vsL D a).length ≤ 200 := by
  have h0 := vnum_len (dW D a)
  have h1 := vss_len (D := D) (a := a) (s := 0) 6 0
  have h2 := vss_len (D := D) (a := a) (s := 1) 6 0
  unfold vsL
  simp only [vsx21, vsx22, vsx23, vsx24, List.length_append, List.length_cons, List.length_nil]
  omega
theorem vsP_len {a b v : Int} : (vsP a b v).length ≤ 40 := by
  have h0 := vnum_len (if 0 ≤ v then v else 0 - v)
  unfold vsP
  have h1 : (if 0 ≤ v then vsx 28 else vsx 27).length ≤ 8 := by
    split
    · rw [vsx28]; decide
    · rw [vsx27]; decide
  simp only [vsx26, List.length_append, List.length_cons, List.length_nil]
  omega
theorem vsl_len : ∀ (n : Nat) (a : Int), (vsl D n a).length ≤ 200 * n
  | 0, a => Nat.le_refl _
  | n + 1, a => by
    have b1 := vsl_len n (a + 1)
    unfold vsl
    rw [List.length_append]
    by_cases q : dk D a
    · rw [vif_t q]
      have := vsL_len (D := D) (a := a)
      omega
    · rw [vif_f q]
      simp only [List.length_nil]; omega
theorem vsp_len : ∀ (n : Nat) (k : Int), (vsp D n k).length ≤ 40 * n
  | 0, a => Nat.le_refl _
  | n + 1, k => by
    have b1 := vsp_len n (k + 1)
    have := vsP_len (a := k / 26) (b := k % 26) (v := dK D k)
    unfold vsp
    rw [List.length_append]
    split
    · simp only [List.length_nil]; omega
    · omega
theorem vset_len : (vset D E).length ≤ 40000 := by
  have a := vsb_len (D := D) (E := E)
  have b := vsl_len (D := D) 26 0
  have c := vsp_len (D := D) 676 0
  unfold vset
  rw [List.length_append, List.length_append]
  omega
theorem sx_writeNum {Q : vm_M → Prop} {k : Nat} (hk : k < 29) {n : Int} (hn : 0 ≤ n ∧ n ≤ 99999) (hs : vSi s m) (hf : vfit s (vsx k ++ vnum n)) (h : ∀ m', vfr vS85 m m' → vSi (ems s (vsx k ++ vnum n)) m' → Q m') : vm_C 159 [vm_r 0, vm_r (1000 + k), vm_i n] m (vm_qv Q) := by
  refine ru10_writeNumber_0 (sx_str hk hs (vfit_l hf) (fun m1 f1 i1 => sx_num hn i1 (vfit_r hf) (fun m2 f2 i2 => h m2 (f1.tr f2) ?_)))
  rw [ems_app] at i2; exact i2
theorem sx_side {Q : vm_M → Prop} (hO : OC D E) (hX : XC D E m) {a s0 : Int} (ha : dk D a) (hs0 : s0 = 0 ∨ s0 = 1) (hs : vSi s m) (hf : vfit s (vss D a s0 6 0)) (h : ∀ m', vfr vS85 m m' → vSi (ems s (vss D a s0 6 0)) m' → Q m') : vm_C 161 [vm_r 0, vm_i a, vm_i s0] m (vm_qv Q) := by
  have go : ∀ (n : Nat) (i : Int) (m1 : vm_M) (s1 : Int × Int × Int) (w4 : Option vm_V), 0 ≤ i → i + n = 6 → vfr vS85 m m1 → vSi s1 m1 → vfit s1 (vss D a s0 n i) → ems s1 (vss D a s0 n i) = ems s (vss D a s0 6 0) → ku10_writeSide_2 a s0 i w4 m1 Q := by
    intro n
    induction n with
    | zero =>
      intro i m1 s1 w4 hi hn f1 i1 ft he
      rw [← he] at h
      exact ru10_writeSide_2 ⟨fun _ => h m1 f1 i1, fun z => by omega⟩
    | succ n ih =>
      intro i m1 s1 w4 hi hn f1 i1 ft he
      have X1 := hX.f85 f1
      have ft1 : vfit s1 (vs1 D a s0 i ++ vss D a s0 n (i + 1)) := ft
      have he1 : ems s1 (vs1 D a s0 i ++ vss D a s0 n (i + 1)) = ems s (vss D a s0 6 0) := he
      rw [← ems_app] at he1
      have ftl := vfit_l ft1
      have ftr := vfit_r ft1
      have hb := hO.1.2.2.2 a ha (6 * s0 + i) (by omega) (by omega)
      have e := X1.1.2.2 a ha (6 * s0 + i) (by omega) (by omega)
      refine ru10_writeSide_2 ⟨fun z => by omega, fun _ => sx_inset rfl ⟨ha.1, ha.2.1⟩ hs0 ⟨hi, by omega⟩ ?_⟩
      rw [e]
      unfold vs1 at ftl ftr he1
      refine ⟨fun z => ?_, fun z => ?_⟩
      · rw [if_neg z] at ftl ftr he1
        exact sx_writeNum (k := 15) (by decide) ⟨by omega, by omega⟩ i1 ftl (fun m2 f2 i2 => ⟨by omega, ih (i + 1) m2 _ _ (by omega) (by omega) (f1.tr f2) i2 ftr he1⟩)
      · rw [if_pos (Classical.not_not.mp z)] at ftl ftr he1
        exact sx_str (k := 25) (by decide) i1 ftl (fun m2 f2 i2 => ⟨by omega, ih (i + 1) m2 _ _ (by omega) (by omega) (f1.tr f2) i2 ftr he1⟩)
  exact ru10_writeSide_0 (go 6 0 m s none (Int.le_refl _) (by omega) vfr.rf hs hf rfl)
theorem sx_letterT {Q : vm_M → Prop} (hO : OC D E) (hX : XC D E m) {a : Int} (ha : dk D a) (hs : vSi s m) (hf : vfit s (vsL D a)) (h : ∀ m', vfr vS85 m m' → vSi (ems s (vsL D a)) m' → Q m') : vm_C 160 [vm_r 0, vm_i a] m (vm_qv Q) := by
  have hw := hO.1.2.2.1 a ha.1 ha.2.1
  have ha1 : 0 ≤ a ∧ a < 26 := ⟨ha.1, ha.2.1⟩
  unfold vsL at hf h
  refine ru10_writeLetter_0 (sx_str (k := 21) (by decide) hs (vfit_l hf) (fun m1 f1 i1 => ⟨by omega, sx_add i1 (vfit_l (vfit_r hf)) (fun m2 f2 i2 => ⟨ha1, ?_⟩)⟩))
  have hf2 := vfit_r (vfit_r hf)
  have X2 := hX.f85 (f1.tr f2)
  have e4 : m2 4 a = dW D a := X2.1.2.1 a ha1.1 ha1.2
  rw [e4]
  rw [← List.append_assoc (vsx 22)] at hf2
  refine sx_writeNum (k := 22) (by decide) ⟨by omega, by omega⟩ i2 (vfit_l hf2) (fun m3 f3 i3 => ?_)
  have hf3 := vfit_r hf2
  refine sx_str (k := 23) (by decide) i3 (vfit_l hf3) (fun m4 f4 i4 => ?_)
  have hf4 := vfit_r hf3
  have f14 := f1.tr (f2.tr (f3.tr f4))
  refine sx_side hO (hX.f85 f14) ha (Or.inl rfl) i4 (vfit_l hf4) (fun m5 f5 i5 => ?_)
  have hf5 := vfit_r hf4
  refine sx_str (k := 24) (by decide) i5 (vfit_l hf5) (fun m6 f6 i6 => ?_)
  have hf6 := vfit_r hf5
  have f16 := f14.tr (f5.tr f6)
  refine sx_side hO (hX.f85 f16) ha (Or.inr rfl) i6 (vfit_l hf6) (fun m7 f7 i7 => ?_)
  refine sx_add i7 (vfit_r hf6) (fun m8 f8 i8 => h m8 (f16.tr (f7.tr f8)) ?_)
  simp only [ems_app, List.append_assoc] at i8
  exact i8
theorem sx_pairT {Q : vm_M → Prop} {a b v : Int} (ha : 0 ≤ a ∧ a < 26) (hb : 0 ≤ b ∧ b < 26) (hv : -9 ≤ v ∧ v ≤ 9) (hs : vSi s m) (hf : vfit s (vsP a b v)) (h : ∀ m', vfr vS85 m m' → vSi (ems s (vsP a b v)) m' → Q m') : vm_C 162 [vm_r 0, vm_i a, vm_i b, vm_i v] m (vm_qv Q) := by
  unfold vsP at hf h
  refine ru10_writePair_0 (sx_str (k := 26) (by decide) hs (vfit_l hf) (fun m1 f1 i1 => ⟨by omega, sx_add i1 (vfit_l (vfit_r hf)) (fun m2 f2 i2 => ?_)⟩))
  have hf2 := vfit_r (vfit_r hf)
  refine sx_add i2 (vfit_l hf2) (fun m3 f3 i3 => ⟨by omega, sx_add i3 (vfit_l (vfit_r hf2)) (fun m4 f4 i4 => ?_)⟩)
  have hf4 := vfit_r (vfit_r hf2)
  have f14 := f1.tr (f2.tr (f3.tr f4))
  refine ⟨fun z => ⟨by omega, ?_⟩, fun z => ⟨by omega, ?_⟩⟩
  · rw [if_pos z, if_pos z] at hf4 h
    rw [if_pos z]
    rw [← List.append_assoc (vsx 28)] at hf4
    refine sx_writeNum (k := 28) (by decide) ⟨by omega, by omega⟩ i4 (vfit_l hf4) (fun m5 f5 i5 => sx_add i5 (vfit_r hf4) (fun m6 f6 i6 => h m6 (f14.tr (f5.tr f6)) ?_))
    simp only [ems_app, List.append_assoc] at i6
    exact i6
  · rw [if_neg z, if_neg z] at hf4 h
    rw [if_neg z]
    rw [← List.append_assoc (vsx 27)] at hf4
    refine sx_writeNum (k := 27) (by decide) ⟨by omega, by omega⟩ i4 (vfit_l hf4) (fun m5 f5 i5 => sx_add i5 (vfit_r hf4) (fun m6 f6 i6 => h m6 (f14.tr (f5.tr f6)) ?_))
    simp only [ems_app, List.append_assoc] at i6
    exact i6
theorem sx_writeSetup {Q : vm_M → Prop} (hO : OC D E) (hX : XC D E m) (hs : vSi s m) (hf : vfit s (vset D E)) (h : ∀ m', vfr vS85 m m' → vSi (ems s (vset D E)) m' → Q m') : vm_C 158 [vm_r 0] m (vm_qv Q) := by
  obtain ⟨hD, hOS, hE⟩ := hO
  have hOC : OC D E := ⟨hD, hOS, hE⟩
  have hC := hD.2.1
  have hC0 := hD.1
  obtain ⟨g0, g1, g2, g3, g4, g5, g6, g7⟩ := hE
  unfold vset at hf h
  have hfb := vfit_l hf
  have hfr := vfit_r hf
  rw [← ems_app] at h
  -- the letters and the pairs
  have go2 : ∀ (n : Nat) (k : Int) (m1 : vm_M) (s1 : Int × Int × Int), 0 ≤ k → k + n = 676 → vfr vS85 m m1 → vSi s1 m1 → vfit s1 (vsp D n k) → ems s1 (vsp D n k) = ems (ems s (vsb D E)) (vsl D 26 0 ++ vsp D 676 0) → ku10_writeSetup_151 k m1 Q := by
    intro n
    induction n with
    | zero =>
      intro k m1 s1 hk hn f1 i1 ft he
      rw [← he] at h
      exact ru10_writeSetup_151 ⟨fun _ => h m1 f1 i1, fun z => by omega⟩
    | succ n ih =>
      intro k m1 s1 hk hn f1 i1 ft he
      have X1 := hX.f85 f1
      have e11 : m1 11 k = dK D k := X1.2.1.2.1 k hk (by omega)
      have hkb := hOS.1 k hk (by omega)
      have ft1 : vfit s1 ((if dK D k = 0 then [] else vsP (k / 26) (k % 26) (dK D k)) ++ vsp D n (k + 1)) := ft
      have he1 : ems s1 ((if dK D k = 0 then [] else vsP (k / 26) (k % 26) (dK D k)) ++ vsp D n (k + 1)) = ems (ems s (vsb D E)) (vsl D 26 0 ++ vsp D 676 0) := he
      rw [← ems_app] at he1
      have ftl := vfit_l ft1
      have ftr := vfit_r ft1
      refine ru10_writeSetup_151 ⟨fun z => by omega, fun _ => ⟨by omega, ?_⟩⟩
      rw [e11]
      refine ⟨fun z => ⟨by omega, ?_⟩, fun z => ⟨⟨⟨hk, by decide⟩, ⟨hk, by decide⟩, by omega⟩, ?_⟩⟩
      · rw [if_pos z] at ftr he1
        exact ih (k + 1) m1 s1 (by omega) (by omega) f1 i1 ftr he1
      · rw [if_neg z] at ftl ftr he1
        exact sx_pairT ⟨by omega, by omega⟩ ⟨by omega, by omega⟩ hkb i1 ftl (fun m2 f2 i2 => ⟨by omega, ih (k + 1) m2 _ (by omega) (by omega) (f1.tr f2) i2 ftr he1⟩)
  have go1 : ∀ (n : Nat) (a : Int) (m1 : vm_M) (s1 : Int × Int × Int), 0 ≤ a → a + n = 26 → vfr vS85 m m1 → vSi s1 m1 → vfit s1 (vsl D n a ++ vsp D 676 0) → ems s1 (vsl D n a ++ vsp D 676 0) = ems (ems s (vsb D E)) (vsl D 26 0 ++ vsp D 676 0) → ku10_writeSetup_121 a m1 Q := by
    intro n
    induction n with
    | zero =>
      intro a m1 s1 ha hn f1 i1 ft he
      exact ru10_writeSetup_121 ⟨fun _ => go2 676 0 m1 s1 (Int.le_refl _) (by omega) f1 i1 ft he, fun z => by omega⟩
    | succ n ih =>
      intro a m1 s1 ha hn f1 i1 ft he
      have X1 := hX.f85 f1
      have ft1 : vfit s1 ((vif (dk D a) (vsL D a) [] ++ vsl D n (a + 1)) ++ vsp D 676 0) := ft
      have he1 : ems s1 ((vif (dk D a) (vsL D a) [] ++ vsl D n (a + 1)) ++ vsp D 676 0) = ems (ems s (vsb D E)) (vsl D 26 0 ++ vsp D 676 0) := he
      rw [List.append_assoc] at ft1 he1
      rw [← ems_app] at he1
      have ftl := vfit_l ft1
      have ftr := vfit_r ft1
      refine ru10_writeSetup_121 ⟨fun z => by omega, fun _ => sx_knows rfl X1.1 (fun k => ⟨fun z => by omega, fun _ => ?_⟩) (fun k => ⟨fun _ => ⟨by omega, ?_⟩, fun z => absurd rfl z⟩)⟩
      · rw [vif_t k] at ftl ftr he1
        exact sx_letterT hOC X1 k i1 ftl (fun m2 f2 i2 => ⟨by omega, ih (a + 1) m2 _ (by omega) (by omega) (f1.tr f2) i2 ftr he1⟩)
      · rw [vif_f k] at ftr he1
        exact ih (a + 1) m1 s1 (by omega) (by omega) f1 i1 ftr he1
  unfold vsb at hfb
  rw [← List.append_assoc (vsx 14)] at hfb
  obtain ⟨x0, x1, x2, x3, x4, x5, x6, x7⟩ := hX.2.2.1
  have x0 : m 10 0 = E 0 := x0
  refine ru10_writeSetup_0 ?_
  rw [x0]
  refine sx_writeNum (k := 14) (by decide) ⟨by omega, by omega⟩ hs (vfit_l hfb) (fun m1 f1 i1 => ?_)
  have X1 := hX.f85 f1
  have y1 : m1 10 1 = E 1 := X1.2.2.1.2.1
  have b1 := vfit_r hfb
  rw [← List.append_assoc (vsx 15)] at b1
  rw [y1]
  refine sx_writeNum (k := 15) (by decide) ⟨by omega, by omega⟩ i1 (vfit_l b1) (fun m2 f2 i2 => ?_)
  have X2 := X1.f85 f2
  have y2 : m2 10 2 = E 2 := X2.2.2.1.2.2.1
  have b2 := vfit_r b1
  rw [← List.append_assoc (vsx 16)] at b2
  rw [y2]
  refine sx_writeNum (k := 16) (by decide) ⟨by omega, by omega⟩ i2 (vfit_l b2) (fun m3 f3 i3 => ?_)
  have X3 := X2.f85 f3
  have b3 := vfit_r b2
  rw [← List.append_assoc (vsx 17)] at b3
  rw [X3.1.1]
  refine sx_writeNum (k := 17) (by decide) ⟨by omega, by omega⟩ i3 (vfit_l b3) (fun m4 f4 i4 => ?_)
  have X4 := X3.f85 f4
  have y3 : m4 10 3 = E 3 := X4.2.2.1.2.2.2.1
  have b4 := vfit_r b3
  rw [← List.append_assoc (vsx 18)] at b4
  rw [y3]
  refine sx_writeNum (k := 18) (by decide) ⟨by omega, by omega⟩ i4 (vfit_l b4) (fun m5 f5 i5 => ?_)
  have X5 := X4.f85 f5
  have y4 : m5 10 4 = E 4 := X5.2.2.1.2.2.2.2.1
  have b5 := vfit_r b4
  rw [← List.append_assoc (vsx 19)] at b5
  rw [y4]
  refine sx_writeNum (k := 19) (by decide) ⟨by omega, by omega⟩ i5 (vfit_l b5) (fun m6 f6 i6 => ?_)
  have X6 := X5.f85 f6
  have y5 : m6 10 5 = E 5 := X6.2.2.1.2.2.2.2.2.1
  have b6 := vfit_r b5
  rw [← List.append_assoc (vsx 20)] at b6
  rw [y5]
  refine sx_writeNum (k := 20) (by decide) ⟨by omega, by omega⟩ i6 (vfit_l b6) (fun m7 f7 i7 => ?_)
  refine sx_add i7 (vfit_r b6) (fun m8 f8 i8 => ?_)
  have f18 := f1.tr (f2.tr (f3.tr (f4.tr (f5.tr (f6.tr (f7.tr f8))))))
  simp only [ems_app, List.append_assoc] at i8
  have i8 : vSi (ems s (vsb D E)) m8 := i8
  exact go1 26 0 m8 _ (Int.le_refl _) (by omega) f18 i8 hfr rfl
/-! the model's setup text -/
theorem vsL_m {a : Int} : vsL D a = [108, 101, 116, 116, 101, 114] ++ ([32] ++ ([97 + a] ++ ([32] ++ (([119, 105, 100, 101] ++ ([32] ++ (vnum (dW D a) ++ [32]))) ++ ([108, 101, 102, 116] ++ (vss D a 0 6 0 ++ ([32] ++ ([114, 105, 103, 104, 116] ++ (vss D a 1 6 0 ++ [59]))))))))) := by
  unfold vsL
  simp only [vsx21, vsx22, vsx23, vsx24, List.append_assoc, List.cons_append, List.nil_append]
theorem vsP_m1 {a b v : Int} (hv : 0 ≤ v) : vsP a b v = [112, 97, 105, 114] ++ ([32] ++ ([97 + a] ++ ([32] ++ ([97 + b] ++ ([32] ++ ([119, 105, 100, 101, 114] ++ ([32] ++ (vnum v ++ [59])))))))) := by
  unfold vsP
  rw [if_pos hv, if_pos hv]
  simp only [vsx26, vsx28, List.append_assoc, List.cons_append, List.nil_append]
theorem vsP_m0 {a b v : Int} (hv : ¬ 0 ≤ v) : vsP a b v = [112, 97, 105, 114] ++ ([32] ++ ([97 + a] ++ ([32] ++ ([97 + b] ++ ([32] ++ ([99, 108, 111, 115, 101, 114] ++ ([32] ++ (vnum (-v) ++ [59])))))))) := by
  unfold vsP
  rw [if_neg hv, if_neg hv, show 0 - v = -v by omega]
  simp only [vsx26, vsx27, List.append_assoc, List.cons_append, List.nil_append]
theorem vsb_m : vsb D E = ([98, 111, 97, 114, 100] ++ ([32] ++ (vnum (E 0) ++ [32]))) ++ (vnum (E 1) ++ ([32] ++ (([108, 101, 97, 100] ++ ([32] ++ (vnum (E 2) ++ [32]))) ++ (([99, 97, 112] ++ ([32] ++ (vnum (dC D) ++ [32]))) ++ (([103, 97, 112] ++ ([32] ++ (vnum (E 3) ++ [32]))) ++ (([119, 111, 114, 100] ++ ([32] ++ (vnum (E 4) ++ [32]))) ++ ([115, 105, 122, 101] ++ ([32] ++ (vnum (E 5) ++ [59]))))))))) := by
  unfold vsb
  simp only [vsx14, vsx15, vsx16, vsx17, vsx18, vsx19, vsx20, List.append_assoc, List.cons_append, List.nil_append]
theorem s_setupLength (c : OC D E) (hX : XC D E m) {Q : Int → vm_M → Prop} (h : ∀ m', vfr vSX m m' → XC D E m' → Q (ems (0, -1, -2) (vset D E)).1 m') : vm_C 154 [vm_r 0] m (vm_qi Q) := by
  have hlen := vset_len (D := D) (E := E)
  have hfit : ∀ i, vfit (0, i, -2) (vset D E) := fun i => ⟨Int.le_refl _, by show 0 + ((vset D E).length : Int) ≤ _; omega⟩
  refine ru10_setupLength_0 (sx_open' (fun m2 f2 i2 => sx_writeSetup c (hX.f85 f2) i2 (hfit _) (fun m3 f3 i3 => ?_)))
  rw [i3.1]
  exact h m3 (vS85_X (f2.tr f3)) (hX.f85 (f2.tr f3))
theorem s_setupByte (c : OC D E) (hX : XC D E m) {i : Int} {Q : Int → vm_M → Prop} (h : ∀ m', vfr vSX m m' → XC D E m' → Q (if 0 ≤ i then (ems (0, i, -2) (vset D E)).2.2 else -1) m') : vm_C 155 [vm_r 0, vm_i i] m (vm_qi Q) := by
  have hlen := vset_len (D := D) (E := E)
  have hfit : ∀ i, vfit (0, i, -2) (vset D E) := fun i => ⟨Int.le_refl _, by show 0 + ((vset D E).length : Int) ≤ _; omega⟩
  refine ru10_setupByte_0 ⟨fun q => sx_open' (fun m2 f2 i2 => sx_writeSetup c (hX.f85 f2) i2 (hfit _) (fun m3 f3 i3 => ?_)), fun q => ?_⟩
  · have h := h m3 (vS85_X (f2.tr f3)) (hX.f85 (f2.tr f3))
    rw [if_pos q] at h
    rw [i3.2.2]; exact h
  · have h := h m vfr.rf hX
    rw [if_neg q] at h; exact h
end QS
