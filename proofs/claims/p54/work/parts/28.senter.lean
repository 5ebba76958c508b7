/-! ===== the law's entry: what the tables and the statement's start give ===== -/
abbrev vm_gvs : List Cond := flatC (Jvm.Cond.and given_1 narrow_1)
def vm_tm (k : Nat) : Term := .string (vm_cn (vm_slL.getD k (0, 0, 0)).1) (vm_slL.getD k (0, 0, 0)).2.1
def vm_srL : List Nat := [554, 513, 537, 538, 543, 544, 545, 563, 565, 572, 570, 577, 582, 583, 1281, 1292, 1293, 1294, 1295, 1296, 1297, 1302, 1303, 1304, 1311, 1310, 1316, 1317, 1318, 963, 970, 782, 950, 952, 953, 954, 955, 956, 957, 958, 959, 1028, 1029, 1030, 1031, 1035, 1036, 1327]
def vm_hg (i : Nat) (w : Cond) : Bool :=
  match vm_gvs[i]? with
  | some v => decide (v = w)
  | none => false
theorem vm_hg_in {i : Nat} {w : Cond} (h : vm_hg i w = true) : w ∈ vm_gvs := by
  unfold vm_hg at h
  cases hv : vm_gvs[i]? with
  | none => rw [hv] at h; cases h
  | some v =>
    rw [hv] at h
    simp only [decide_eq_true_eq] at h
    subst h
    exact List.mem_of_getElem? hv
def vm_gpL : List Nat := [297, 250, 259, 267, 274, 281, 289, 307, 315, 331, 323, 340, 348, 358, 526, 537, 542, 553, 563, 573, 584, 595, 607, 618, 637, 628, 648, 658, 671, 460, 469, 367, 377, 387, 396, 405, 415, 425, 430, 441, 451, 473, 483, 492, 504, 515, 520, 683]
def vm_gk1 (k : Nat) : Bool := vm_hg (vm_gpL.getD k 0) (Cond.exactly (vm_tm k) "java/lang/String") && vm_hg (vm_gpL.getD k 0 + 1) (Cond.eq (.field (vm_tm k) "java/lang/String" "coder" "B") (.int 0)) && vm_hg (vm_gpL.getD k 0 + 2) (Cond.arrayOf (.field (vm_tm k) "java/lang/String" "value" "[B") .byte) && vm_hg (vm_gpL.getD k 0 + 3) (Cond.eq (.length (.field (vm_tm k) "java/lang/String" "value" "[B")) (.int (Int32.ofNat (vm_strL.getD k []).length)))
  && (List.range (vm_strL.getD k []).length).all (fun j => vm_hg (vm_gpL.getD k 0 + 4 + j) (Cond.eq (.elem (.field (vm_tm k) "java/lang/String" "value" "[B") (.int (Int32.ofNat j))) (.int (Int32.ofInt ((vm_strL.getD k []).getD j 0)))))
theorem vm_gok1_0 : (List.range 10).all (fun k => vm_gk1 (k + 0)) = true := by decide +kernel
theorem vm_gok1_1 : (List.range 10).all (fun k => vm_gk1 (k + 10)) = true := by decide +kernel
theorem vm_gok1_2 : (List.range 10).all (fun k => vm_gk1 (k + 20)) = true := by decide +kernel
theorem vm_gok1_3 : (List.range 10).all (fun k => vm_gk1 (k + 30)) = true := by decide +kernel
theorem vm_gok1_4 : (List.range 8).all (fun k => vm_gk1 (k + 40)) = true := by decide +kernel
theorem vm_gok1 {k : Nat} (hk : k < vm_sN) : vm_gk1 k = true := by
  have hk : k < 48 := hk
  by_cases h0 : k < 10
  · have := List.all_eq_true.mp vm_gok1_0 (k - 0) (List.mem_range.mpr (by omega))
    rwa [show k - 0 + 0 = k by omega] at this
  by_cases h1 : k < 20
  · have := List.all_eq_true.mp vm_gok1_1 (k - 10) (List.mem_range.mpr (by omega))
    rwa [show k - 10 + 10 = k by omega] at this
  by_cases h2 : k < 30
  · have := List.all_eq_true.mp vm_gok1_2 (k - 20) (List.mem_range.mpr (by omega))
    rwa [show k - 20 + 20 = k by omega] at this
  by_cases h3 : k < 40
  · have := List.all_eq_true.mp vm_gok1_3 (k - 30) (List.mem_range.mpr (by omega))
    rwa [show k - 30 + 30 = k by omega] at this
  · have := List.all_eq_true.mp vm_gok1_4 (k - 40) (List.mem_range.mpr (by omega))
    rwa [show k - 40 + 40 = k by omega] at this
theorem vm_gok2 : (List.range 48).all (fun k => vm_hv (vm_srL.getD k 0) (Cond.stringRef (vm_cn (vm_slL.getD k (0, 0, 0)).1) (vm_slL.getD k (0, 0, 0)).2.1 (vm_tx k)) && decide ((vm_slL.getD k (0, 0, 0)).2.2 = k)) = true := by decide +kernel
def vm_lst (k : Nat) : List Int := bif Nat.beq k 900 then [10, 1, 0, 0, 0, 1] else [9999, 9999, 99, 30, 99, 9]
def vm_stt (k : Nat) : Term := .static "BoardLetters" (vm_snm k) "[I"
def vm_gq (k : Nat) : Nat := bif Nat.beq k 900 then 19 else 10
theorem vm_gok3 : ([900, 901] : List Nat).all (fun k => vm_hg (vm_gq k) (Cond.arrayOf (vm_stt k) .int) && vm_hg (vm_gq k + 1) (Cond.eq (.length (vm_stt k)) (.int (Int32.ofNat 6))) && (List.range 6).all (fun j => vm_hg (vm_gq k + 2 + j) (Cond.eq (.elem (vm_stt k) (.int (Int32.ofNat j))) (.int (Int32.ofInt ((vm_lst k).getD j 0)))))) = true := by decide +kernel
theorem vm_gok4 : (vm_hg 4 (Cond.eq (.static "java/lang/String" "COMPACT_STRINGS" "Z") (.int 1)) && vm_hg 5 (Cond.isRef (.static "jdk/internal/util/Preconditions" "SIOOBE_FORMATTER" "Ljava/util/function/BiFunction;"))) = true := by decide +kernel
theorem vm_gok5 : (vm_hv 530 (.laysStatic "BoardLetters" "MOST_NUMBER" "[I") && vm_hv 532 (.laysStatic "BoardLetters" "LEAST_NUMBER" "[I") && vm_hv 38 (.initialized "BoardLetters") && vm_hv 420 (.laysStatic "java/lang/String" "COMPACT_STRINGS" "Z") && vm_hv 51 (.initialized "java/lang/String") && vm_hv 436 (.laysStatic "jdk/internal/util/Preconditions" "SIOOBE_FORMATTER" "Ljava/util/function/BiFunction;") && vm_hv 57 (.initialized "jdk/internal/util/Preconditions")) = true := by decide +kernel
/-- the tables of digits -/
def jdt (k : Nat) : Term := .static "java/lang/Integer" (bif Nat.beq k 1 then "DigitOnes" else "DigitTens") "[B"
def jdq (k : Nat) : Nat := bif Nat.beq k 1 then 28 else 131
def jdv (k j : Nat) : Int := bif Nat.beq k 1 then ((48 + j % 10 : Nat) : Int) else ((48 + j / 10 : Nat) : Int)
theorem jd_gok : ([1, 2] : List Nat).all (fun k => vm_hg (jdq k) (Cond.arrayOf (jdt k) .byte) && vm_hg (jdq k + 1) (Cond.eq (.length (jdt k)) (.int (Int32.ofNat 100)))) = true := by decide +kernel
theorem jd_gok1 : (List.range 100).all (fun j => vm_hg (jdq 1 + 2 + j) (Cond.eq (.elem (jdt 1) (.int (Int32.ofNat j))) (.int (Int32.ofInt (jdv 1 j))))) = true := by decide +kernel
theorem jd_gok2 : (List.range 100).all (fun j => vm_hg (jdq 2 + 2 + j) (Cond.eq (.elem (jdt 2) (.int (Int32.ofNat j))) (.int (Int32.ofInt (jdv 2 j))))) = true := by decide +kernel
theorem jd_gok3 : (vm_hv 926 (.laysStatic "java/lang/Integer" "DigitOnes" "[B") && vm_hv 928 (.laysStatic "java/lang/Integer" "DigitTens" "[B") && vm_hv 59 (.initialized "java/lang/Integer") && vm_hv 842 (.castable "[B" "java/lang/Cloneable")) = true := by decide +kernel
theorem vm_NW_tbl {w : Cond} (hw : w ∈ vm_NW) : w ∈ lw_tbl := by
  unfold vm_NW at hw
  rcases List.mem_append.mp hw with hw | hw
  · rcases List.mem_append.mp hw with hw | hw
    · obtain ⟨e, he, rfl⟩ := List.mem_map.mp hw
      exact vm_hv_in (List.all_eq_true.mp vm_okN e he)
    · obtain ⟨e, he, rfl⟩ := List.mem_map.mp hw
      exact vm_hv_in (List.all_eq_true.mp vm_okT e (List.mem_filter.mp he).1)
  · rw [List.mem_singleton.mp hw]
    exact vm_hv_in vm_okX5
theorem vm_sl_all : ∀ e ∈ vm_slL, ∃ k, k < vm_sN ∧ e = vm_slL.getD k (0, 0, 0) := by
  intro e he
  obtain ⟨k, hk, rfl⟩ := List.getElem_of_mem he
  exact ⟨k, hk, by rw [List.getD_eq_getElem?_getD, List.getElem?_eq_getElem hk]; rfl⟩
/-- the words of private methods of the builder's parent -/
theorem js_selects {C : String} {y : MethodName} {s : State} {args : Array Value} {n : Nat} (hy : y.cls ≠ "java/lang/invoke/MethodHandle" ∧ y.cls ≠ "java/lang/invoke/VarHandle")
    {x0 y0 : MethodName} (h0 : (Cond.selects C x0 y0).before args s = true) (h00 : y0.cls = y.cls)
    (hins : (Cond.instantiable C n).before args s = true) (hpriv : (Cond.privateMethod y).before args s = true) (hinst : (Cond.instanceMethod y).before args s = true) :
    (Cond.selects C y y).before args s = true := by
  obtain ⟨c, k, hc, hk, -, hniab, -, -⟩ := Cond.instantiable_spec hins
  have hni : k.isInterface = false := (Bool.or_eq_false_iff.mp hniab).1
  obtain ⟨mk, methM, hnamed, hmethM, -, -⟩ := Cond.instanceMethod_spec hinst
  have hfound : s.methodFound? y.cls y.name y.desc = some mk := State.methodFound?_of_named hnamed hy
  have hsel : selectMethod {} s.vm c mk = .method mk := selectMethod_private hmethM (Cond.privateMethod_at hpriv mk methM hnamed hmethM)
  simp only [Cond.before, Cond.holds, Cond.value, hc, hfound, hnamed, hsel, hk]
  obtain ⟨c0, r0, m0, -, -, e1, -, k0, e2, e3⟩ := Cond.selects_spec h0
  have e4 := findClass_of_methodNamed e1
  rw [h00, findClass_of_methodNamed hnamed] at e4
  rw [← Option.some.inj e4] at e2
  rw [e2]
  simp [e3]
theorem js_in {s : State} {args : Array Value} (hts : ∀ w ∈ lw_tbl, w.before args s = true) : ∀ w ∈ vm_tb, w.before args s = true := by
  intro w hw
  unfold vm_tb at hw
  rcases List.mem_append.mp hw with hw | hw
  · exact hts w hw
  · obtain ⟨y, hy, rfl⟩ := List.mem_map.mp hw
    have hi : (Cond.instantiable "java/lang/StringBuilder" 4).before args s = true := hts _ (vm_hv_in (i := 781) (by decide +kernel))
    unfold js_L at hy
    simp only [List.mem_cons, List.not_mem_nil, or_false] at hy
    rcases hy with rfl | rfl | rfl | rfl
    · exact js_selects ⟨by decide, by decide⟩ (hts _ (vm_hv_in (i := 849) (by decide +kernel) : Cond.selects "java/lang/StringBuilder" ⟨"java/lang/AbstractStringBuilder", "isLatin1", "()Z"⟩ ⟨"java/lang/AbstractStringBuilder", "isLatin1", "()Z"⟩ ∈ lw_tbl)) rfl hi (hts _ (vm_hv_in (i := 819) (by decide +kernel))) (hts _ (vm_hv_in (i := 820) (by decide +kernel)))
    · exact js_selects ⟨by decide, by decide⟩ (hts _ (vm_hv_in (i := 849) (by decide +kernel) : Cond.selects "java/lang/StringBuilder" ⟨"java/lang/AbstractStringBuilder", "isLatin1", "()Z"⟩ ⟨"java/lang/AbstractStringBuilder", "isLatin1", "()Z"⟩ ∈ lw_tbl)) rfl hi (hts _ (vm_hv_in (i := 823) (by decide +kernel))) (hts _ (vm_hv_in (i := 824) (by decide +kernel)))
    · exact js_selects ⟨by decide, by decide⟩ (hts _ (vm_hv_in (i := 849) (by decide +kernel) : Cond.selects "java/lang/StringBuilder" ⟨"java/lang/AbstractStringBuilder", "isLatin1", "()Z"⟩ ⟨"java/lang/AbstractStringBuilder", "isLatin1", "()Z"⟩ ∈ lw_tbl)) rfl hi (hts _ (vm_hv_in (i := 868) (by decide +kernel))) (hts _ (vm_hv_in (i := 869) (by decide +kernel)))
    · exact js_selects ⟨by decide, by decide⟩ (hts _ (vm_hv_in (i := 849) (by decide +kernel) : Cond.selects "java/lang/StringBuilder" ⟨"java/lang/AbstractStringBuilder", "isLatin1", "()Z"⟩ ⟨"java/lang/AbstractStringBuilder", "isLatin1", "()Z"⟩ ∈ lw_tbl)) rfl hi (hts _ (vm_hv_in (i := 872) (by decide +kernel))) (hts _ (vm_hv_in (i := 873) (by decide +kernel)))
theorem vm_enter {s : State} {b : Nat} (hts : ∀ w ∈ lw_tbl, w.before #[Value.ref b] s = true) (hgv : (Jvm.Cond.and given_1 narrow_1).before #[Value.ref b] s = true) (m0 : vm_M) (h0 : ∀ k, k = 900 ∨ k = 901 → ∀ j : Nat, j < 6 → m0 k (j : Int) = (vm_lst k).getD j 0) :
    ∃ (dC : Nat → ClassId) (dI : Nat → Nat → Nat) (CA : Nat → ClassId) (ad : Nat → Nat), va_K (dC, dI) vm_cls (vm_tys CA) s ∧ vm_Ext ad (fun q => s.heap.size ≤ q) m0 s s.heap ∧ jX (fun q => s.heap.size ≤ q) s s.heap ∧ ad 1099 = b := by
  have hs := flat_of_before _ hgv
  have htw : ∀ w ∈ vm_W, w.before #[Value.ref b] s = true := fun w hw => js_in hts w (List.mem_filter.mp hw).1
  have hA : ∀ a : Nat, a < s.heap.size → ¬ (fun q => s.heap.size ≤ q) a := fun a h1 h2 => absurd h1 (Nat.not_lt.mpr h2)
  have hcl : ∀ c : Nat, ∃ x : ClassId × (Nat → Nat), ∀ q : vw_C, vm_cls[c]? = some q → u_Kn s q.1 q.2.1 q.2.2 x.1 x.2 := by
    intro c
    by_cases hc : c < 11
    · obtain ⟨c1, c2, c3, c4, c5⟩ := vm_cok_1 hc
      obtain ⟨cC, iS, hK⟩ := u_known htw c1 (htw _ c4)
      refine ⟨(cC, iS), fun q hq => ?_⟩
      rw [vm_cls_at hc] at hq
      cases hq
      exact hK
    · by_cases h11 : c = 11
      · obtain ⟨cC, iS, hK⟩ := u_known htw jSin (htw (Cond.instantiable "java/lang/String" 4) (vm_hw_in (i := 976) (by decide +kernel)))
        refine ⟨(cC, iS), fun q hq => ?_⟩
        rw [h11, jcl11] at hq
        cases hq
        exact hK
      · by_cases h12 : c = 12
        · obtain ⟨cC, iS, hK⟩ := u_known htw jSBin (htw (Cond.instantiable "java/lang/StringBuilder" 4) (vm_hw_in (i := 781) (by decide +kernel)))
          refine ⟨(cC, iS), fun q hq => ?_⟩
          rw [h12, jcl12] at hq
          cases hq
          exact hK
        · refine ⟨(0, fun _ => 0), fun q hq => ?_⟩
          rw [List.getElem?_eq_none (by show 13 ≤ c; omega)] at hq
          cases hq
  obtain ⟨D, hD⟩ := Classical.axiomOfChoice hcl
  have har : ∀ ty : FieldType, Cond.arrayClass ty ∈ vm_W → ∃ cA, ArrOfT s cA ty ∧ s.vm.findClass ("[" ++ ty.toString) = some cA := by
    intro ty hw
    obtain ⟨cA, kA, comp, g1, g2, g3⟩ := Cond.arrayClass_spec (htw _ hw)
    exact ⟨cA, fun n z => ⟨fun k h => (by cases h), kA, g2, comp, g3⟩, g1⟩
  obtain ⟨a0, a0A, a0N⟩ := har _ (vm_hw_in vm_okX1)
  obtain ⟨a1, a1A, a1N⟩ := har _ (vm_hw_in vm_okX2)
  obtain ⟨a2, a2A, a2N⟩ := har _ (vm_hw_in vm_okX3)
  obtain ⟨comp, a4, k4, f1, f2, f3, f4, f5⟩ := Cond.arrayOver_spec (hts _ (vm_hv_in vm_okX5))
  have hst : ∀ k, k = 900 ∨ k = 901 → ∃ t : Nat, (vm_stt k).eval #[Value.ref b] s none [] s = some (.ref t) ∧ va_T .int t 6 (fun j => .int (Int32.ofInt (m0 k (j : Nat)))) (fun q => s.heap.size ≤ q) s s.heap := by
    intro k hk
    have h := List.all_eq_true.mp vm_gok3 k (by rcases hk with rfl | rfl <;> decide)
    simp only [Bool.and_eq_true] at h
    obtain ⟨⟨g1, g2⟩, g3⟩ := h
    refine va_Tof (by decide) (hs _ (vm_hg_in g1)) (va_eqt (hs _ (vm_hg_in g2))) (fun j hj => ?_) hA
    have g4 := vm_hg_in (List.all_eq_true.mp g3 j (List.mem_range.mpr hj))
    rw [h0 k hk j hj]
    exact va_eqt (hs _ g4)
  obtain ⟨t0, t0e, t0T⟩ := hst 900 (Or.inl rfl)
  obtain ⟨t1, t1e, t1T⟩ := hst 901 (Or.inr rfl)
  have hdt : ∀ k, k = 1 ∨ k = 2 → ∃ t : Nat, (jdt k).eval #[Value.ref b] s none [] s = some (.ref t) ∧ va_T .byte t 100 (fun j => .int (Int32.ofInt (jdv k j))) (fun q => s.heap.size ≤ q) s s.heap := by
    intro k hk
    have h := List.all_eq_true.mp jd_gok k (by rcases hk with rfl | rfl <;> decide)
    simp only [Bool.and_eq_true] at h
    obtain ⟨g1, g2⟩ := h
    refine va_Tof (by decide) (hs _ (vm_hg_in g1)) (va_eqt (hs _ (vm_hg_in g2))) (fun j hj => ?_) hA
    rcases hk with rfl | rfl
    · exact va_eqt (hs _ (vm_hg_in (List.all_eq_true.mp jd_gok1 j (List.mem_range.mpr hj))))
    · exact va_eqt (hs _ (vm_hg_in (List.all_eq_true.mp jd_gok2 j (List.mem_range.mpr hj))))
  obtain ⟨u1, u1e, u1T⟩ := hdt 1 (Or.inl rfl)
  obtain ⟨u2, u2e, u2T⟩ := hdt 2 (Or.inr rfl)
  have htx : ∀ k : Nat, ∃ a : Nat, k < vm_sN → (vm_tm k).eval #[Value.ref b] s none [] s = some (.ref a) ∧ va_O "java/lang/String" a (fun q => s.heap.size ≤ q) s s.heap ∧ ∃ t : Nat, va_OF "java/lang/String" "value" "[B" (.ref t) a (fun q => s.heap.size ≤ q) s s.heap ∧ va_OF "java/lang/String" "coder" "B" (.int 0) a (fun q => s.heap.size ≤ q) s s.heap ∧ va_T .byte t (vm_strL.getD k []).length (fun j => .int (Int32.ofInt ((vm_strL.getD k []).getD j 0))) (fun q => s.heap.size ≤ q) s s.heap := by
    intro k
    by_cases hk : k < vm_sN
    · have h := vm_gok1 hk
      unfold vm_gk1 at h
      simp only [Bool.and_eq_true] at h
      obtain ⟨⟨⟨⟨g1, g2⟩, g3⟩, g4⟩, g5⟩ := h
      have g1 := vm_hg_in g1
      have g2 := vm_hg_in g2
      have g3 := vm_hg_in g3
      have g4 := vm_hg_in g4
      obtain ⟨a, c, cA, kA, q1, q2, q3, q4, q5, q6, -⟩ := Cond.exactly_spec (args := #[Value.ref b]) (first := s) (o := none) (s := s) (idx := []) (t := vm_tm k) (cls := "java/lang/String") (hs _ g1)
      have hlt := vm_str_len (k := k)
      obtain ⟨t, ht, hT⟩ := va_Tof (f := fun j => .int (Int32.ofInt ((vm_strL.getD k []).getD j 0))) (by omega) (hs _ g3) (va_eqt (hs _ g4)) (fun j hj => va_eqt (hs _ (vm_hg_in (List.all_eq_true.mp g5 j (List.mem_range.mpr hj))))) hA
      exact ⟨a, fun _ => ⟨q1, ⟨cA, q3, q5, by rw [q6]; exact q2, hA a (Array.getElem?_eq_some_iff.mp q3).1⟩, t, vk_OFof q1 ht hA, vk_OFof q1 (va_eqt (hs _ g2)) hA, hT⟩⟩
    · exact ⟨0, fun h => absurd h hk⟩
  obtain ⟨tx, htx⟩ := Classical.axiomOfChoice htx
  have h4 := vm_gok4
  simp only [Bool.and_eq_true] at h4
  have h5 := vm_gok5
  simp only [Bool.and_eq_true] at h5
  obtain ⟨⟨⟨⟨⟨⟨w1, w2⟩, w3⟩, w4⟩, w5⟩, w6⟩, w7⟩ := h5
  have h6 := jd_gok3
  simp only [Bool.and_eq_true] at h6
  obtain ⟨⟨⟨x1, x2⟩, x3⟩, x4⟩ := h6
  refine ⟨fun c => (D c).1, fun c => (D c).2, fun t => if t = 100 then a0 else if t = 101 then a1 else if t = 102 then a2 else if t = 103 then a0 else a4, fun k => if k = 900 then t0 else if k = 901 then t1 else if k = 1099 then b else tx (k - 1000), ⟨fun c q hq => hD c q hq, fun k q hk => ?_⟩, ⟨t0T, t1T, va_Zof (hts _ (vm_hv_in w2)) (hts _ (vm_hv_in w3)) t0e hA, va_Zof (hts _ (vm_hv_in w1)) (hts _ (vm_hv_in w3)) t1e hA, fun w hw => ?_, fun e he => ?_, fun k hk => ?_, va_Zof (hts _ (vm_hv_in w4)) (hts _ (vm_hv_in w5)) (va_eqt (hs _ (vm_hg_in h4.1))) hA, va_Zqof (hts _ (vm_hv_in w6)) (hts _ (vm_hv_in w7)) (hs _ (vm_hg_in h4.2)) hA⟩, ⟨va_Zof (hts _ (vm_hv_in w4)) (hts _ (vm_hv_in w5)) (va_eqt (hs _ (vm_hg_in h4.1))) hA, va_Zqof (hts _ (vm_hv_in w6)) (hts _ (vm_hv_in w7)) (hs _ (vm_hg_in h4.2)) hA, ⟨u1, va_Zof (hts _ (vm_hv_in x1)) (hts _ (vm_hv_in x3)) u1e hA, ?_⟩, ⟨u2, va_Zof (hts _ (vm_hv_in x2)) (hts _ (vm_hv_in x3)) u2e hA, ?_⟩, va_Nw.of rfl (hts _ (vm_hv_in x4))⟩, rfl⟩
  · have hk5 : k < 5 := (List.getElem?_eq_some_iff.mp hk).1
    rcases k with _ | _ | _ | _ | _ | k
    · cases hk; exact ⟨a0A, a0N⟩
    · cases hk; exact ⟨a1A, a1N⟩
    · cases hk; exact ⟨a2A, a2N⟩
    · cases hk; exact ⟨a0A, a0N⟩
    · cases hk; exact ⟨fun n z => ⟨fun k h => (by cases h), k4, f3, comp, f4⟩, k4, comp, f3, f4, f1, f5⟩
    · omega
  · have h1 := hts w (vm_NW_tbl hw)
    rcases vm_NW_cases hw with ⟨a, i, x, rfl⟩ | ⟨a, i, n, rfl⟩ | rfl
    · exact va_Nw.of rfl h1
    · exact va_Nw.of rfl h1
    · exact va_AO.of h1
  · obtain ⟨k, hk, rfl⟩ := vm_sl_all e he
    have hk48 : k < 48 := hk
    have h := List.all_eq_true.mp vm_gok2 k (List.mem_range.mpr hk48)
    simp only [Bool.and_eq_true, decide_eq_true_eq] at h
    dsimp only
    rw [h.2, if_neg (by omega), if_neg (by omega), if_neg (by omega), show 1000 + k - 1000 = k by omega]
    exact vk_R.of (hts _ (vm_hv_in h.1)) (htx k hk).1
  · have hk48 : k < 48 := hk
    unfold vm_Tx
    dsimp only
    rw [if_neg (by omega), if_neg (by omega), if_neg (by omega), show 1000 + k - 1000 = k by omega]
    exact (htx k hk).2
  · exact u1T
  · exact u2T
