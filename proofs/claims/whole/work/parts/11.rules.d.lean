/-! ===== rules (printed): what must hold so that a method, begun at a cut, comes to a good end ===== -/
abbrev ku11_restore_0 (v1 : Int) (m : vm_M) (Q : Int → vm_M → Prop) : Prop := vm_G 232 0 [some (vm_r 96), some (vm_i v1), none] [] m (vm_qi Q)
abbrev ku11_restore_30 (v1 : Int) (v2 : Int) (m : vm_M) (Q : Int → vm_M → Prop) : Prop := vm_G 232 30 [some (vm_r 96), some (vm_i v1), some (vm_i v2)] [] m (vm_qi Q)
set_option maxRecDepth 20000 in
theorem ru11_restore_0 {v1 : Int} {m : vm_M} {Q : Int → vm_M → Prop}  (h :
    (vm_C 164 [vm_l v1, vm_l 0, vm_l 1] m (vm_qi (fun z1 m1 =>
      ((¬ z1 = 0 →
        ((0 ≤ v1 ∧ v1 < 2)) ∧
        ((¬ (m1 103 v1) = 0 →
          (vm_C 221 [vm_r 96] m1 (vm_qv (fun m2 =>
            ku11_restore_30 v1 0 m2 Q)))) ∧ (¬ ¬ (m1 103 v1) = 0 →
          Q (-2) m1))) ∧ (¬ ¬ z1 = 0 →
        Q (-1) m1)))))) : vm_C 232 [vm_r 96, vm_i v1] m (vm_qi Q) := by
  show vm_G 232 0 [some (vm_r 96), some (vm_i v1), none] [] m (vm_qi Q)
  refine vm_gp [(.iload 1, 0, 0, []), (.i2l, 0, 0, []), (.ldc2_w 0, 0, 0, [(0, 0)]), (.ldc2_w 0, 0, 0, [(1, 0)])] (pc1 := 4) (ls1 := [some (vm_r 96), some (vm_i v1), none]) (st1 := [vm_l 1, vm_l 0, vm_l v1]) (m1 := m) (ob := true) (by decide +kernel) rfl rfl ?_
  refine vm_gc (g := 164) (na := 3) (av := [vm_l v1, vm_l 0, vm_l 1]) (rest := []) (i := (.invokestatic 0, 164, 3, [])) (len := 3) (by decide +kernel) rfl rfl rfl (by decide +kernel) (by decide +kernel) rfl rfl (vm_u (vm_okh_s (by decide +kernel)) (show vm_okn 164 3 0 0 0 6 = true by decide +kernel)) ?_
  refine vm_G.mono h ?_
  rintro _ m1 ⟨z1, rfl, h⟩
  show vm_G 232 7 [some (vm_r 96), some (vm_i v1), none] [vm_i z1] m1 _
  refine vm_gj (c := ¬ z1 = 0) (t := 12) (e := 10) (i := (.ifCond .ne 0, 12, 0, [])) (len := 3) (st1 := []) (by decide +kernel) rfl rfl (fun c1 => ?_) (fun c1 => ?_)
  · replace h := h.1 c1
    obtain ⟨o3_0, h⟩ := h
    refine vm_gp [(.aload 0, 0, 0, []), (.getfield 2, 11, 10, [(103, 0)]), (.iload 1, 0, 0, []), (.baload, 2, 102, [])] (pc1 := 18) (ls1 := [some (vm_r 96), some (vm_i v1), none]) (st1 := [vm_i (m1 103 v1)]) (m1 := m1) (ob := ((((true && vm_is 96 11) && true) && vm_ar 103 102 2) && decide (0 ≤ v1 ∧ v1 < 2))) (by decide +kernel) rfl (vm_t (vm_u (vm_u (vm_u rfl (by decide +kernel)) rfl) (by decide +kernel)) o3_0) ?_
    refine vm_gj (c := ¬ (m1 103 v1) = 0) (t := 24) (e := 21) (i := (.ifCond .ne 0, 24, 0, [])) (len := 3) (st1 := []) (by decide +kernel) rfl rfl (fun c2 => ?_) (fun c2 => ?_)
    · replace h := h.1 c2
      refine vm_gp [(.aload 0, 0, 0, [])] (pc1 := 25) (ls1 := [some (vm_r 96), some (vm_i v1), none]) (st1 := [vm_r 96]) (m1 := m1) (ob := true) (by decide +kernel) rfl rfl ?_
      refine vm_gc (g := 221) (na := 1) (av := [vm_r 96]) (rest := []) (i := (.invokevirtual 0, 221, 1, [])) (len := 3) (by decide +kernel) rfl rfl rfl (by decide +kernel) (by decide +kernel) rfl rfl (vm_u (vm_okh_v (c := 11) (by decide +kernel) (by decide +kernel)) (show vm_okn 221 1 0 0 0 1 = true by decide +kernel)) ?_
      refine vm_G.mono h ?_
      rintro _ m2 ⟨rfl, h⟩
      show vm_G 232 28 [some (vm_r 96), some (vm_i v1), none] [] m2 _
      refine vm_gp [(.iconst 0, 0, 0, []), (.istore 2, 0, 0, [])] (pc1 := 30) (ls1 := [some (vm_r 96), some (vm_i v1), some (vm_i 0)]) (st1 := []) (m1 := m2) (ob := true) (by decide +kernel) rfl rfl ?_
      exact h
    · replace h := h.2 c2
      refine vm_gp [(.iconst (-2), 0, 0, [])] (pc1 := 23) (ls1 := [some (vm_r 96), some (vm_i v1), none]) (st1 := [vm_i (-2)]) (m1 := m1) (ob := true) (by decide +kernel) rfl rfl ?_
      exact vm_gr (r := some (vm_i (-2))) (i := (.ireturn, 1, 0, [])) (len := 1) (by decide +kernel) rfl rfl rfl ⟨_, rfl, h⟩
  · replace h := h.2 c1
    refine vm_gp [(.iconst (-1), 0, 0, [])] (pc1 := 11) (ls1 := [some (vm_r 96), some (vm_i v1), none]) (st1 := [vm_i (-1)]) (m1 := m1) (ob := true) (by decide +kernel) rfl rfl ?_
    exact vm_gr (r := some (vm_i (-1))) (i := (.ireturn, 1, 0, [])) (len := 1) (by decide +kernel) rfl rfl rfl ⟨_, rfl, h⟩
set_option maxRecDepth 20000 in
theorem ru11_restore_30 {v1 : Int} {v2 : Int} {m : vm_M} {Q : Int → vm_M → Prop}  (h :
    ((1075 ≤ v2 →
      Q (m 100 8) m) ∧ (¬ 1075 ≤ v2 →
      ((vm_32 (1075 * v1)) ∧ (vm_32 ((1075 * v1) + v2)) ∧ (0 ≤ ((1075 * v1) + v2) ∧ ((1075 * v1) + v2) < 2150) ∧ (0 ≤ v2 ∧ v2 < 1075) ∧ (vm_32 (v2 + 1))) ∧
      ku11_restore_30 v1 (v2 + 1) (vm_st m 100 v2 (m 102 ((1075 * v1) + v2))) Q))) : ku11_restore_30 v1 v2 m Q := by
  show vm_G 232 30 [some (vm_r 96), some (vm_i v1), some (vm_i v2)] [] m (vm_qi Q)
  refine vm_gp [(.iload 2, 0, 0, []), (.iconst 1075, 0, 0, [])] (pc1 := 34) (ls1 := [some (vm_r 96), some (vm_i v1), some (vm_i v2)]) (st1 := [vm_i 1075, vm_i v2]) (m1 := m) (ob := true) (by decide +kernel) rfl rfl ?_
  refine vm_gj (c := 1075 ≤ v2) (t := 61) (e := 37) (i := (.if_icmp .ge 0, 61, 0, [])) (len := 3) (st1 := []) (by decide +kernel) rfl rfl (fun c1 => ?_) (fun c1 => ?_)
  · replace h := h.1 c1
    refine vm_gp [(.aload 0, 0, 0, []), (.getfield 2, 11, 7, [(100, 0)]), (.iconst 8, 0, 0, []), (.iaload, 1075, 0, [])] (pc1 := 68) (ls1 := [some (vm_r 96), some (vm_i v1), some (vm_i v2)]) (st1 := [vm_i (m 100 8)]) (m1 := m) (ob := ((((true && vm_is 96 11) && true) && vm_ar 100 100 1075) && decide ((0 : Int) ≤ 8 ∧ (8 : Int) < 1075))) (by decide +kernel) rfl (vm_t (vm_u (vm_u (vm_u rfl (by decide +kernel)) rfl) (by decide +kernel)) (by decide)) ?_
    exact vm_gr (r := some (vm_i (m 100 8))) (i := (.ireturn, 1, 0, [])) (len := 1) (by decide +kernel) rfl rfl rfl ⟨_, rfl, h⟩
  · replace h := h.2 c1
    obtain ⟨⟨o3_0, o3_1, o3_2, o3_3, o3_4⟩, h⟩ := h
    refine vm_gp [(.aload 0, 0, 0, []), (.getfield 2, 11, 7, [(100, 0)]), (.iload 2, 0, 0, []), (.aload 0, 0, 0, []), (.getfield 2, 11, 9, [(102, 0)]), (.iconst 1075, 0, 0, []), (.iload 1, 0, 0, []), (.imul, 0, 0, []), (.iload 2, 0, 0, []), (.iadd, 0, 0, []), (.iaload, 2150, 0, []), (.iastore, 1075, 0, []), (.iinc 2 1, 0, 0, []), (.goto 0, 30, 0, [])] (pc1 := 30) (ls1 := [some (vm_r 96), some (vm_i v1), some (vm_i (v2 + 1))]) (st1 := []) (m1 := (vm_st m 100 v2 (m 102 ((1075 * v1) + v2)))) (ob := (((((((((((true && vm_is 96 11) && true) && vm_is 96 11) && true) && decide (vm_32 (1075 * v1))) && decide (vm_32 ((1075 * v1) + v2))) && vm_ar 102 100 2150) && decide (0 ≤ ((1075 * v1) + v2) ∧ ((1075 * v1) + v2) < 2150)) && vm_ar 100 100 1075) && decide (0 ≤ v2 ∧ v2 < 1075)) && decide (vm_32 (v2 + 1)))) (by decide +kernel) rfl (vm_t (vm_t (vm_u (vm_t (vm_u (vm_t (vm_t (vm_u (vm_u (vm_u (vm_u rfl (by decide +kernel)) rfl) (by decide +kernel)) rfl) o3_0) o3_1) (by decide +kernel)) o3_2) (by decide +kernel)) o3_3) o3_4) ?_
    exact h
abbrev ku11_manyTold_0  (m : vm_M) (Q : Int → vm_M → Prop) : Prop := vm_G 233 0 [some (vm_r 96), none, none] [] m (vm_qi Q)
abbrev ku11_manyTold_4 (v1 : Int) (v2 : Int) (m : vm_M) (Q : Int → vm_M → Prop) : Prop := vm_G 233 4 [some (vm_r 96), some (vm_i v1), some (vm_i v2)] [] m (vm_qi Q)
set_option maxRecDepth 20000 in
theorem ru11_manyTold_0  {m : vm_M} {Q : Int → vm_M → Prop}  (h :
    ku11_manyTold_4 0 0 m Q) : vm_C 233 [vm_r 96] m (vm_qi Q) := by
  show vm_G 233 0 [some (vm_r 96), none, none] [] m (vm_qi Q)
  refine vm_gp [(.iconst 0, 0, 0, []), (.istore 1, 0, 0, []), (.iconst 0, 0, 0, []), (.istore 2, 0, 0, [])] (pc1 := 4) (ls1 := [some (vm_r 96), some (vm_i 0), some (vm_i 0)]) (st1 := []) (m1 := m) (ob := true) (by decide +kernel) rfl rfl ?_
  exact h
set_option maxRecDepth 20000 in
theorem ru11_manyTold_4 {v1 : Int} {v2 : Int} {m : vm_M} {Q : Int → vm_M → Prop}  (h :
    ((26 ≤ v2 →
      Q v1 m) ∧ (¬ 26 ≤ v2 →
      ((vm_32 (v1 + (vm_and (vm_shr (m 96 4) v2) 1))) ∧ (vm_32 (v2 + 1))) ∧
      ku11_manyTold_4 (v1 + (vm_and (vm_shr (m 96 4) v2) 1)) (v2 + 1) m Q))) : ku11_manyTold_4 v1 v2 m Q := by
  show vm_G 233 4 [some (vm_r 96), some (vm_i v1), some (vm_i v2)] [] m (vm_qi Q)
  refine vm_gp [(.iload 2, 0, 0, []), (.iconst 26, 0, 0, [])] (pc1 := 7) (ls1 := [some (vm_r 96), some (vm_i v1), some (vm_i v2)]) (st1 := [vm_i 26, vm_i v2]) (m1 := m) (ob := true) (by decide +kernel) rfl rfl ?_
  refine vm_gj (c := 26 ≤ v2) (t := 27) (e := 10) (i := (.if_icmp .ge 0, 27, 0, [])) (len := 3) (st1 := []) (by decide +kernel) rfl rfl (fun c1 => ?_) (fun c1 => ?_)
  · replace h := h.1 c1
    refine vm_gp [(.iload 1, 0, 0, [])] (pc1 := 28) (ls1 := [some (vm_r 96), some (vm_i v1), some (vm_i v2)]) (st1 := [vm_i v1]) (m1 := m) (ob := true) (by decide +kernel) rfl rfl ?_
    exact vm_gr (r := some (vm_i v1)) (i := (.ireturn, 1, 0, [])) (len := 1) (by decide +kernel) rfl rfl rfl ⟨_, rfl, h⟩
  · replace h := h.2 c1
    obtain ⟨⟨o3_0, o3_1⟩, h⟩ := h
    refine vm_gp [(.iload 1, 0, 0, []), (.aload 0, 0, 0, []), (.getfield 0, 11, 4, []), (.iload 2, 0, 0, []), (.ishr, 0, 0, []), (.iconst 1, 0, 0, []), (.iand, 0, 0, []), (.iadd, 0, 0, []), (.istore 1, 0, 0, []), (.iinc 2 1, 0, 0, []), (.goto 0, 4, 0, [])] (pc1 := 4) (ls1 := [some (vm_r 96), some (vm_i (v1 + (vm_and (vm_shr (m 96 4) v2) 1))), some (vm_i (v2 + 1))]) (st1 := []) (m1 := m) (ob := (((true && vm_is 96 11) && decide (vm_32 (v1 + (vm_and (vm_shr (m 96 4) v2) 1)))) && decide (vm_32 (v2 + 1)))) (by decide +kernel) rfl (vm_t (vm_t (vm_u rfl (by decide +kernel)) o3_0) o3_1) ?_
    exact h
abbrev ku11_manyPairs_0  (m : vm_M) (Q : Int → vm_M → Prop) : Prop := vm_G 234 0 [some (vm_r 96), none, none] [] m (vm_qi Q)
abbrev ku11_manyPairs_4 (v1 : Int) (v2 : Int) (m : vm_M) (Q : Int → vm_M → Prop) : Prop := vm_G 234 4 [some (vm_r 96), some (vm_i v1), some (vm_i v2)] [] m (vm_qi Q)
set_option maxRecDepth 20000 in
theorem ru11_manyPairs_0  {m : vm_M} {Q : Int → vm_M → Prop}  (h :
    ku11_manyPairs_4 0 0 m Q) : vm_C 234 [vm_r 96] m (vm_qi Q) := by
  show vm_G 234 0 [some (vm_r 96), none, none] [] m (vm_qi Q)
  refine vm_gp [(.iconst 0, 0, 0, []), (.istore 1, 0, 0, []), (.iconst 0, 0, 0, []), (.istore 2, 0, 0, [])] (pc1 := 4) (ls1 := [some (vm_r 96), some (vm_i 0), some (vm_i 0)]) (st1 := []) (m1 := m) (ob := true) (by decide +kernel) rfl rfl ?_
  exact h
set_option maxRecDepth 20000 in
theorem ru11_manyPairs_4 {v1 : Int} {v2 : Int} {m : vm_M} {Q : Int → vm_M → Prop}  (h :
    ((676 ≤ v2 →
      Q v1 m) ∧ (¬ 676 ≤ v2 →
      ((vm_32 (9 + v2)) ∧ (0 ≤ (9 + v2) ∧ (9 + v2) < 1075)) ∧
      ((¬ (m 100 (9 + v2)) = 0 →
        ((vm_32 (v1 + 1)) ∧ (vm_32 (v2 + 1))) ∧
        ku11_manyPairs_4 (v1 + 1) (v2 + 1) m Q) ∧ (¬ ¬ (m 100 (9 + v2)) = 0 →
        ((vm_32 (v1 + 0)) ∧ (vm_32 (v2 + 1))) ∧
        ku11_manyPairs_4 (v1 + 0) (v2 + 1) m Q))))) : ku11_manyPairs_4 v1 v2 m Q := by
  show vm_G 234 4 [some (vm_r 96), some (vm_i v1), some (vm_i v2)] [] m (vm_qi Q)
  refine vm_gp [(.iload 2, 0, 0, []), (.iconst 676, 0, 0, [])] (pc1 := 8) (ls1 := [some (vm_r 96), some (vm_i v1), some (vm_i v2)]) (st1 := [vm_i 676, vm_i v2]) (m1 := m) (ob := true) (by decide +kernel) rfl rfl ?_
  refine vm_gj (c := 676 ≤ v2) (t := 37) (e := 11) (i := (.if_icmp .ge 0, 37, 0, [])) (len := 3) (st1 := []) (by decide +kernel) rfl rfl (fun c1 => ?_) (fun c1 => ?_)
  · replace h := h.1 c1
    refine vm_gp [(.iload 1, 0, 0, [])] (pc1 := 38) (ls1 := [some (vm_r 96), some (vm_i v1), some (vm_i v2)]) (st1 := [vm_i v1]) (m1 := m) (ob := true) (by decide +kernel) rfl rfl ?_
    exact vm_gr (r := some (vm_i v1)) (i := (.ireturn, 1, 0, [])) (len := 1) (by decide +kernel) rfl rfl rfl ⟨_, rfl, h⟩
  · replace h := h.2 c1
    obtain ⟨⟨o3_0, o3_1⟩, h⟩ := h
    refine vm_gp [(.iload 1, 0, 0, []), (.aload 0, 0, 0, []), (.getfield 2, 11, 7, [(100, 0)]), (.iconst 9, 0, 0, []), (.iload 2, 0, 0, []), (.iadd, 0, 0, []), (.iaload, 1075, 0, [])] (pc1 := 21) (ls1 := [some (vm_r 96), some (vm_i v1), some (vm_i v2)]) (st1 := [vm_i (m 100 (9 + v2)), vm_i v1]) (m1 := m) (ob := (((((true && vm_is 96 11) && true) && decide (vm_32 (9 + v2))) && vm_ar 100 100 1075) && decide (0 ≤ (9 + v2) ∧ (9 + v2) < 1075))) (by decide +kernel) rfl (vm_t (vm_u (vm_t (vm_u (vm_u rfl (by decide +kernel)) rfl) o3_0) (by decide +kernel)) o3_1) ?_
    refine vm_gj (c := ¬ (m 100 (9 + v2)) = 0) (t := 28) (e := 24) (i := (.ifCond .ne 0, 28, 0, [])) (len := 3) (st1 := [vm_i v1]) (by decide +kernel) rfl rfl (fun c2 => ?_) (fun c2 => ?_)
    · replace h := h.1 c2
      obtain ⟨⟨o4_0, o4_1⟩, h⟩ := h
      refine vm_gp [(.iconst 1, 0, 0, []), (.iadd, 0, 0, []), (.istore 1, 0, 0, []), (.iinc 2 1, 0, 0, []), (.goto 0, 4, 0, [])] (pc1 := 4) (ls1 := [some (vm_r 96), some (vm_i (v1 + 1)), some (vm_i (v2 + 1))]) (st1 := []) (m1 := m) (ob := ((true && decide (vm_32 (v1 + 1))) && decide (vm_32 (v2 + 1)))) (by decide +kernel) rfl (vm_t (vm_t rfl o4_0) o4_1) ?_
      exact h
    · replace h := h.2 c2
      obtain ⟨⟨o5_0, o5_1⟩, h⟩ := h
      refine vm_gp [(.iconst 0, 0, 0, []), (.goto 0, 29, 0, []), (.iadd, 0, 0, []), (.istore 1, 0, 0, []), (.iinc 2 1, 0, 0, []), (.goto 0, 4, 0, [])] (pc1 := 4) (ls1 := [some (vm_r 96), some (vm_i (v1 + 0)), some (vm_i (v2 + 1))]) (st1 := []) (m1 := m) (ob := ((true && decide (vm_32 (v1 + 0))) && decide (vm_32 (v2 + 1)))) (by decide +kernel) rfl (vm_t (vm_t rfl o5_0) o5_1) ?_
      exact h
abbrev ku11_manyLetters_0  (m : vm_M) (Q : Int → vm_M → Prop) : Prop := vm_G 235 0 [some (vm_r 96), none, none] [] m (vm_qi Q)
abbrev ku11_manyLetters_4 (v1 : Int) (v2 : Int) (m : vm_M) (Q : Int → vm_M → Prop) : Prop := vm_G 235 4 [some (vm_r 96), some (vm_i v1), some (vm_i v2)] [] m (vm_qi Q)
set_option maxRecDepth 20000 in
theorem ru11_manyLetters_0  {m : vm_M} {Q : Int → vm_M → Prop}  (h :
    ku11_manyLetters_4 0 0 m Q) : vm_C 235 [vm_r 96] m (vm_qi Q) := by
  show vm_G 235 0 [some (vm_r 96), none, none] [] m (vm_qi Q)
  refine vm_gp [(.iconst 0, 0, 0, []), (.istore 1, 0, 0, []), (.iconst 0, 0, 0, []), (.istore 2, 0, 0, [])] (pc1 := 4) (ls1 := [some (vm_r 96), some (vm_i 0), some (vm_i 0)]) (st1 := []) (m1 := m) (ob := true) (by decide +kernel) rfl rfl ?_
  exact h
set_option maxRecDepth 20000 in
theorem ru11_manyLetters_4 {v1 : Int} {v2 : Int} {m : vm_M} {Q : Int → vm_M → Prop}  (h :
    (((m 100 8) ≤ v2 →
      Q v1 m) ∧ (¬ (m 100 8) ≤ v2 →
      (vm_C 167 [vm_r 96, vm_i v2] m (vm_qi (fun z1 m1 =>
        ((vm_32 (v1 + z1)) ∧ (vm_32 (v2 + 1))) ∧
        ku11_manyLetters_4 (v1 + z1) (v2 + 1) m1 Q)))))) : ku11_manyLetters_4 v1 v2 m Q := by
  show vm_G 235 4 [some (vm_r 96), some (vm_i v1), some (vm_i v2)] [] m (vm_qi Q)
  refine vm_gp [(.iload 2, 0, 0, []), (.aload 0, 0, 0, []), (.getfield 2, 11, 7, [(100, 0)]), (.iconst 8, 0, 0, []), (.iaload, 1075, 0, [])] (pc1 := 12) (ls1 := [some (vm_r 96), some (vm_i v1), some (vm_i v2)]) (st1 := [vm_i (m 100 8), vm_i v2]) (m1 := m) (ob := ((((true && vm_is 96 11) && true) && vm_ar 100 100 1075) && decide ((0 : Int) ≤ 8 ∧ (8 : Int) < 1075))) (by decide +kernel) rfl (vm_t (vm_u (vm_u (vm_u rfl (by decide +kernel)) rfl) (by decide +kernel)) (by decide)) ?_
  refine vm_gj (c := (m 100 8) ≤ v2) (t := 29) (e := 15) (i := (.if_icmp .ge 0, 29, 0, [])) (len := 3) (st1 := []) (by decide +kernel) rfl rfl (fun c1 => ?_) (fun c1 => ?_)
  · replace h := h.1 c1
    refine vm_gp [(.iload 1, 0, 0, [])] (pc1 := 30) (ls1 := [some (vm_r 96), some (vm_i v1), some (vm_i v2)]) (st1 := [vm_i v1]) (m1 := m) (ob := true) (by decide +kernel) rfl rfl ?_
    exact vm_gr (r := some (vm_i v1)) (i := (.ireturn, 1, 0, [])) (len := 1) (by decide +kernel) rfl rfl rfl ⟨_, rfl, h⟩
  · replace h := h.2 c1
    refine vm_gp [(.iload 1, 0, 0, []), (.aload 0, 0, 0, []), (.iload 2, 0, 0, [])] (pc1 := 18) (ls1 := [some (vm_r 96), some (vm_i v1), some (vm_i v2)]) (st1 := [vm_i v2, vm_r 96, vm_i v1]) (m1 := m) (ob := true) (by decide +kernel) rfl rfl ?_
    refine vm_gc (g := 167) (na := 2) (av := [vm_r 96, vm_i v2]) (rest := [vm_i v1]) (i := (.invokevirtual 0, 167, 2, [])) (len := 3) (by decide +kernel) rfl rfl rfl (by decide +kernel) (by decide +kernel) rfl rfl (vm_u (vm_okh_v (c := 11) (by decide +kernel) (by decide +kernel)) (show vm_okn 167 2 1 0 0 2 = true by decide +kernel)) ?_
    refine vm_G.mono h ?_
    rintro _ m1 ⟨z1, rfl, h⟩
    show vm_G 235 21 [some (vm_r 96), some (vm_i v1), some (vm_i v2)] [vm_i z1, vm_i v1] m1 _
    obtain ⟨⟨o4_0, o4_1⟩, h⟩ := h
    refine vm_gp [(.iadd, 0, 0, []), (.istore 1, 0, 0, []), (.iinc 2 1, 0, 0, []), (.goto 0, 4, 0, [])] (pc1 := 4) (ls1 := [some (vm_r 96), some (vm_i (v1 + z1)), some (vm_i (v2 + 1))]) (st1 := []) (m1 := m1) (ob := ((true && decide (vm_32 (v1 + z1))) && decide (vm_32 (v2 + 1)))) (by decide +kernel) rfl (vm_t (vm_t rfl o4_0) o4_1) ?_
    exact h
abbrev ku11_manyRows_0  (m : vm_M) (Q : Int → vm_M → Prop) : Prop := vm_G 236 0 [some (vm_r 96)] [] m (vm_qi Q)
set_option maxRecDepth 20000 in
theorem ru11_manyRows_0  {m : vm_M} {Q : Int → vm_M → Prop}  (h :
    (vm_C 186 [vm_r 96] m (vm_qv (fun m1 =>
      Q (m1 96 14) m1)))) : vm_C 236 [vm_r 96] m (vm_qi Q) := by
  show vm_G 236 0 [some (vm_r 96)] [] m (vm_qi Q)
  refine vm_gp [(.aload 0, 0, 0, [])] (pc1 := 1) (ls1 := [some (vm_r 96)]) (st1 := [vm_r 96]) (m1 := m) (ob := true) (by decide +kernel) rfl rfl ?_
  refine vm_gc (g := 186) (na := 1) (av := [vm_r 96]) (rest := []) (i := (.invokevirtual 0, 186, 1, [])) (len := 3) (by decide +kernel) rfl rfl rfl (by decide +kernel) (by decide +kernel) rfl rfl (vm_u (vm_okh_v (c := 11) (by decide +kernel) (by decide +kernel)) (show vm_okn 186 1 0 0 0 1 = true by decide +kernel)) ?_
  refine vm_G.mono h ?_
  rintro _ m1 ⟨rfl, h⟩
  show vm_G 236 4 [some (vm_r 96)] [] m1 _
  refine vm_gp [(.aload 0, 0, 0, []), (.getfield 0, 11, 14, [])] (pc1 := 8) (ls1 := [some (vm_r 96)]) (st1 := [vm_i (m1 96 14)]) (m1 := m1) (ob := (true && vm_is 96 11)) (by decide +kernel) rfl (vm_u rfl (by decide +kernel)) ?_
  exact vm_gr (r := some (vm_i (m1 96 14))) (i := (.ireturn, 1, 0, [])) (len := 1) (by decide +kernel) rfl rfl rfl ⟨_, rfl, h⟩
abbrev ku11_value_0 (v1 : Int) (m : vm_M) (Q : Int → vm_M → Prop) : Prop := vm_G 237 0 [some (vm_r 96), some (vm_i v1)] [] m (vm_qi Q)
set_option maxRecDepth 20000 in
theorem ru11_value_0 {v1 : Int} {m : vm_M} {Q : Int → vm_M → Prop}  (h :
    ((v1 = 6 →
      Q (m 96 3) m) ∧ (¬ v1 = 6 →
      ((v1 = 7 →
        Q (m 100 6) m) ∧ (¬ v1 = 7 →
        ((v1 = 8 →
          Q (m 100 7) m) ∧ (¬ v1 = 8 →
          ((v1 = 9 →
            (vm_C 233 [vm_r 96] m (vm_qi (fun z1 m1 =>
              Q z1 m1)))) ∧ (¬ v1 = 9 →
            ((v1 = 10 →
              (vm_C 234 [vm_r 96] m (vm_qi (fun z2 m2 =>
                Q z2 m2)))) ∧ (¬ v1 = 10 →
              ((v1 = 11 →
                Q (m 100 8) m) ∧ (¬ v1 = 11 →
                ((v1 = 12 →
                  (vm_C 236 [vm_r 96] m (vm_qi (fun z3 m3 =>
                    Q z3 m3)))) ∧ (¬ v1 = 12 →
                  ((v1 = 13 →
                    (vm_C 235 [vm_r 96] m (vm_qi (fun z4 m4 =>
                      Q z4 m4)))) ∧ (¬ v1 = 13 →
                    (vm_C 164 [vm_l v1, vm_l 0, vm_l 5] m (vm_qi (fun z5 m5 =>
                      ((z5 = 0 →
                        Q (-1) m5) ∧ (¬ z5 = 0 →
                        ((0 ≤ v1 ∧ v1 < 1075)) ∧
                        Q (m5 100 v1) m5)))))))))))))))))))))) : vm_C 237 [vm_r 96, vm_i v1] m (vm_qi Q) := by
  show vm_G 237 0 [some (vm_r 96), some (vm_i v1)] [] m (vm_qi Q)
  refine vm_gp [(.iload 1, 0, 0, [])] (pc1 := 1) (ls1 := [some (vm_r 96), some (vm_i v1)]) (st1 := [vm_i v1]) (m1 := m) (ob := true) (by decide +kernel) rfl rfl ?_
  by_cases c1 : v1 = 6
  · replace h := h.1 c1
    refine vm_gj1 (i := (.tableswitch 0 0 0 #[], 97, 0, [(6, 48), (7, 53), (8, 61), (9, 69), (10, 74), (11, 79), (12, 87), (13, 92)])) (len := 47) (t := 48) (st1 := []) (by decide +kernel) rfl (by rw [c1]; rfl) ?_
    refine vm_gp [(.aload 0, 0, 0, []), (.getfield 0, 11, 3, [])] (pc1 := 52) (ls1 := [some (vm_r 96), some (vm_i v1)]) (st1 := [vm_i (m 96 3)]) (m1 := m) (ob := (true && vm_is 96 11)) (by decide +kernel) rfl (vm_u rfl (by decide +kernel)) ?_
    exact vm_gr (r := some (vm_i (m 96 3))) (i := (.ireturn, 1, 0, [])) (len := 1) (by decide +kernel) rfl rfl rfl ⟨_, rfl, h⟩
  · replace h := h.2 c1
    by_cases c2 : v1 = 7
    · replace h := h.1 c2
      refine vm_gj1 (i := (.tableswitch 0 0 0 #[], 97, 0, [(6, 48), (7, 53), (8, 61), (9, 69), (10, 74), (11, 79), (12, 87), (13, 92)])) (len := 47) (t := 53) (st1 := []) (by decide +kernel) rfl (by rw [c2]; rfl) ?_
      refine vm_gp [(.aload 0, 0, 0, []), (.getfield 2, 11, 7, [(100, 0)]), (.iconst 6, 0, 0, []), (.iaload, 1075, 0, [])] (pc1 := 60) (ls1 := [some (vm_r 96), some (vm_i v1)]) (st1 := [vm_i (m 100 6)]) (m1 := m) (ob := ((((true && vm_is 96 11) && true) && vm_ar 100 100 1075) && decide ((0 : Int) ≤ 6 ∧ (6 : Int) < 1075))) (by decide +kernel) rfl (vm_t (vm_u (vm_u (vm_u rfl (by decide +kernel)) rfl) (by decide +kernel)) (by decide)) ?_
      exact vm_gr (r := some (vm_i (m 100 6))) (i := (.ireturn, 1, 0, [])) (len := 1) (by decide +kernel) rfl rfl rfl ⟨_, rfl, h⟩
    · replace h := h.2 c2
      by_cases c3 : v1 = 8
      · replace h := h.1 c3
        refine vm_gj1 (i := (.tableswitch 0 0 0 #[], 97, 0, [(6, 48), (7, 53), (8, 61), (9, 69), (10, 74), (11, 79), (12, 87), (13, 92)])) (len := 47) (t := 61) (st1 := []) (by decide +kernel) rfl (by rw [c3]; rfl) ?_
        refine vm_gp [(.aload 0, 0, 0, []), (.getfield 2, 11, 7, [(100, 0)]), (.iconst 7, 0, 0, []), (.iaload, 1075, 0, [])] (pc1 := 68) (ls1 := [some (vm_r 96), some (vm_i v1)]) (st1 := [vm_i (m 100 7)]) (m1 := m) (ob := ((((true && vm_is 96 11) && true) && vm_ar 100 100 1075) && decide ((0 : Int) ≤ 7 ∧ (7 : Int) < 1075))) (by decide +kernel) rfl (vm_t (vm_u (vm_u (vm_u rfl (by decide +kernel)) rfl) (by decide +kernel)) (by decide)) ?_
        exact vm_gr (r := some (vm_i (m 100 7))) (i := (.ireturn, 1, 0, [])) (len := 1) (by decide +kernel) rfl rfl rfl ⟨_, rfl, h⟩
      · replace h := h.2 c3
        by_cases c4 : v1 = 9
        · replace h := h.1 c4
          refine vm_gj1 (i := (.tableswitch 0 0 0 #[], 97, 0, [(6, 48), (7, 53), (8, 61), (9, 69), (10, 74), (11, 79), (12, 87), (13, 92)])) (len := 47) (t := 69) (st1 := []) (by decide +kernel) rfl (by rw [c4]; rfl) ?_
          refine vm_gp [(.aload 0, 0, 0, [])] (pc1 := 70) (ls1 := [some (vm_r 96), some (vm_i v1)]) (st1 := [vm_r 96]) (m1 := m) (ob := true) (by decide +kernel) rfl rfl ?_
          refine vm_gc (g := 233) (na := 1) (av := [vm_r 96]) (rest := []) (i := (.invokevirtual 0, 233, 1, [])) (len := 3) (by decide +kernel) rfl rfl rfl (by decide +kernel) (by decide +kernel) rfl rfl (vm_u (vm_okh_v (c := 11) (by decide +kernel) (by decide +kernel)) (show vm_okn 233 1 0 0 0 1 = true by decide +kernel)) ?_
          refine vm_G.mono h ?_
          rintro _ m1 ⟨z1, rfl, h⟩
          show vm_G 237 73 [some (vm_r 96), some (vm_i v1)] [vm_i z1] m1 _
          exact vm_gr (r := some (vm_i z1)) (i := (.ireturn, 1, 0, [])) (len := 1) (by decide +kernel) rfl rfl rfl ⟨_, rfl, h⟩
        · replace h := h.2 c4
          by_cases c5 : v1 = 10
          · replace h := h.1 c5
            refine vm_gj1 (i := (.tableswitch 0 0 0 #[], 97, 0, [(6, 48), (7, 53), (8, 61), (9, 69), (10, 74), (11, 79), (12, 87), (13, 92)])) (len := 47) (t := 74) (st1 := []) (by decide +kernel) rfl (by rw [c5]; rfl) ?_
            refine vm_gp [(.aload 0, 0, 0, [])] (pc1 := 75) (ls1 := [some (vm_r 96), some (vm_i v1)]) (st1 := [vm_r 96]) (m1 := m) (ob := true) (by decide +kernel) rfl rfl ?_
            refine vm_gc (g := 234) (na := 1) (av := [vm_r 96]) (rest := []) (i := (.invokevirtual 0, 234, 1, [])) (len := 3) (by decide +kernel) rfl rfl rfl (by decide +kernel) (by decide +kernel) rfl rfl (vm_u (vm_okh_v (c := 11) (by decide +kernel) (by decide +kernel)) (show vm_okn 234 1 0 0 0 1 = true by decide +kernel)) ?_
            refine vm_G.mono h ?_
            rintro _ m2 ⟨z2, rfl, h⟩
            show vm_G 237 78 [some (vm_r 96), some (vm_i v1)] [vm_i z2] m2 _
            exact vm_gr (r := some (vm_i z2)) (i := (.ireturn, 1, 0, [])) (len := 1) (by decide +kernel) rfl rfl rfl ⟨_, rfl, h⟩
          · replace h := h.2 c5
            by_cases c6 : v1 = 11
            · replace h := h.1 c6
              refine vm_gj1 (i := (.tableswitch 0 0 0 #[], 97, 0, [(6, 48), (7, 53), (8, 61), (9, 69), (10, 74), (11, 79), (12, 87), (13, 92)])) (len := 47) (t := 79) (st1 := []) (by decide +kernel) rfl (by rw [c6]; rfl) ?_
              refine vm_gp [(.aload 0, 0, 0, []), (.getfield 2, 11, 7, [(100, 0)]), (.iconst 8, 0, 0, []), (.iaload, 1075, 0, [])] (pc1 := 86) (ls1 := [some (vm_r 96), some (vm_i v1)]) (st1 := [vm_i (m 100 8)]) (m1 := m) (ob := ((((true && vm_is 96 11) && true) && vm_ar 100 100 1075) && decide ((0 : Int) ≤ 8 ∧ (8 : Int) < 1075))) (by decide +kernel) rfl (vm_t (vm_u (vm_u (vm_u rfl (by decide +kernel)) rfl) (by decide +kernel)) (by decide)) ?_
              exact vm_gr (r := some (vm_i (m 100 8))) (i := (.ireturn, 1, 0, [])) (len := 1) (by decide +kernel) rfl rfl rfl ⟨_, rfl, h⟩
            · replace h := h.2 c6
              by_cases c7 : v1 = 12
              · replace h := h.1 c7
                refine vm_gj1 (i := (.tableswitch 0 0 0 #[], 97, 0, [(6, 48), (7, 53), (8, 61), (9, 69), (10, 74), (11, 79), (12, 87), (13, 92)])) (len := 47) (t := 87) (st1 := []) (by decide +kernel) rfl (by rw [c7]; rfl) ?_
                refine vm_gp [(.aload 0, 0, 0, [])] (pc1 := 88) (ls1 := [some (vm_r 96), some (vm_i v1)]) (st1 := [vm_r 96]) (m1 := m) (ob := true) (by decide +kernel) rfl rfl ?_
                refine vm_gc (g := 236) (na := 1) (av := [vm_r 96]) (rest := []) (i := (.invokevirtual 0, 236, 1, [])) (len := 3) (by decide +kernel) rfl rfl rfl (by decide +kernel) (by decide +kernel) rfl rfl (vm_u (vm_okh_v (c := 11) (by decide +kernel) (by decide +kernel)) (show vm_okn 236 1 0 0 0 1 = true by decide +kernel)) ?_
                refine vm_G.mono h ?_
                rintro _ m3 ⟨z3, rfl, h⟩
                show vm_G 237 91 [some (vm_r 96), some (vm_i v1)] [vm_i z3] m3 _
                exact vm_gr (r := some (vm_i z3)) (i := (.ireturn, 1, 0, [])) (len := 1) (by decide +kernel) rfl rfl rfl ⟨_, rfl, h⟩
              · replace h := h.2 c7
                by_cases c8 : v1 = 13
                · replace h := h.1 c8
                  refine vm_gj1 (i := (.tableswitch 0 0 0 #[], 97, 0, [(6, 48), (7, 53), (8, 61), (9, 69), (10, 74), (11, 79), (12, 87), (13, 92)])) (len := 47) (t := 92) (st1 := []) (by decide +kernel) rfl (by rw [c8]; rfl) ?_
                  refine vm_gp [(.aload 0, 0, 0, [])] (pc1 := 93) (ls1 := [some (vm_r 96), some (vm_i v1)]) (st1 := [vm_r 96]) (m1 := m) (ob := true) (by decide +kernel) rfl rfl ?_
                  refine vm_gc (g := 235) (na := 1) (av := [vm_r 96]) (rest := []) (i := (.invokevirtual 0, 235, 1, [])) (len := 3) (by decide +kernel) rfl rfl rfl (by decide +kernel) (by decide +kernel) rfl rfl (vm_u (vm_okh_v (c := 11) (by decide +kernel) (by decide +kernel)) (show vm_okn 235 1 0 0 0 1 = true by decide +kernel)) ?_
                  refine vm_G.mono h ?_
                  rintro _ m4 ⟨z4, rfl, h⟩
                  show vm_G 237 96 [some (vm_r 96), some (vm_i v1)] [vm_i z4] m4 _
                  exact vm_gr (r := some (vm_i z4)) (i := (.ireturn, 1, 0, [])) (len := 1) (by decide +kernel) rfl rfl rfl ⟨_, rfl, h⟩
                · replace h := h.2 c8
                  refine vm_gj1 (i := (.tableswitch 0 0 0 #[], 97, 0, [(6, 48), (7, 53), (8, 61), (9, 69), (10, 74), (11, 79), (12, 87), (13, 92)])) (len := 47) (t := 97) (st1 := []) (by decide +kernel) rfl (by simp only [vm_jmp, vm_sw, cond, decide_eq_false c1, decide_eq_false c2, decide_eq_false c3, decide_eq_false c4, decide_eq_false c5, decide_eq_false c6, decide_eq_false c7, decide_eq_false c8]) ?_
                  refine vm_gp [(.iload 1, 0, 0, []), (.i2l, 0, 0, []), (.ldc2_w 0, 0, 0, [(0, 0)]), (.ldc2_w 0, 0, 0, [(5, 0)])] (pc1 := 103) (ls1 := [some (vm_r 96), some (vm_i v1)]) (st1 := [vm_l 5, vm_l 0, vm_l v1]) (m1 := m) (ob := true) (by decide +kernel) rfl rfl ?_
                  refine vm_gc (g := 164) (na := 3) (av := [vm_l v1, vm_l 0, vm_l 5]) (rest := []) (i := (.invokestatic 0, 164, 3, [])) (len := 3) (by decide +kernel) rfl rfl rfl (by decide +kernel) (by decide +kernel) rfl rfl (vm_u (vm_okh_s (by decide +kernel)) (show vm_okn 164 3 0 0 0 6 = true by decide +kernel)) ?_
                  refine vm_G.mono h ?_
                  rintro _ m5 ⟨z5, rfl, h⟩
                  show vm_G 237 106 [some (vm_r 96), some (vm_i v1)] [vm_i z5] m5 _
                  refine vm_gj (c := z5 = 0) (t := 118) (e := 109) (i := (.ifCond .eq 0, 118, 0, [])) (len := 3) (st1 := []) (by decide +kernel) rfl rfl (fun c9 => ?_) (fun c9 => ?_)
                  · replace h := h.1 c9
                    refine vm_gp [(.iconst (-1), 0, 0, [])] (pc1 := 119) (ls1 := [some (vm_r 96), some (vm_i v1)]) (st1 := [vm_i (-1)]) (m1 := m5) (ob := true) (by decide +kernel) rfl rfl ?_
                    exact vm_gr (r := some (vm_i (-1))) (i := (.ireturn, 1, 0, [])) (len := 1) (by decide +kernel) rfl rfl rfl ⟨_, rfl, h⟩
                  · replace h := h.2 c9
                    obtain ⟨o17_0, h⟩ := h
                    refine vm_gp [(.aload 0, 0, 0, []), (.getfield 2, 11, 7, [(100, 0)]), (.iload 1, 0, 0, []), (.iaload, 1075, 0, []), (.goto 0, 119, 0, [])] (pc1 := 119) (ls1 := [some (vm_r 96), some (vm_i v1)]) (st1 := [vm_i (m5 100 v1)]) (m1 := m5) (ob := ((((true && vm_is 96 11) && true) && vm_ar 100 100 1075) && decide (0 ≤ v1 ∧ v1 < 1075))) (by decide +kernel) rfl (vm_t (vm_u (vm_u (vm_u rfl (by decide +kernel)) rfl) (by decide +kernel)) o17_0) ?_
                    exact vm_gr (r := some (vm_i (m5 100 v1))) (i := (.ireturn, 1, 0, [])) (len := 1) (by decide +kernel) rfl rfl rfl ⟨_, rfl, h⟩
abbrev ku11_inset_0 (v1 : Int) (v2 : Int) (v3 : Int) (m : vm_M) (Q : Int → vm_M → Prop) : Prop := vm_G 238 0 [some (vm_r 96), some (vm_i v1), some (vm_i v2), some (vm_i v3), none] [] m (vm_qi Q)
set_option maxRecDepth 20000 in
theorem ru11_inset_0 {v1 : Int} {v2 : Int} {v3 : Int} {m : vm_M} {Q : Int → vm_M → Prop}  (h :
    (vm_C 165 [vm_r 96, vm_i v1] m (vm_qi (fun z1 m1 =>
      ((z1 = 0 →
        Q (-1) m1) ∧ (¬ z1 = 0 →
        (vm_C 164 [vm_l v3, vm_l 0, vm_l 5] m1 (vm_qi (fun z2 m2 =>
          ((¬ z2 = 0 →
            ((v2 = 0 →
              (vm_C 166 [vm_r 96, vm_i v1, vm_i 0, vm_i v3] m2 (vm_qi (fun z3 m3 =>
                ((¬ z3 = (-1) →
                  Q z3 m3) ∧ (¬ ¬ z3 = (-1) →
                  Q (-2) m3)))))) ∧ (¬ v2 = 0 →
              (vm_C 166 [vm_r 96, vm_i v1, vm_i 1, vm_i v3] m2 (vm_qi (fun z4 m4 =>
                ((¬ z4 = (-1) →
                  Q z4 m4) ∧ (¬ ¬ z4 = (-1) →
                  Q (-2) m4)))))))) ∧ (¬ ¬ z2 = 0 →
            Q (-1) m2))))))))))) : vm_C 238 [vm_r 96, vm_i v1, vm_i v2, vm_i v3] m (vm_qi Q) := by
  show vm_G 238 0 [some (vm_r 96), some (vm_i v1), some (vm_i v2), some (vm_i v3), none] [] m (vm_qi Q)
  refine vm_gp [(.aload 0, 0, 0, []), (.iload 1, 0, 0, [])] (pc1 := 2) (ls1 := [some (vm_r 96), some (vm_i v1), some (vm_i v2), some (vm_i v3), none]) (st1 := [vm_i v1, vm_r 96]) (m1 := m) (ob := true) (by decide +kernel) rfl rfl ?_
  refine vm_gc (g := 165) (na := 2) (av := [vm_r 96, vm_i v1]) (rest := []) (i := (.invokevirtual 0, 165, 2, [])) (len := 3) (by decide +kernel) rfl rfl rfl (by decide +kernel) (by decide +kernel) rfl rfl (vm_u (vm_okh_v (c := 11) (by decide +kernel) (by decide +kernel)) (show vm_okn 165 2 0 0 0 2 = true by decide +kernel)) ?_
  refine vm_G.mono h ?_
  rintro _ m1 ⟨z1, rfl, h⟩
  show vm_G 238 5 [some (vm_r 96), some (vm_i v1), some (vm_i v2), some (vm_i v3), none] [vm_i z1] m1 _
  refine vm_gj (c := z1 = 0) (t := 20) (e := 8) (i := (.ifCond .eq 0, 20, 0, [])) (len := 3) (st1 := []) (by decide +kernel) rfl rfl (fun c1 => ?_) (fun c1 => ?_)
  · replace h := h.1 c1
    refine vm_gp [(.iconst (-1), 0, 0, [])] (pc1 := 21) (ls1 := [some (vm_r 96), some (vm_i v1), some (vm_i v2), some (vm_i v3), none]) (st1 := [vm_i (-1)]) (m1 := m1) (ob := true) (by decide +kernel) rfl rfl ?_
    exact vm_gr (r := some (vm_i (-1))) (i := (.ireturn, 1, 0, [])) (len := 1) (by decide +kernel) rfl rfl rfl ⟨_, rfl, h⟩
  · replace h := h.2 c1
    refine vm_gp [(.iload 3, 0, 0, []), (.i2l, 0, 0, []), (.ldc2_w 0, 0, 0, [(0, 0)]), (.ldc2_w 0, 0, 0, [(5, 0)])] (pc1 := 14) (ls1 := [some (vm_r 96), some (vm_i v1), some (vm_i v2), some (vm_i v3), none]) (st1 := [vm_l 5, vm_l 0, vm_l v3]) (m1 := m1) (ob := true) (by decide +kernel) rfl rfl ?_
    refine vm_gc (g := 164) (na := 3) (av := [vm_l v3, vm_l 0, vm_l 5]) (rest := []) (i := (.invokestatic 0, 164, 3, [])) (len := 3) (by decide +kernel) rfl rfl rfl (by decide +kernel) (by decide +kernel) rfl rfl (vm_u (vm_okh_s (by decide +kernel)) (show vm_okn 164 3 0 0 0 6 = true by decide +kernel)) ?_
    refine vm_G.mono h ?_
    rintro _ m2 ⟨z2, rfl, h⟩
    show vm_G 238 17 [some (vm_r 96), some (vm_i v1), some (vm_i v2), some (vm_i v3), none] [vm_i z2] m2 _
    refine vm_gj (c := ¬ z2 = 0) (t := 22) (e := 20) (i := (.ifCond .ne 0, 22, 0, [])) (len := 3) (st1 := []) (by decide +kernel) rfl rfl (fun c2 => ?_) (fun c2 => ?_)
    · replace h := h.1 c2
      refine vm_gp [(.aload 0, 0, 0, []), (.iload 1, 0, 0, []), (.iload 2, 0, 0, [])] (pc1 := 25) (ls1 := [some (vm_r 96), some (vm_i v1), some (vm_i v2), some (vm_i v3), none]) (st1 := [vm_i v2, vm_i v1, vm_r 96]) (m1 := m2) (ob := true) (by decide +kernel) rfl rfl ?_
      refine vm_gj (c := v2 = 0) (t := 32) (e := 28) (i := (.ifCond .eq 0, 32, 0, [])) (len := 3) (st1 := [vm_i v1, vm_r 96]) (by decide +kernel) rfl rfl (fun c3 => ?_) (fun c3 => ?_)
      · replace h := h.1 c3
        refine vm_gp [(.iconst 0, 0, 0, []), (.iload 3, 0, 0, [])] (pc1 := 34) (ls1 := [some (vm_r 96), some (vm_i v1), some (vm_i v2), some (vm_i v3), none]) (st1 := [vm_i v3, vm_i 0, vm_i v1, vm_r 96]) (m1 := m2) (ob := true) (by decide +kernel) rfl rfl ?_
        refine vm_gc (g := 166) (na := 4) (av := [vm_r 96, vm_i v1, vm_i 0, vm_i v3]) (rest := []) (i := (.invokevirtual 0, 166, 4, [])) (len := 3) (by decide +kernel) rfl rfl rfl (by decide +kernel) (by decide +kernel) rfl rfl (vm_u (vm_okh_v (c := 11) (by decide +kernel) (by decide +kernel)) (show vm_okn 166 4 0 0 0 4 = true by decide +kernel)) ?_
        refine vm_G.mono h ?_
        rintro _ m3 ⟨z3, rfl, h⟩
        show vm_G 238 37 [some (vm_r 96), some (vm_i v1), some (vm_i v2), some (vm_i v3), none] [vm_i z3] m3 _
        refine vm_gp [(.istore 4, 0, 0, []), (.iload 4, 0, 0, []), (.iconst (-1), 0, 0, [])] (pc1 := 42) (ls1 := [some (vm_r 96), some (vm_i v1), some (vm_i v2), some (vm_i v3), some (vm_i z3)]) (st1 := [vm_i (-1), vm_i z3]) (m1 := m3) (ob := true) (by decide +kernel) rfl rfl ?_
        refine vm_gj (c := ¬ z3 = (-1)) (t := 50) (e := 45) (i := (.if_icmp .ne 0, 50, 0, [])) (len := 3) (st1 := []) (by decide +kernel) rfl rfl (fun c4 => ?_) (fun c4 => ?_)
        · replace h := h.1 c4
          refine vm_gp [(.iload 4, 0, 0, [])] (pc1 := 52) (ls1 := [some (vm_r 96), some (vm_i v1), some (vm_i v2), some (vm_i v3), some (vm_i z3)]) (st1 := [vm_i z3]) (m1 := m3) (ob := true) (by decide +kernel) rfl rfl ?_
          exact vm_gr (r := some (vm_i z3)) (i := (.ireturn, 1, 0, [])) (len := 1) (by decide +kernel) rfl rfl rfl ⟨_, rfl, h⟩
        · replace h := h.2 c4
          refine vm_gp [(.iconst (-2), 0, 0, []), (.goto 0, 52, 0, [])] (pc1 := 52) (ls1 := [some (vm_r 96), some (vm_i v1), some (vm_i v2), some (vm_i v3), some (vm_i z3)]) (st1 := [vm_i (-2)]) (m1 := m3) (ob := true) (by decide +kernel) rfl rfl ?_
          exact vm_gr (r := some (vm_i (-2))) (i := (.ireturn, 1, 0, [])) (len := 1) (by decide +kernel) rfl rfl rfl ⟨_, rfl, h⟩
      · replace h := h.2 c3
        refine vm_gp [(.iconst 1, 0, 0, []), (.goto 0, 33, 0, []), (.iload 3, 0, 0, [])] (pc1 := 34) (ls1 := [some (vm_r 96), some (vm_i v1), some (vm_i v2), some (vm_i v3), none]) (st1 := [vm_i v3, vm_i 1, vm_i v1, vm_r 96]) (m1 := m2) (ob := true) (by decide +kernel) rfl rfl ?_
        refine vm_gc (g := 166) (na := 4) (av := [vm_r 96, vm_i v1, vm_i 1, vm_i v3]) (rest := []) (i := (.invokevirtual 0, 166, 4, [])) (len := 3) (by decide +kernel) rfl rfl rfl (by decide +kernel) (by decide +kernel) rfl rfl (vm_u (vm_okh_v (c := 11) (by decide +kernel) (by decide +kernel)) (show vm_okn 166 4 0 0 0 4 = true by decide +kernel)) ?_
        refine vm_G.mono h ?_
        rintro _ m4 ⟨z4, rfl, h⟩
        show vm_G 238 37 [some (vm_r 96), some (vm_i v1), some (vm_i v2), some (vm_i v3), none] [vm_i z4] m4 _
        refine vm_gp [(.istore 4, 0, 0, []), (.iload 4, 0, 0, []), (.iconst (-1), 0, 0, [])] (pc1 := 42) (ls1 := [some (vm_r 96), some (vm_i v1), some (vm_i v2), some (vm_i v3), some (vm_i z4)]) (st1 := [vm_i (-1), vm_i z4]) (m1 := m4) (ob := true) (by decide +kernel) rfl rfl ?_
        refine vm_gj (c := ¬ z4 = (-1)) (t := 50) (e := 45) (i := (.if_icmp .ne 0, 50, 0, [])) (len := 3) (st1 := []) (by decide +kernel) rfl rfl (fun c5 => ?_) (fun c5 => ?_)
        · replace h := h.1 c5
          refine vm_gp [(.iload 4, 0, 0, [])] (pc1 := 52) (ls1 := [some (vm_r 96), some (vm_i v1), some (vm_i v2), some (vm_i v3), some (vm_i z4)]) (st1 := [vm_i z4]) (m1 := m4) (ob := true) (by decide +kernel) rfl rfl ?_
          exact vm_gr (r := some (vm_i z4)) (i := (.ireturn, 1, 0, [])) (len := 1) (by decide +kernel) rfl rfl rfl ⟨_, rfl, h⟩
        · replace h := h.2 c5
          refine vm_gp [(.iconst (-2), 0, 0, []), (.goto 0, 52, 0, [])] (pc1 := 52) (ls1 := [some (vm_r 96), some (vm_i v1), some (vm_i v2), some (vm_i v3), some (vm_i z4)]) (st1 := [vm_i (-2)]) (m1 := m4) (ob := true) (by decide +kernel) rfl rfl ?_
          exact vm_gr (r := some (vm_i (-2))) (i := (.ireturn, 1, 0, [])) (len := 1) (by decide +kernel) rfl rfl rfl ⟨_, rfl, h⟩
    · replace h := h.2 c2
      refine vm_gp [(.iconst (-1), 0, 0, [])] (pc1 := 21) (ls1 := [some (vm_r 96), some (vm_i v1), some (vm_i v2), some (vm_i v3), none]) (st1 := [vm_i (-1)]) (m1 := m2) (ob := true) (by decide +kernel) rfl rfl ?_
      exact vm_gr (r := some (vm_i (-1))) (i := (.ireturn, 1, 0, [])) (len := 1) (by decide +kernel) rfl rfl rfl ⟨_, rfl, h⟩
abbrev ku11_sumOf_0 (v1 : Int) (v2 : Int) (m : vm_M) (Q : Int → vm_M → Prop) : Prop := vm_G 239 0 [some (vm_r 96), some (vm_i v1), some (vm_i v2), none, none, none] [] m (vm_qi Q)
abbrev ku11_sumOf_5 (v1 : Int) (v2 : Int) (v3 : Int) (v4 : Int) (w5 : Option vm_V) (m : vm_M) (Q : Int → vm_M → Prop) : Prop := vm_G 239 5 [some (vm_r 96), some (vm_i v1), some (vm_i v2), some (vm_i v3), some (vm_i v4), w5] [] m (vm_qi Q)
set_option maxRecDepth 20000 in
theorem ru11_sumOf_0 {v1 : Int} {v2 : Int} {m : vm_M} {Q : Int → vm_M → Prop}  (h :
    ku11_sumOf_5 v1 v2 0 0 none m Q) : vm_C 239 [vm_r 96, vm_i v1, vm_i v2] m (vm_qi Q) := by
  show vm_G 239 0 [some (vm_r 96), some (vm_i v1), some (vm_i v2), none, none, none] [] m (vm_qi Q)
  refine vm_gp [(.iconst 0, 0, 0, []), (.istore 3, 0, 0, []), (.iconst 0, 0, 0, []), (.istore 4, 0, 0, [])] (pc1 := 5) (ls1 := [some (vm_r 96), some (vm_i v1), some (vm_i v2), some (vm_i 0), some (vm_i 0), none]) (st1 := []) (m1 := m) (ob := true) (by decide +kernel) rfl rfl ?_
  exact h
set_option maxRecDepth 20000 in
theorem ru11_sumOf_5 {v1 : Int} {v2 : Int} {v3 : Int} {v4 : Int} {w5 : Option vm_V} {m : vm_M} {Q : Int → vm_M → Prop}  (h :
    ((6 ≤ v4 →
      Q v3 m) ∧ (¬ 6 ≤ v4 →
      (vm_C 166 [vm_r 96, vm_i v1, vm_i v2, vm_i v4] m (vm_qi (fun z1 m1 =>
        ((¬ z1 = (-1) →
          ((vm_32 (v3 + z1)) ∧ (vm_32 (v4 + 1))) ∧
          ku11_sumOf_5 v1 v2 (v3 + z1) (v4 + 1) (some (vm_i z1)) m1 Q) ∧ (¬ ¬ z1 = (-1) →
          ((vm_32 (v3 + 0)) ∧ (vm_32 (v4 + 1))) ∧
          ku11_sumOf_5 v1 v2 (v3 + 0) (v4 + 1) (some (vm_i z1)) m1 Q)))))))) : ku11_sumOf_5 v1 v2 v3 v4 w5 m Q := by
  show vm_G 239 5 [some (vm_r 96), some (vm_i v1), some (vm_i v2), some (vm_i v3), some (vm_i v4), w5] [] m (vm_qi Q)
  refine vm_gp [(.iload 4, 0, 0, []), (.iconst 6, 0, 0, [])] (pc1 := 9) (ls1 := [some (vm_r 96), some (vm_i v1), some (vm_i v2), some (vm_i v3), some (vm_i v4), w5]) (st1 := [vm_i 6, vm_i v4]) (m1 := m) (ob := true) (by decide +kernel) rfl rfl ?_
  refine vm_gj (c := 6 ≤ v4) (t := 43) (e := 12) (i := (.if_icmp .ge 0, 43, 0, [])) (len := 3) (st1 := []) (by decide +kernel) rfl rfl (fun c1 => ?_) (fun c1 => ?_)
  · replace h := h.1 c1
    refine vm_gp [(.iload 3, 0, 0, [])] (pc1 := 44) (ls1 := [some (vm_r 96), some (vm_i v1), some (vm_i v2), some (vm_i v3), some (vm_i v4), w5]) (st1 := [vm_i v3]) (m1 := m) (ob := true) (by decide +kernel) rfl rfl ?_
    exact vm_gr (r := some (vm_i v3)) (i := (.ireturn, 1, 0, [])) (len := 1) (by decide +kernel) rfl rfl rfl ⟨_, rfl, h⟩
  · replace h := h.2 c1
    refine vm_gp [(.aload 0, 0, 0, []), (.iload 1, 0, 0, []), (.iload 2, 0, 0, []), (.iload 4, 0, 0, [])] (pc1 := 17) (ls1 := [some (vm_r 96), some (vm_i v1), some (vm_i v2), some (vm_i v3), some (vm_i v4), w5]) (st1 := [vm_i v4, vm_i v2, vm_i v1, vm_r 96]) (m1 := m) (ob := true) (by decide +kernel) rfl rfl ?_
    refine vm_gc (g := 166) (na := 4) (av := [vm_r 96, vm_i v1, vm_i v2, vm_i v4]) (rest := []) (i := (.invokevirtual 0, 166, 4, [])) (len := 3) (by decide +kernel) rfl rfl rfl (by decide +kernel) (by decide +kernel) rfl rfl (vm_u (vm_okh_v (c := 11) (by decide +kernel) (by decide +kernel)) (show vm_okn 166 4 0 0 0 4 = true by decide +kernel)) ?_
    refine vm_G.mono h ?_
    rintro _ m1 ⟨z1, rfl, h⟩
    show vm_G 239 20 [some (vm_r 96), some (vm_i v1), some (vm_i v2), some (vm_i v3), some (vm_i v4), w5] [vm_i z1] m1 _
    refine vm_gp [(.istore 5, 0, 0, []), (.iload 3, 0, 0, []), (.iload 5, 0, 0, []), (.iconst (-1), 0, 0, [])] (pc1 := 26) (ls1 := [some (vm_r 96), some (vm_i v1), some (vm_i v2), some (vm_i v3), some (vm_i v4), some (vm_i z1)]) (st1 := [vm_i (-1), vm_i z1, vm_i v3]) (m1 := m1) (ob := true) (by decide +kernel) rfl rfl ?_
    refine vm_gj (c := ¬ z1 = (-1)) (t := 33) (e := 29) (i := (.if_icmp .ne 0, 33, 0, [])) (len := 3) (st1 := [vm_i v3]) (by decide +kernel) rfl rfl (fun c2 => ?_) (fun c2 => ?_)
    · replace h := h.1 c2
      obtain ⟨⟨o5_0, o5_1⟩, h⟩ := h
      refine vm_gp [(.iload 5, 0, 0, []), (.iadd, 0, 0, []), (.istore 3, 0, 0, []), (.iinc 4 1, 0, 0, []), (.goto 0, 5, 0, [])] (pc1 := 5) (ls1 := [some (vm_r 96), some (vm_i v1), some (vm_i v2), some (vm_i (v3 + z1)), some (vm_i (v4 + 1)), some (vm_i z1)]) (st1 := []) (m1 := m1) (ob := ((true && decide (vm_32 (v3 + z1))) && decide (vm_32 (v4 + 1)))) (by decide +kernel) rfl (vm_t (vm_t rfl o5_0) o5_1) ?_
      exact h
    · replace h := h.2 c2
      obtain ⟨⟨o6_0, o6_1⟩, h⟩ := h
      refine vm_gp [(.iconst 0, 0, 0, []), (.goto 0, 35, 0, []), (.iadd, 0, 0, []), (.istore 3, 0, 0, []), (.iinc 4 1, 0, 0, []), (.goto 0, 5, 0, [])] (pc1 := 5) (ls1 := [some (vm_r 96), some (vm_i v1), some (vm_i v2), some (vm_i (v3 + 0)), some (vm_i (v4 + 1)), some (vm_i z1)]) (st1 := []) (m1 := m1) (ob := ((true && decide (vm_32 (v3 + 0))) && decide (vm_32 (v4 + 1)))) (by decide +kernel) rfl (vm_t (vm_t rfl o6_0) o6_1) ?_
      exact h
abbrev ku11_openOf_0 (v1 : Int) (m : vm_M) (Q : Int → vm_M → Prop) : Prop := vm_G 240 0 [some (vm_r 96), some (vm_i v1), none, none] [] m (vm_qi Q)
abbrev ku11_openOf_4 (v1 : Int) (v2 : Int) (v3 : Int) (m : vm_M) (Q : Int → vm_M → Prop) : Prop := vm_G 240 4 [some (vm_r 96), some (vm_i v1), some (vm_i v2), some (vm_i v3)] [] m (vm_qi Q)
set_option maxRecDepth 20000 in
theorem ru11_openOf_0 {v1 : Int} {m : vm_M} {Q : Int → vm_M → Prop}  (h :
    ku11_openOf_4 v1 0 0 m Q) : vm_C 240 [vm_r 96, vm_i v1] m (vm_qi Q) := by
  show vm_G 240 0 [some (vm_r 96), some (vm_i v1), none, none] [] m (vm_qi Q)
  refine vm_gp [(.iconst 0, 0, 0, []), (.istore 2, 0, 0, []), (.iconst 0, 0, 0, []), (.istore 3, 0, 0, [])] (pc1 := 4) (ls1 := [some (vm_r 96), some (vm_i v1), some (vm_i 0), some (vm_i 0)]) (st1 := []) (m1 := m) (ob := true) (by decide +kernel) rfl rfl ?_
  exact h
set_option maxRecDepth 20000 in
theorem ru11_openOf_4 {v1 : Int} {v2 : Int} {v3 : Int} {m : vm_M} {Q : Int → vm_M → Prop}  (h :
    ((12 ≤ v3 →
      Q v2 m) ∧ (¬ 12 ≤ v3 →
      ((vm_32 (12 * v1)) ∧ (vm_32 ((12 * v1) + v3)) ∧ (0 ≤ ((12 * v1) + v3) ∧ ((12 * v1) + v3) < 312)) ∧
      ((¬ (m 99 ((12 * v1) + v3)) = (-1) →
        ((vm_32 (v2 + 0)) ∧ (vm_32 (v3 + 1))) ∧
        ku11_openOf_4 v1 (v2 + 0) (v3 + 1) m Q) ∧ (¬ ¬ (m 99 ((12 * v1) + v3)) = (-1) →
        ((vm_32 (v2 + 1)) ∧ (vm_32 (v3 + 1))) ∧
        ku11_openOf_4 v1 (v2 + 1) (v3 + 1) m Q))))) : ku11_openOf_4 v1 v2 v3 m Q := by
  show vm_G 240 4 [some (vm_r 96), some (vm_i v1), some (vm_i v2), some (vm_i v3)] [] m (vm_qi Q)
  refine vm_gp [(.iload 3, 0, 0, []), (.iconst 12, 0, 0, [])] (pc1 := 7) (ls1 := [some (vm_r 96), some (vm_i v1), some (vm_i v2), some (vm_i v3)]) (st1 := [vm_i 12, vm_i v3]) (m1 := m) (ob := true) (by decide +kernel) rfl rfl ?_
  refine vm_gj (c := 12 ≤ v3) (t := 39) (e := 10) (i := (.if_icmp .ge 0, 39, 0, [])) (len := 3) (st1 := []) (by decide +kernel) rfl rfl (fun c1 => ?_) (fun c1 => ?_)
  · replace h := h.1 c1
    refine vm_gp [(.iload 2, 0, 0, [])] (pc1 := 40) (ls1 := [some (vm_r 96), some (vm_i v1), some (vm_i v2), some (vm_i v3)]) (st1 := [vm_i v2]) (m1 := m) (ob := true) (by decide +kernel) rfl rfl ?_
    exact vm_gr (r := some (vm_i v2)) (i := (.ireturn, 1, 0, [])) (len := 1) (by decide +kernel) rfl rfl rfl ⟨_, rfl, h⟩
  · replace h := h.2 c1
    obtain ⟨⟨o3_0, o3_1, o3_2⟩, h⟩ := h
    refine vm_gp [(.iload 2, 0, 0, []), (.aload 0, 0, 0, []), (.getfield 2, 11, 6, [(99, 0)]), (.iconst 12, 0, 0, []), (.iload 1, 0, 0, []), (.imul, 0, 0, []), (.iload 3, 0, 0, []), (.iadd, 0, 0, []), (.iaload, 312, 0, []), (.iconst (-1), 0, 0, [])] (pc1 := 23) (ls1 := [some (vm_r 96), some (vm_i v1), some (vm_i v2), some (vm_i v3)]) (st1 := [vm_i (-1), vm_i (m 99 ((12 * v1) + v3)), vm_i v2]) (m1 := m) (ob := ((((((true && vm_is 96 11) && true) && decide (vm_32 (12 * v1))) && decide (vm_32 ((12 * v1) + v3))) && vm_ar 99 100 312) && decide (0 ≤ ((12 * v1) + v3) ∧ ((12 * v1) + v3) < 312))) (by decide +kernel) rfl (vm_t (vm_u (vm_t (vm_t (vm_u (vm_u rfl (by decide +kernel)) rfl) o3_0) o3_1) (by decide +kernel)) o3_2) ?_
    refine vm_gj (c := ¬ (m 99 ((12 * v1) + v3)) = (-1)) (t := 30) (e := 26) (i := (.if_icmp .ne 0, 30, 0, [])) (len := 3) (st1 := [vm_i v2]) (by decide +kernel) rfl rfl (fun c2 => ?_) (fun c2 => ?_)
    · replace h := h.1 c2
      obtain ⟨⟨o4_0, o4_1⟩, h⟩ := h
      refine vm_gp [(.iconst 0, 0, 0, []), (.iadd, 0, 0, []), (.istore 2, 0, 0, []), (.iinc 3 1, 0, 0, []), (.goto 0, 4, 0, [])] (pc1 := 4) (ls1 := [some (vm_r 96), some (vm_i v1), some (vm_i (v2 + 0)), some (vm_i (v3 + 1))]) (st1 := []) (m1 := m) (ob := ((true && decide (vm_32 (v2 + 0))) && decide (vm_32 (v3 + 1)))) (by decide +kernel) rfl (vm_t (vm_t rfl o4_0) o4_1) ?_
      exact h
    · replace h := h.2 c2
      obtain ⟨⟨o5_0, o5_1⟩, h⟩ := h
      refine vm_gp [(.iconst 1, 0, 0, []), (.goto 0, 31, 0, []), (.iadd, 0, 0, []), (.istore 2, 0, 0, []), (.iinc 3 1, 0, 0, []), (.goto 0, 4, 0, [])] (pc1 := 4) (ls1 := [some (vm_r 96), some (vm_i v1), some (vm_i (v2 + 1)), some (vm_i (v3 + 1))]) (st1 := []) (m1 := m) (ob := ((true && decide (vm_32 (v2 + 1))) && decide (vm_32 (v3 + 1)))) (by decide +kernel) rfl (vm_t (vm_t rfl o5_0) o5_1) ?_
      exact h
abbrev ku11_oftenIn_0 (v1 : Int) (m : vm_M) (Q : Int → vm_M → Prop) : Prop := vm_G 241 0 [some (vm_r 96), some (vm_i v1), none, none, none] [] m (vm_qi Q)
abbrev ku11_oftenIn_4 (v1 : Int) (v2 : Int) (v3 : Int) (w4 : Option vm_V) (m : vm_M) (Q : Int → vm_M → Prop) : Prop := vm_G 241 4 [some (vm_r 96), some (vm_i v1), some (vm_i v2), some (vm_i v3), w4] [] m (vm_qi Q)
abbrev ku11_oftenIn_18 (v1 : Int) (v2 : Int) (v3 : Int) (v4 : Int) (m : vm_M) (Q : Int → vm_M → Prop) : Prop := vm_G 241 18 [some (vm_r 96), some (vm_i v1), some (vm_i v2), some (vm_i v3), some (vm_i v4)] [] m (vm_qi Q)
set_option maxRecDepth 20000 in
theorem ru11_oftenIn_0 {v1 : Int} {m : vm_M} {Q : Int → vm_M → Prop}  (h :
    ku11_oftenIn_4 v1 0 0 none m Q) : vm_C 241 [vm_r 96, vm_i v1] m (vm_qi Q) := by
  show vm_G 241 0 [some (vm_r 96), some (vm_i v1), none, none, none] [] m (vm_qi Q)
  refine vm_gp [(.iconst 0, 0, 0, []), (.istore 2, 0, 0, []), (.iconst 0, 0, 0, []), (.istore 3, 0, 0, [])] (pc1 := 4) (ls1 := [some (vm_r 96), some (vm_i v1), some (vm_i 0), some (vm_i 0), none]) (st1 := []) (m1 := m) (ob := true) (by decide +kernel) rfl rfl ?_
  exact h
set_option maxRecDepth 20000 in
theorem ru11_oftenIn_4 {v1 : Int} {v2 : Int} {v3 : Int} {w4 : Option vm_V} {m : vm_M} {Q : Int → vm_M → Prop}  (h :
    (((m 100 8) ≤ v3 →
      Q v2 m) ∧ (¬ (m 100 8) ≤ v3 →
      ku11_oftenIn_18 v1 v2 v3 0 m Q))) : ku11_oftenIn_4 v1 v2 v3 w4 m Q := by
  show vm_G 241 4 [some (vm_r 96), some (vm_i v1), some (vm_i v2), some (vm_i v3), w4] [] m (vm_qi Q)
  refine vm_gp [(.iload 3, 0, 0, []), (.aload 0, 0, 0, []), (.getfield 2, 11, 7, [(100, 0)]), (.iconst 8, 0, 0, []), (.iaload, 1075, 0, [])] (pc1 := 12) (ls1 := [some (vm_r 96), some (vm_i v1), some (vm_i v2), some (vm_i v3), w4]) (st1 := [vm_i (m 100 8), vm_i v3]) (m1 := m) (ob := ((((true && vm_is 96 11) && true) && vm_ar 100 100 1075) && decide ((0 : Int) ≤ 8 ∧ (8 : Int) < 1075))) (by decide +kernel) rfl (vm_t (vm_u (vm_u (vm_u rfl (by decide +kernel)) rfl) (by decide +kernel)) (by decide)) ?_
  refine vm_gj (c := (m 100 8) ≤ v3) (t := 59) (e := 15) (i := (.if_icmp .ge 0, 59, 0, [])) (len := 3) (st1 := []) (by decide +kernel) rfl rfl (fun c1 => ?_) (fun c1 => ?_)
  · replace h := h.1 c1
    refine vm_gp [(.iload 2, 0, 0, [])] (pc1 := 60) (ls1 := [some (vm_r 96), some (vm_i v1), some (vm_i v2), some (vm_i v3), w4]) (st1 := [vm_i v2]) (m1 := m) (ob := true) (by decide +kernel) rfl rfl ?_
    exact vm_gr (r := some (vm_i v2)) (i := (.ireturn, 1, 0, [])) (len := 1) (by decide +kernel) rfl rfl rfl ⟨_, rfl, h⟩
  · replace h := h.2 c1
    refine vm_gp [(.iconst 0, 0, 0, []), (.istore 4, 0, 0, [])] (pc1 := 18) (ls1 := [some (vm_r 96), some (vm_i v1), some (vm_i v2), some (vm_i v3), some (vm_i 0)]) (st1 := []) (m1 := m) (ob := true) (by decide +kernel) rfl rfl ?_
    exact h
set_option maxRecDepth 20000 in
theorem ru11_oftenIn_18 {v1 : Int} {v2 : Int} {v3 : Int} {v4 : Int} {m : vm_M} {Q : Int → vm_M → Prop}  (h :
    (vm_C 167 [vm_r 96, vm_i v3] m (vm_qi (fun z1 m1 =>
      ((z1 ≤ v4 →
        ((vm_32 (v3 + 1))) ∧
        ku11_oftenIn_4 v1 v2 (v3 + 1) (some (vm_i v4)) m1 Q) ∧ (¬ z1 ≤ v4 →
        (vm_C 168 [vm_r 96, vm_i v3, vm_i v4] m1 (vm_qi (fun z2 m2 =>
          ((¬ z2 = v1 →
            ((vm_32 (v2 + 0)) ∧ (vm_32 (v4 + 1))) ∧
            ku11_oftenIn_18 v1 (v2 + 0) v3 (v4 + 1) m2 Q) ∧ (¬ ¬ z2 = v1 →
            ((vm_32 (v2 + 1)) ∧ (vm_32 (v4 + 1))) ∧
            ku11_oftenIn_18 v1 (v2 + 1) v3 (v4 + 1) m2 Q))))))))))) : ku11_oftenIn_18 v1 v2 v3 v4 m Q := by
  show vm_G 241 18 [some (vm_r 96), some (vm_i v1), some (vm_i v2), some (vm_i v3), some (vm_i v4)] [] m (vm_qi Q)
  refine vm_gp [(.iload 4, 0, 0, []), (.aload 0, 0, 0, []), (.iload 3, 0, 0, [])] (pc1 := 22) (ls1 := [some (vm_r 96), some (vm_i v1), some (vm_i v2), some (vm_i v3), some (vm_i v4)]) (st1 := [vm_i v3, vm_r 96, vm_i v4]) (m1 := m) (ob := true) (by decide +kernel) rfl rfl ?_
  refine vm_gc (g := 167) (na := 2) (av := [vm_r 96, vm_i v3]) (rest := [vm_i v4]) (i := (.invokevirtual 0, 167, 2, [])) (len := 3) (by decide +kernel) rfl rfl rfl (by decide +kernel) (by decide +kernel) rfl rfl (vm_u (vm_okh_v (c := 11) (by decide +kernel) (by decide +kernel)) (show vm_okn 167 2 1 0 0 2 = true by decide +kernel)) ?_
  refine vm_G.mono h ?_
  rintro _ m1 ⟨z1, rfl, h⟩
  show vm_G 241 25 [some (vm_r 96), some (vm_i v1), some (vm_i v2), some (vm_i v3), some (vm_i v4)] [vm_i z1, vm_i v4] m1 _
  refine vm_gj (c := z1 ≤ v4) (t := 53) (e := 28) (i := (.if_icmp .ge 0, 53, 0, [])) (len := 3) (st1 := []) (by decide +kernel) rfl rfl (fun c1 => ?_) (fun c1 => ?_)
  · replace h := h.1 c1
    obtain ⟨o3_0, h⟩ := h
    refine vm_gp [(.iinc 3 1, 0, 0, []), (.goto 0, 4, 0, [])] (pc1 := 4) (ls1 := [some (vm_r 96), some (vm_i v1), some (vm_i v2), some (vm_i (v3 + 1)), some (vm_i v4)]) (st1 := []) (m1 := m1) (ob := (true && decide (vm_32 (v3 + 1)))) (by decide +kernel) rfl (vm_t rfl o3_0) ?_
    exact h
  · replace h := h.2 c1
    refine vm_gp [(.iload 2, 0, 0, []), (.aload 0, 0, 0, []), (.iload 3, 0, 0, []), (.iload 4, 0, 0, [])] (pc1 := 33) (ls1 := [some (vm_r 96), some (vm_i v1), some (vm_i v2), some (vm_i v3), some (vm_i v4)]) (st1 := [vm_i v4, vm_i v3, vm_r 96, vm_i v2]) (m1 := m1) (ob := true) (by decide +kernel) rfl rfl ?_
    refine vm_gc (g := 168) (na := 3) (av := [vm_r 96, vm_i v3, vm_i v4]) (rest := [vm_i v2]) (i := (.invokevirtual 0, 168, 3, [])) (len := 3) (by decide +kernel) rfl rfl rfl (by decide +kernel) (by decide +kernel) rfl rfl (vm_u (vm_okh_v (c := 11) (by decide +kernel) (by decide +kernel)) (show vm_okn 168 3 1 0 0 3 = true by decide +kernel)) ?_
    refine vm_G.mono h ?_
    rintro _ m2 ⟨z2, rfl, h⟩
    show vm_G 241 36 [some (vm_r 96), some (vm_i v1), some (vm_i v2), some (vm_i v3), some (vm_i v4)] [vm_i z2, vm_i v2] m2 _
    refine vm_gp [(.iload 1, 0, 0, [])] (pc1 := 37) (ls1 := [some (vm_r 96), some (vm_i v1), some (vm_i v2), some (vm_i v3), some (vm_i v4)]) (st1 := [vm_i v1, vm_i z2, vm_i v2]) (m1 := m2) (ob := true) (by decide +kernel) rfl rfl ?_
    refine vm_gj (c := ¬ z2 = v1) (t := 44) (e := 40) (i := (.if_icmp .ne 0, 44, 0, [])) (len := 3) (st1 := [vm_i v2]) (by decide +kernel) rfl rfl (fun c2 => ?_) (fun c2 => ?_)
    · replace h := h.1 c2
      obtain ⟨⟨o6_0, o6_1⟩, h⟩ := h
      refine vm_gp [(.iconst 0, 0, 0, []), (.iadd, 0, 0, []), (.istore 2, 0, 0, []), (.iinc 4 1, 0, 0, []), (.goto 0, 18, 0, [])] (pc1 := 18) (ls1 := [some (vm_r 96), some (vm_i v1), some (vm_i (v2 + 0)), some (vm_i v3), some (vm_i (v4 + 1))]) (st1 := []) (m1 := m2) (ob := ((true && decide (vm_32 (v2 + 0))) && decide (vm_32 (v4 + 1)))) (by decide +kernel) rfl (vm_t (vm_t rfl o6_0) o6_1) ?_
      exact h
    · replace h := h.2 c2
      obtain ⟨⟨o7_0, o7_1⟩, h⟩ := h
      refine vm_gp [(.iconst 1, 0, 0, []), (.goto 0, 45, 0, []), (.iadd, 0, 0, []), (.istore 2, 0, 0, []), (.iinc 4 1, 0, 0, []), (.goto 0, 18, 0, [])] (pc1 := 18) (ls1 := [some (vm_r 96), some (vm_i v1), some (vm_i (v2 + 1)), some (vm_i v3), some (vm_i (v4 + 1))]) (st1 := []) (m1 := m2) (ob := ((true && decide (vm_32 (v2 + 1))) && decide (vm_32 (v4 + 1)))) (by decide +kernel) rfl (vm_t (vm_t rfl o7_0) o7_1) ?_
      exact h
abbrev ku11_letter_0 (v1 : Int) (v2 : Int) (m : vm_M) (Q : Int → vm_M → Prop) : Prop := vm_G 242 0 [some (vm_r 96), some (vm_i v1), some (vm_i v2)] [] m (vm_qi Q)
set_option maxRecDepth 20000 in
theorem ru11_letter_0 {v1 : Int} {v2 : Int} {m : vm_M} {Q : Int → vm_M → Prop}  (h :
    (vm_C 165 [vm_r 96, vm_i v1] m (vm_qi (fun z1 m1 =>
      ((¬ z1 = 0 →
        ((v2 = 0 →
          ((0 ≤ v1 ∧ v1 < 26)) ∧
          Q (m1 98 v1) m1) ∧ (¬ v2 = 0 →
          ((v2 = 1 →
            ((vm_32 (v2 - 1))) ∧
            (vm_C 239 [vm_r 96, vm_i v1, vm_i (v2 - 1)] m1 (vm_qi (fun z2 m2 =>
              Q z2 m2)))) ∧ (¬ v2 = 1 →
            ((v2 = 2 →
              ((vm_32 (v2 - 1))) ∧
              (vm_C 239 [vm_r 96, vm_i v1, vm_i (v2 - 1)] m1 (vm_qi (fun z3 m3 =>
                Q z3 m3)))) ∧ (¬ v2 = 2 →
              ((v2 = 3 →
                (vm_C 240 [vm_r 96, vm_i v1] m1 (vm_qi (fun z4 m4 =>
                  Q z4 m4)))) ∧ (¬ v2 = 3 →
                ((v2 = 4 →
                  (vm_C 241 [vm_r 96, vm_i v1] m1 (vm_qi (fun z5 m5 =>
                    Q z5 m5)))) ∧ (¬ v2 = 4 →
                  Q (-1) m1))))))))))) ∧ (¬ ¬ z1 = 0 →
        Q (-1) m1)))))) : vm_C 242 [vm_r 96, vm_i v1, vm_i v2] m (vm_qi Q) := by
  show vm_G 242 0 [some (vm_r 96), some (vm_i v1), some (vm_i v2)] [] m (vm_qi Q)
  refine vm_gp [(.aload 0, 0, 0, []), (.iload 1, 0, 0, [])] (pc1 := 2) (ls1 := [some (vm_r 96), some (vm_i v1), some (vm_i v2)]) (st1 := [vm_i v1, vm_r 96]) (m1 := m) (ob := true) (by decide +kernel) rfl rfl ?_
  refine vm_gc (g := 165) (na := 2) (av := [vm_r 96, vm_i v1]) (rest := []) (i := (.invokevirtual 0, 165, 2, [])) (len := 3) (by decide +kernel) rfl rfl rfl (by decide +kernel) (by decide +kernel) rfl rfl (vm_u (vm_okh_v (c := 11) (by decide +kernel) (by decide +kernel)) (show vm_okn 165 2 0 0 0 2 = true by decide +kernel)) ?_
  refine vm_G.mono h ?_
  rintro _ m1 ⟨z1, rfl, h⟩
  show vm_G 242 5 [some (vm_r 96), some (vm_i v1), some (vm_i v2)] [vm_i z1] m1 _
  refine vm_gj (c := ¬ z1 = 0) (t := 10) (e := 8) (i := (.ifCond .ne 0, 10, 0, [])) (len := 3) (st1 := []) (by decide +kernel) rfl rfl (fun c1 => ?_) (fun c1 => ?_)
  · replace h := h.1 c1
    refine vm_gp [(.iload 2, 0, 0, [])] (pc1 := 11) (ls1 := [some (vm_r 96), some (vm_i v1), some (vm_i v2)]) (st1 := [vm_i v2]) (m1 := m1) (ob := true) (by decide +kernel) rfl rfl ?_
    by_cases c2 : v2 = 0
    · replace h := h.1 c2
      refine vm_gj1 (i := (.tableswitch 0 0 0 #[], 72, 0, [(0, 44), (1, 51), (2, 51), (3, 60), (4, 66)])) (len := 33) (t := 44) (st1 := []) (by decide +kernel) rfl (by rw [c2]; rfl) ?_
      obtain ⟨o4_0, h⟩ := h
      refine vm_gp [(.aload 0, 0, 0, []), (.getfield 2, 11, 5, [(98, 0)]), (.iload 1, 0, 0, []), (.iaload, 26, 0, [])] (pc1 := 50) (ls1 := [some (vm_r 96), some (vm_i v1), some (vm_i v2)]) (st1 := [vm_i (m1 98 v1)]) (m1 := m1) (ob := ((((true && vm_is 96 11) && true) && vm_ar 98 100 26) && decide (0 ≤ v1 ∧ v1 < 26))) (by decide +kernel) rfl (vm_t (vm_u (vm_u (vm_u rfl (by decide +kernel)) rfl) (by decide +kernel)) o4_0) ?_
      exact vm_gr (r := some (vm_i (m1 98 v1))) (i := (.ireturn, 1, 0, [])) (len := 1) (by decide +kernel) rfl rfl rfl ⟨_, rfl, h⟩
    · replace h := h.2 c2
      by_cases c3 : v2 = 1
      · replace h := h.1 c3
        refine vm_gj1 (i := (.tableswitch 0 0 0 #[], 72, 0, [(0, 44), (1, 51), (2, 51), (3, 60), (4, 66)])) (len := 33) (t := 51) (st1 := []) (by decide +kernel) rfl (by rw [c3]; rfl) ?_
        obtain ⟨o5_0, h⟩ := h
        refine vm_gp [(.aload 0, 0, 0, []), (.iload 1, 0, 0, []), (.iload 2, 0, 0, []), (.iconst 1, 0, 0, []), (.isub, 0, 0, [])] (pc1 := 56) (ls1 := [some (vm_r 96), some (vm_i v1), some (vm_i v2)]) (st1 := [vm_i (v2 - 1), vm_i v1, vm_r 96]) (m1 := m1) (ob := (true && decide (vm_32 (v2 - 1)))) (by decide +kernel) rfl (vm_t rfl o5_0) ?_
        refine vm_gc (g := 239) (na := 3) (av := [vm_r 96, vm_i v1, vm_i (v2 - 1)]) (rest := []) (i := (.invokevirtual 0, 239, 3, [])) (len := 3) (by decide +kernel) rfl rfl rfl (by decide +kernel) (by decide +kernel) rfl rfl (vm_u (vm_okh_v (c := 11) (by decide +kernel) (by decide +kernel)) (show vm_okn 239 3 0 0 0 3 = true by decide +kernel)) ?_
        refine vm_G.mono h ?_
        rintro _ m2 ⟨z2, rfl, h⟩
        show vm_G 242 59 [some (vm_r 96), some (vm_i v1), some (vm_i v2)] [vm_i z2] m2 _
        exact vm_gr (r := some (vm_i z2)) (i := (.ireturn, 1, 0, [])) (len := 1) (by decide +kernel) rfl rfl rfl ⟨_, rfl, h⟩
      · replace h := h.2 c3
        by_cases c4 : v2 = 2
        · replace h := h.1 c4
          refine vm_gj1 (i := (.tableswitch 0 0 0 #[], 72, 0, [(0, 44), (1, 51), (2, 51), (3, 60), (4, 66)])) (len := 33) (t := 51) (st1 := []) (by decide +kernel) rfl (by rw [c4]; rfl) ?_
          obtain ⟨o7_0, h⟩ := h
          refine vm_gp [(.aload 0, 0, 0, []), (.iload 1, 0, 0, []), (.iload 2, 0, 0, []), (.iconst 1, 0, 0, []), (.isub, 0, 0, [])] (pc1 := 56) (ls1 := [some (vm_r 96), some (vm_i v1), some (vm_i v2)]) (st1 := [vm_i (v2 - 1), vm_i v1, vm_r 96]) (m1 := m1) (ob := (true && decide (vm_32 (v2 - 1)))) (by decide +kernel) rfl (vm_t rfl o7_0) ?_
          refine vm_gc (g := 239) (na := 3) (av := [vm_r 96, vm_i v1, vm_i (v2 - 1)]) (rest := []) (i := (.invokevirtual 0, 239, 3, [])) (len := 3) (by decide +kernel) rfl rfl rfl (by decide +kernel) (by decide +kernel) rfl rfl (vm_u (vm_okh_v (c := 11) (by decide +kernel) (by decide +kernel)) (show vm_okn 239 3 0 0 0 3 = true by decide +kernel)) ?_
          refine vm_G.mono h ?_
          rintro _ m3 ⟨z3, rfl, h⟩
          show vm_G 242 59 [some (vm_r 96), some (vm_i v1), some (vm_i v2)] [vm_i z3] m3 _
          exact vm_gr (r := some (vm_i z3)) (i := (.ireturn, 1, 0, [])) (len := 1) (by decide +kernel) rfl rfl rfl ⟨_, rfl, h⟩
        · replace h := h.2 c4
          by_cases c5 : v2 = 3
          · replace h := h.1 c5
            refine vm_gj1 (i := (.tableswitch 0 0 0 #[], 72, 0, [(0, 44), (1, 51), (2, 51), (3, 60), (4, 66)])) (len := 33) (t := 60) (st1 := []) (by decide +kernel) rfl (by rw [c5]; rfl) ?_
            refine vm_gp [(.aload 0, 0, 0, []), (.iload 1, 0, 0, [])] (pc1 := 62) (ls1 := [some (vm_r 96), some (vm_i v1), some (vm_i v2)]) (st1 := [vm_i v1, vm_r 96]) (m1 := m1) (ob := true) (by decide +kernel) rfl rfl ?_
            refine vm_gc (g := 240) (na := 2) (av := [vm_r 96, vm_i v1]) (rest := []) (i := (.invokevirtual 0, 240, 2, [])) (len := 3) (by decide +kernel) rfl rfl rfl (by decide +kernel) (by decide +kernel) rfl rfl (vm_u (vm_okh_v (c := 11) (by decide +kernel) (by decide +kernel)) (show vm_okn 240 2 0 0 0 2 = true by decide +kernel)) ?_
            refine vm_G.mono h ?_
            rintro _ m4 ⟨z4, rfl, h⟩
            show vm_G 242 65 [some (vm_r 96), some (vm_i v1), some (vm_i v2)] [vm_i z4] m4 _
            exact vm_gr (r := some (vm_i z4)) (i := (.ireturn, 1, 0, [])) (len := 1) (by decide +kernel) rfl rfl rfl ⟨_, rfl, h⟩
          · replace h := h.2 c5
            by_cases c6 : v2 = 4
            · replace h := h.1 c6
              refine vm_gj1 (i := (.tableswitch 0 0 0 #[], 72, 0, [(0, 44), (1, 51), (2, 51), (3, 60), (4, 66)])) (len := 33) (t := 66) (st1 := []) (by decide +kernel) rfl (by rw [c6]; rfl) ?_
              refine vm_gp [(.aload 0, 0, 0, []), (.iload 1, 0, 0, [])] (pc1 := 68) (ls1 := [some (vm_r 96), some (vm_i v1), some (vm_i v2)]) (st1 := [vm_i v1, vm_r 96]) (m1 := m1) (ob := true) (by decide +kernel) rfl rfl ?_
              refine vm_gc (g := 241) (na := 2) (av := [vm_r 96, vm_i v1]) (rest := []) (i := (.invokevirtual 0, 241, 2, [])) (len := 3) (by decide +kernel) rfl rfl rfl (by decide +kernel) (by decide +kernel) rfl rfl (vm_u (vm_okh_v (c := 11) (by decide +kernel) (by decide +kernel)) (show vm_okn 241 2 0 0 0 2 = true by decide +kernel)) ?_
              refine vm_G.mono h ?_
              rintro _ m5 ⟨z5, rfl, h⟩
              show vm_G 242 71 [some (vm_r 96), some (vm_i v1), some (vm_i v2)] [vm_i z5] m5 _
              exact vm_gr (r := some (vm_i z5)) (i := (.ireturn, 1, 0, [])) (len := 1) (by decide +kernel) rfl rfl rfl ⟨_, rfl, h⟩
            · replace h := h.2 c6
              refine vm_gj1 (i := (.tableswitch 0 0 0 #[], 72, 0, [(0, 44), (1, 51), (2, 51), (3, 60), (4, 66)])) (len := 33) (t := 72) (st1 := []) (by decide +kernel) rfl (by simp only [vm_jmp, vm_sw, cond, decide_eq_false c2, decide_eq_false c3, decide_eq_false c4, decide_eq_false c5, decide_eq_false c6]) ?_
              refine vm_gp [(.iconst (-1), 0, 0, [])] (pc1 := 73) (ls1 := [some (vm_r 96), some (vm_i v1), some (vm_i v2)]) (st1 := [vm_i (-1)]) (m1 := m1) (ob := true) (by decide +kernel) rfl rfl ?_
              exact vm_gr (r := some (vm_i (-1))) (i := (.ireturn, 1, 0, [])) (len := 1) (by decide +kernel) rfl rfl rfl ⟨_, rfl, h⟩
  · replace h := h.2 c1
    refine vm_gp [(.iconst (-1), 0, 0, [])] (pc1 := 9) (ls1 := [some (vm_r 96), some (vm_i v1), some (vm_i v2)]) (st1 := [vm_i (-1)]) (m1 := m1) (ob := true) (by decide +kernel) rfl rfl ?_
    exact vm_gr (r := some (vm_i (-1))) (i := (.ireturn, 1, 0, [])) (len := 1) (by decide +kernel) rfl rfl rfl ⟨_, rfl, h⟩
abbrev ku11_gapAt_0 (v1 : Int) (v2 : Int) (v3 : Int) (m : vm_M) (Q : Int → vm_M → Prop) : Prop := vm_G 243 0 [some (vm_r 96), some (vm_i v1), some (vm_i v2), some (vm_i v3)] [] m (vm_qi Q)
set_option maxRecDepth 20000 in
theorem ru11_gapAt_0 {v1 : Int} {v2 : Int} {v3 : Int} {m : vm_M} {Q : Int → vm_M → Prop}  (h :
    (vm_C 165 [vm_r 96, vm_i v1] m (vm_qi (fun z1 m1 =>
      ((z1 = 0 →
        Q (-1) m1) ∧ (¬ z1 = 0 →
        (vm_C 165 [vm_r 96, vm_i v2] m1 (vm_qi (fun z2 m2 =>
          ((z2 = 0 →
            Q (-1) m2) ∧ (¬ z2 = 0 →
            (vm_C 164 [vm_l v3, vm_l (-9), vm_l 99] m2 (vm_qi (fun z3 m3 =>
              ((z3 = 0 →
                Q (-1) m3) ∧ (¬ z3 = 0 →
                (vm_C 171 [vm_r 96, vm_i v1, vm_i v2, vm_i v3] m3 (vm_qi (fun z4 m4 =>
                  Q z4 m4))))))))))))))))))) : vm_C 243 [vm_r 96, vm_i v1, vm_i v2, vm_i v3] m (vm_qi Q) := by
  show vm_G 243 0 [some (vm_r 96), some (vm_i v1), some (vm_i v2), some (vm_i v3)] [] m (vm_qi Q)
  refine vm_gp [(.aload 0, 0, 0, []), (.iload 1, 0, 0, [])] (pc1 := 2) (ls1 := [some (vm_r 96), some (vm_i v1), some (vm_i v2), some (vm_i v3)]) (st1 := [vm_i v1, vm_r 96]) (m1 := m) (ob := true) (by decide +kernel) rfl rfl ?_
  refine vm_gc (g := 165) (na := 2) (av := [vm_r 96, vm_i v1]) (rest := []) (i := (.invokevirtual 0, 165, 2, [])) (len := 3) (by decide +kernel) rfl rfl rfl (by decide +kernel) (by decide +kernel) rfl rfl (vm_u (vm_okh_v (c := 11) (by decide +kernel) (by decide +kernel)) (show vm_okn 165 2 0 0 0 2 = true by decide +kernel)) ?_
  refine vm_G.mono h ?_
  rintro _ m1 ⟨z1, rfl, h⟩
  show vm_G 243 5 [some (vm_r 96), some (vm_i v1), some (vm_i v2), some (vm_i v3)] [vm_i z1] m1 _
  refine vm_gj (c := z1 = 0) (t := 40) (e := 8) (i := (.ifCond .eq 0, 40, 0, [])) (len := 3) (st1 := []) (by decide +kernel) rfl rfl (fun c1 => ?_) (fun c1 => ?_)
  · replace h := h.1 c1
    refine vm_gp [(.iconst (-1), 0, 0, [])] (pc1 := 41) (ls1 := [some (vm_r 96), some (vm_i v1), some (vm_i v2), some (vm_i v3)]) (st1 := [vm_i (-1)]) (m1 := m1) (ob := true) (by decide +kernel) rfl rfl ?_
    exact vm_gr (r := some (vm_i (-1))) (i := (.ireturn, 1, 0, [])) (len := 1) (by decide +kernel) rfl rfl rfl ⟨_, rfl, h⟩
  · replace h := h.2 c1
    refine vm_gp [(.aload 0, 0, 0, []), (.iload 2, 0, 0, [])] (pc1 := 10) (ls1 := [some (vm_r 96), some (vm_i v1), some (vm_i v2), some (vm_i v3)]) (st1 := [vm_i v2, vm_r 96]) (m1 := m1) (ob := true) (by decide +kernel) rfl rfl ?_
    refine vm_gc (g := 165) (na := 2) (av := [vm_r 96, vm_i v2]) (rest := []) (i := (.invokevirtual 0, 165, 2, [])) (len := 3) (by decide +kernel) rfl rfl rfl (by decide +kernel) (by decide +kernel) rfl rfl (vm_u (vm_okh_v (c := 11) (by decide +kernel) (by decide +kernel)) (show vm_okn 165 2 0 0 0 2 = true by decide +kernel)) ?_
    refine vm_G.mono h ?_
    rintro _ m2 ⟨z2, rfl, h⟩
    show vm_G 243 13 [some (vm_r 96), some (vm_i v1), some (vm_i v2), some (vm_i v3)] [vm_i z2] m2 _
    refine vm_gj (c := z2 = 0) (t := 40) (e := 16) (i := (.ifCond .eq 0, 40, 0, [])) (len := 3) (st1 := []) (by decide +kernel) rfl rfl (fun c2 => ?_) (fun c2 => ?_)
    · replace h := h.1 c2
      refine vm_gp [(.iconst (-1), 0, 0, [])] (pc1 := 41) (ls1 := [some (vm_r 96), some (vm_i v1), some (vm_i v2), some (vm_i v3)]) (st1 := [vm_i (-1)]) (m1 := m2) (ob := true) (by decide +kernel) rfl rfl ?_
      exact vm_gr (r := some (vm_i (-1))) (i := (.ireturn, 1, 0, [])) (len := 1) (by decide +kernel) rfl rfl rfl ⟨_, rfl, h⟩
    · replace h := h.2 c2
      refine vm_gp [(.iload 3, 0, 0, []), (.i2l, 0, 0, []), (.ldc2_w 0, 0, 0, [(-9, 0)]), (.ldc2_w 0, 0, 0, [(99, 0)])] (pc1 := 24) (ls1 := [some (vm_r 96), some (vm_i v1), some (vm_i v2), some (vm_i v3)]) (st1 := [vm_l 99, vm_l (-9), vm_l v3]) (m1 := m2) (ob := true) (by decide +kernel) rfl rfl ?_
      refine vm_gc (g := 164) (na := 3) (av := [vm_l v3, vm_l (-9), vm_l 99]) (rest := []) (i := (.invokestatic 0, 164, 3, [])) (len := 3) (by decide +kernel) rfl rfl rfl (by decide +kernel) (by decide +kernel) rfl rfl (vm_u (vm_okh_s (by decide +kernel)) (show vm_okn 164 3 0 0 0 6 = true by decide +kernel)) ?_
      refine vm_G.mono h ?_
      rintro _ m3 ⟨z3, rfl, h⟩
      show vm_G 243 27 [some (vm_r 96), some (vm_i v1), some (vm_i v2), some (vm_i v3)] [vm_i z3] m3 _
      refine vm_gj (c := z3 = 0) (t := 40) (e := 30) (i := (.ifCond .eq 0, 40, 0, [])) (len := 3) (st1 := []) (by decide +kernel) rfl rfl (fun c3 => ?_) (fun c3 => ?_)
      · replace h := h.1 c3
        refine vm_gp [(.iconst (-1), 0, 0, [])] (pc1 := 41) (ls1 := [some (vm_r 96), some (vm_i v1), some (vm_i v2), some (vm_i v3)]) (st1 := [vm_i (-1)]) (m1 := m3) (ob := true) (by decide +kernel) rfl rfl ?_
        exact vm_gr (r := some (vm_i (-1))) (i := (.ireturn, 1, 0, [])) (len := 1) (by decide +kernel) rfl rfl rfl ⟨_, rfl, h⟩
      · replace h := h.2 c3
        refine vm_gp [(.aload 0, 0, 0, []), (.iload 1, 0, 0, []), (.iload 2, 0, 0, []), (.iload 3, 0, 0, [])] (pc1 := 34) (ls1 := [some (vm_r 96), some (vm_i v1), some (vm_i v2), some (vm_i v3)]) (st1 := [vm_i v3, vm_i v2, vm_i v1, vm_r 96]) (m1 := m3) (ob := true) (by decide +kernel) rfl rfl ?_
        refine vm_gc (g := 171) (na := 4) (av := [vm_r 96, vm_i v1, vm_i v2, vm_i v3]) (rest := []) (i := (.invokevirtual 0, 171, 4, [])) (len := 3) (by decide +kernel) rfl rfl rfl (by decide +kernel) (by decide +kernel) rfl rfl (vm_u (vm_okh_v (c := 11) (by decide +kernel) (by decide +kernel)) (show vm_okn 171 4 0 0 0 4 = true by decide +kernel)) ?_
        refine vm_G.mono h ?_
        rintro _ m4 ⟨z4, rfl, h⟩
        show vm_G 243 37 [some (vm_r 96), some (vm_i v1), some (vm_i v2), some (vm_i v3)] [vm_i z4] m4 _
        refine vm_gp [(.goto 0, 41, 0, [])] (pc1 := 41) (ls1 := [some (vm_r 96), some (vm_i v1), some (vm_i v2), some (vm_i v3)]) (st1 := [vm_i z4]) (m1 := m4) (ob := true) (by decide +kernel) rfl rfl ?_
        exact vm_gr (r := some (vm_i z4)) (i := (.ireturn, 1, 0, [])) (len := 1) (by decide +kernel) rfl rfl rfl ⟨_, rfl, h⟩
abbrev ku11_distance_0 (v1 : Int) (v2 : Int) (v3 : Int) (m : vm_M) (Q : Int → vm_M → Prop) : Prop := vm_G 244 0 [some (vm_r 96), some (vm_i v1), some (vm_i v2), some (vm_i v3)] [] m (vm_qi Q)
set_option maxRecDepth 20000 in
theorem ru11_distance_0 {v1 : Int} {v2 : Int} {v3 : Int} {m : vm_M} {Q : Int → vm_M → Prop}  (h :
    (vm_C 165 [vm_r 96, vm_i v1] m (vm_qi (fun z1 m1 =>
      ((z1 = 0 →
        Q (-1) m1) ∧ (¬ z1 = 0 →
        (vm_C 165 [vm_r 96, vm_i v2] m1 (vm_qi (fun z2 m2 =>
          ((z2 = 0 →
            Q (-1) m2) ∧ (¬ z2 = 0 →
            (vm_C 164 [vm_l v3, vm_l 0, vm_l (m2 96 3)] m2 (vm_qi (fun z3 m3 =>
              ((z3 = 0 →
                Q (-1) m3) ∧ (¬ z3 = 0 →
                (vm_C 175 [vm_r 96, vm_i v1, vm_i v2, vm_i v3] m3 (vm_qi (fun z4 m4 =>
                  ((vm_32 (z4 + 9))) ∧
                  Q (z4 + 9) m4))))))))))))))))))) : vm_C 244 [vm_r 96, vm_i v1, vm_i v2, vm_i v3] m (vm_qi Q) := by
  show vm_G 244 0 [some (vm_r 96), some (vm_i v1), some (vm_i v2), some (vm_i v3)] [] m (vm_qi Q)
  refine vm_gp [(.aload 0, 0, 0, []), (.iload 1, 0, 0, [])] (pc1 := 2) (ls1 := [some (vm_r 96), some (vm_i v1), some (vm_i v2), some (vm_i v3)]) (st1 := [vm_i v1, vm_r 96]) (m1 := m) (ob := true) (by decide +kernel) rfl rfl ?_
  refine vm_gc (g := 165) (na := 2) (av := [vm_r 96, vm_i v1]) (rest := []) (i := (.invokevirtual 0, 165, 2, [])) (len := 3) (by decide +kernel) rfl rfl rfl (by decide +kernel) (by decide +kernel) rfl rfl (vm_u (vm_okh_v (c := 11) (by decide +kernel) (by decide +kernel)) (show vm_okn 165 2 0 0 0 2 = true by decide +kernel)) ?_
  refine vm_G.mono h ?_
  rintro _ m1 ⟨z1, rfl, h⟩
  show vm_G 244 5 [some (vm_r 96), some (vm_i v1), some (vm_i v2), some (vm_i v3)] [vm_i z1] m1 _
  refine vm_gj (c := z1 = 0) (t := 43) (e := 8) (i := (.ifCond .eq 0, 43, 0, [])) (len := 3) (st1 := []) (by decide +kernel) rfl rfl (fun c1 => ?_) (fun c1 => ?_)
  · replace h := h.1 c1
    refine vm_gp [(.iconst (-1), 0, 0, [])] (pc1 := 44) (ls1 := [some (vm_r 96), some (vm_i v1), some (vm_i v2), some (vm_i v3)]) (st1 := [vm_i (-1)]) (m1 := m1) (ob := true) (by decide +kernel) rfl rfl ?_
    exact vm_gr (r := some (vm_i (-1))) (i := (.ireturn, 1, 0, [])) (len := 1) (by decide +kernel) rfl rfl rfl ⟨_, rfl, h⟩
  · replace h := h.2 c1
    refine vm_gp [(.aload 0, 0, 0, []), (.iload 2, 0, 0, [])] (pc1 := 10) (ls1 := [some (vm_r 96), some (vm_i v1), some (vm_i v2), some (vm_i v3)]) (st1 := [vm_i v2, vm_r 96]) (m1 := m1) (ob := true) (by decide +kernel) rfl rfl ?_
    refine vm_gc (g := 165) (na := 2) (av := [vm_r 96, vm_i v2]) (rest := []) (i := (.invokevirtual 0, 165, 2, [])) (len := 3) (by decide +kernel) rfl rfl rfl (by decide +kernel) (by decide +kernel) rfl rfl (vm_u (vm_okh_v (c := 11) (by decide +kernel) (by decide +kernel)) (show vm_okn 165 2 0 0 0 2 = true by decide +kernel)) ?_
    refine vm_G.mono h ?_
    rintro _ m2 ⟨z2, rfl, h⟩
    show vm_G 244 13 [some (vm_r 96), some (vm_i v1), some (vm_i v2), some (vm_i v3)] [vm_i z2] m2 _
    refine vm_gj (c := z2 = 0) (t := 43) (e := 16) (i := (.ifCond .eq 0, 43, 0, [])) (len := 3) (st1 := []) (by decide +kernel) rfl rfl (fun c2 => ?_) (fun c2 => ?_)
    · replace h := h.1 c2
      refine vm_gp [(.iconst (-1), 0, 0, [])] (pc1 := 44) (ls1 := [some (vm_r 96), some (vm_i v1), some (vm_i v2), some (vm_i v3)]) (st1 := [vm_i (-1)]) (m1 := m2) (ob := true) (by decide +kernel) rfl rfl ?_
      exact vm_gr (r := some (vm_i (-1))) (i := (.ireturn, 1, 0, [])) (len := 1) (by decide +kernel) rfl rfl rfl ⟨_, rfl, h⟩
    · replace h := h.2 c2
      refine vm_gp [(.iload 3, 0, 0, []), (.i2l, 0, 0, []), (.ldc2_w 0, 0, 0, [(0, 0)]), (.aload 0, 0, 0, []), (.getfield 0, 11, 3, []), (.i2l, 0, 0, [])] (pc1 := 24) (ls1 := [some (vm_r 96), some (vm_i v1), some (vm_i v2), some (vm_i v3)]) (st1 := [vm_l (m2 96 3), vm_l 0, vm_l v3]) (m1 := m2) (ob := (true && vm_is 96 11)) (by decide +kernel) rfl (vm_u rfl (by decide +kernel)) ?_
      refine vm_gc (g := 164) (na := 3) (av := [vm_l v3, vm_l 0, vm_l (m2 96 3)]) (rest := []) (i := (.invokestatic 0, 164, 3, [])) (len := 3) (by decide +kernel) rfl rfl rfl (by decide +kernel) (by decide +kernel) rfl rfl (vm_u (vm_okh_s (by decide +kernel)) (show vm_okn 164 3 0 0 0 6 = true by decide +kernel)) ?_
      refine vm_G.mono h ?_
      rintro _ m3 ⟨z3, rfl, h⟩
      show vm_G 244 27 [some (vm_r 96), some (vm_i v1), some (vm_i v2), some (vm_i v3)] [vm_i z3] m3 _
      refine vm_gj (c := z3 = 0) (t := 43) (e := 30) (i := (.ifCond .eq 0, 43, 0, [])) (len := 3) (st1 := []) (by decide +kernel) rfl rfl (fun c3 => ?_) (fun c3 => ?_)
      · replace h := h.1 c3
        refine vm_gp [(.iconst (-1), 0, 0, [])] (pc1 := 44) (ls1 := [some (vm_r 96), some (vm_i v1), some (vm_i v2), some (vm_i v3)]) (st1 := [vm_i (-1)]) (m1 := m3) (ob := true) (by decide +kernel) rfl rfl ?_
        exact vm_gr (r := some (vm_i (-1))) (i := (.ireturn, 1, 0, [])) (len := 1) (by decide +kernel) rfl rfl rfl ⟨_, rfl, h⟩
      · replace h := h.2 c3
        refine vm_gp [(.aload 0, 0, 0, []), (.iload 1, 0, 0, []), (.iload 2, 0, 0, []), (.iload 3, 0, 0, [])] (pc1 := 34) (ls1 := [some (vm_r 96), some (vm_i v1), some (vm_i v2), some (vm_i v3)]) (st1 := [vm_i v3, vm_i v2, vm_i v1, vm_r 96]) (m1 := m3) (ob := true) (by decide +kernel) rfl rfl ?_
        refine vm_gc (g := 175) (na := 4) (av := [vm_r 96, vm_i v1, vm_i v2, vm_i v3]) (rest := []) (i := (.invokevirtual 0, 175, 4, [])) (len := 3) (by decide +kernel) rfl rfl rfl (by decide +kernel) (by decide +kernel) rfl rfl (vm_u (vm_okh_v (c := 11) (by decide +kernel) (by decide +kernel)) (show vm_okn 175 4 0 0 0 4 = true by decide +kernel)) ?_
        refine vm_G.mono h ?_
        rintro _ m4 ⟨z4, rfl, h⟩
        show vm_G 244 37 [some (vm_r 96), some (vm_i v1), some (vm_i v2), some (vm_i v3)] [vm_i z4] m4 _
        obtain ⟨o11_0, h⟩ := h
        refine vm_gp [(.iconst 9, 0, 0, []), (.iadd, 0, 0, []), (.goto 0, 44, 0, [])] (pc1 := 44) (ls1 := [some (vm_r 96), some (vm_i v1), some (vm_i v2), some (vm_i v3)]) (st1 := [vm_i (z4 + 9)]) (m1 := m4) (ob := (true && decide (vm_32 (z4 + 9)))) (by decide +kernel) rfl (vm_t rfl o11_0) ?_
        exact vm_gr (r := some (vm_i (z4 + 9))) (i := (.ireturn, 1, 0, [])) (len := 1) (by decide +kernel) rfl rfl rfl ⟨_, rfl, h⟩
abbrev ku11_correction_0 (v1 : Int) (v2 : Int) (m : vm_M) (Q : Int → vm_M → Prop) : Prop := vm_G 245 0 [some (vm_r 96), some (vm_i v1), some (vm_i v2)] [] m (vm_qi Q)
set_option maxRecDepth 20000 in
theorem ru11_correction_0 {v1 : Int} {v2 : Int} {m : vm_M} {Q : Int → vm_M → Prop}  (h :
    (vm_C 165 [vm_r 96, vm_i v1] m (vm_qi (fun z1 m1 =>
      ((z1 = 0 →
        Q (-1) m1) ∧ (¬ z1 = 0 →
        (vm_C 165 [vm_r 96, vm_i v2] m1 (vm_qi (fun z2 m2 =>
          ((z2 = 0 →
            Q (-1) m2) ∧ (¬ z2 = 0 →
            (vm_C 172 [vm_r 96, vm_i v1, vm_i v2] m2 (vm_qi (fun z3 m3 =>
              ((vm_32 (z3 + 9))) ∧
              Q (z3 + 9) m3)))))))))))))) : vm_C 245 [vm_r 96, vm_i v1, vm_i v2] m (vm_qi Q) := by
  show vm_G 245 0 [some (vm_r 96), some (vm_i v1), some (vm_i v2)] [] m (vm_qi Q)
  refine vm_gp [(.aload 0, 0, 0, []), (.iload 1, 0, 0, [])] (pc1 := 2) (ls1 := [some (vm_r 96), some (vm_i v1), some (vm_i v2)]) (st1 := [vm_i v1, vm_r 96]) (m1 := m) (ob := true) (by decide +kernel) rfl rfl ?_
  refine vm_gc (g := 165) (na := 2) (av := [vm_r 96, vm_i v1]) (rest := []) (i := (.invokevirtual 0, 165, 2, [])) (len := 3) (by decide +kernel) rfl rfl rfl (by decide +kernel) (by decide +kernel) rfl rfl (vm_u (vm_okh_v (c := 11) (by decide +kernel) (by decide +kernel)) (show vm_okn 165 2 0 0 0 2 = true by decide +kernel)) ?_
  refine vm_G.mono h ?_
  rintro _ m1 ⟨z1, rfl, h⟩
  show vm_G 245 5 [some (vm_r 96), some (vm_i v1), some (vm_i v2)] [vm_i z1] m1 _
  refine vm_gj (c := z1 = 0) (t := 28) (e := 8) (i := (.ifCond .eq 0, 28, 0, [])) (len := 3) (st1 := []) (by decide +kernel) rfl rfl (fun c1 => ?_) (fun c1 => ?_)
  · replace h := h.1 c1
    refine vm_gp [(.iconst (-1), 0, 0, [])] (pc1 := 29) (ls1 := [some (vm_r 96), some (vm_i v1), some (vm_i v2)]) (st1 := [vm_i (-1)]) (m1 := m1) (ob := true) (by decide +kernel) rfl rfl ?_
    exact vm_gr (r := some (vm_i (-1))) (i := (.ireturn, 1, 0, [])) (len := 1) (by decide +kernel) rfl rfl rfl ⟨_, rfl, h⟩
  · replace h := h.2 c1
    refine vm_gp [(.aload 0, 0, 0, []), (.iload 2, 0, 0, [])] (pc1 := 10) (ls1 := [some (vm_r 96), some (vm_i v1), some (vm_i v2)]) (st1 := [vm_i v2, vm_r 96]) (m1 := m1) (ob := true) (by decide +kernel) rfl rfl ?_
    refine vm_gc (g := 165) (na := 2) (av := [vm_r 96, vm_i v2]) (rest := []) (i := (.invokevirtual 0, 165, 2, [])) (len := 3) (by decide +kernel) rfl rfl rfl (by decide +kernel) (by decide +kernel) rfl rfl (vm_u (vm_okh_v (c := 11) (by decide +kernel) (by decide +kernel)) (show vm_okn 165 2 0 0 0 2 = true by decide +kernel)) ?_
    refine vm_G.mono h ?_
    rintro _ m2 ⟨z2, rfl, h⟩
    show vm_G 245 13 [some (vm_r 96), some (vm_i v1), some (vm_i v2)] [vm_i z2] m2 _
    refine vm_gj (c := z2 = 0) (t := 28) (e := 16) (i := (.ifCond .eq 0, 28, 0, [])) (len := 3) (st1 := []) (by decide +kernel) rfl rfl (fun c2 => ?_) (fun c2 => ?_)
    · replace h := h.1 c2
      refine vm_gp [(.iconst (-1), 0, 0, [])] (pc1 := 29) (ls1 := [some (vm_r 96), some (vm_i v1), some (vm_i v2)]) (st1 := [vm_i (-1)]) (m1 := m2) (ob := true) (by decide +kernel) rfl rfl ?_
      exact vm_gr (r := some (vm_i (-1))) (i := (.ireturn, 1, 0, [])) (len := 1) (by decide +kernel) rfl rfl rfl ⟨_, rfl, h⟩
    · replace h := h.2 c2
      refine vm_gp [(.aload 0, 0, 0, []), (.iload 1, 0, 0, []), (.iload 2, 0, 0, [])] (pc1 := 19) (ls1 := [some (vm_r 96), some (vm_i v1), some (vm_i v2)]) (st1 := [vm_i v2, vm_i v1, vm_r 96]) (m1 := m2) (ob := true) (by decide +kernel) rfl rfl ?_
      refine vm_gc (g := 172) (na := 3) (av := [vm_r 96, vm_i v1, vm_i v2]) (rest := []) (i := (.invokevirtual 0, 172, 3, [])) (len := 3) (by decide +kernel) rfl rfl rfl (by decide +kernel) (by decide +kernel) rfl rfl (vm_u (vm_okh_v (c := 11) (by decide +kernel) (by decide +kernel)) (show vm_okn 172 3 0 0 0 3 = true by decide +kernel)) ?_
      refine vm_G.mono h ?_
      rintro _ m3 ⟨z3, rfl, h⟩
      show vm_G 245 22 [some (vm_r 96), some (vm_i v1), some (vm_i v2)] [vm_i z3] m3 _
      obtain ⟨o8_0, h⟩ := h
      refine vm_gp [(.iconst 9, 0, 0, []), (.iadd, 0, 0, []), (.goto 0, 29, 0, [])] (pc1 := 29) (ls1 := [some (vm_r 96), some (vm_i v1), some (vm_i v2)]) (st1 := [vm_i (z3 + 9)]) (m1 := m3) (ob := (true && decide (vm_32 (z3 + 9)))) (by decide +kernel) rfl (vm_t rfl o8_0) ?_
      exact vm_gr (r := some (vm_i (z3 + 9))) (i := (.ireturn, 1, 0, [])) (len := 1) (by decide +kernel) rfl rfl rfl ⟨_, rfl, h⟩
abbrev ku11_extreme_0 (v1 : Int) (m : vm_M) (Q : Int → vm_M → Prop) : Prop := vm_G 246 0 [some (vm_r 96), some (vm_i v1), none, none, none, none] [] m (vm_qi Q)
abbrev ku11_extreme_8 (v1 : Int) (v2 : Int) (v3 : Int) (v4 : Int) (w5 : Option vm_V) (m : vm_M) (Q : Int → vm_M → Prop) : Prop := vm_G 246 8 [some (vm_r 96), some (vm_i v1), some (vm_i v2), some (vm_i v3), some (vm_i v4), w5] [] m (vm_qi Q)
set_option maxRecDepth 20000 in
theorem ru11_extreme_0 {v1 : Int} {m : vm_M} {Q : Int → vm_M → Prop}  (h :
    ku11_extreme_8 v1 (-2) 0 0 none m Q) : vm_C 246 [vm_r 96, vm_i v1] m (vm_qi Q) := by
  show vm_G 246 0 [some (vm_r 96), some (vm_i v1), none, none, none, none] [] m (vm_qi Q)
  refine vm_gp [(.iconst (-2), 0, 0, []), (.istore 2, 0, 0, []), (.iconst 0, 0, 0, []), (.istore 3, 0, 0, []), (.iconst 0, 0, 0, []), (.istore 4, 0, 0, [])] (pc1 := 8) (ls1 := [some (vm_r 96), some (vm_i v1), some (vm_i (-2)), some (vm_i 0), some (vm_i 0), none]) (st1 := []) (m1 := m) (ob := true) (by decide +kernel) rfl rfl ?_
  exact h
set_option maxRecDepth 20000 in
theorem ru11_extreme_8 {v1 : Int} {v2 : Int} {v3 : Int} {v4 : Int} {w5 : Option vm_V} {m : vm_M} {Q : Int → vm_M → Prop}  (h :
    ((676 ≤ v4 →
      Q v2 m) ∧ (¬ 676 ≤ v4 →
      ((0 ≤ v4 ∧ (0 : Int) < 26)) ∧
      (vm_C 165 [vm_r 96, vm_i (v4 / 26)] m (vm_qi (fun z1 m1 =>
        ((z1 = 0 →
          ((vm_32 (v4 + 1))) ∧
          ku11_extreme_8 v1 v2 v3 (v4 + 1) w5 m1 Q) ∧ (¬ z1 = 0 →
          ((0 ≤ v4 ∧ (0 : Int) < 26)) ∧
          (vm_C 165 [vm_r 96, vm_i (v4 % 26)] m1 (vm_qi (fun z2 m2 =>
            ((¬ z2 = 0 →
              ((0 ≤ v4 ∧ (0 : Int) < 26) ∧ (0 ≤ v4 ∧ (0 : Int) < 26)) ∧
              (vm_C 175 [vm_r 96, vm_i (v4 / 26), vm_i (v4 % 26), vm_i (m2 100 3)] m2 (vm_qi (fun z3 m3 =>
                ((v2 < 0 →
                  ((vm_32 (v4 + 1))) ∧
                  ku11_extreme_8 v1 v4 z3 (v4 + 1) (some (vm_i z3)) m3 Q) ∧ (¬ v2 < 0 →
                  ((v1 = 0 →
                    ((v3 ≤ z3 →
                      ((vm_32 (v4 + 1))) ∧
                      ku11_extreme_8 v1 v2 v3 (v4 + 1) (some (vm_i z3)) m3 Q) ∧ (¬ v3 ≤ z3 →
                      ((vm_32 (v4 + 1))) ∧
                      ku11_extreme_8 v1 v4 z3 (v4 + 1) (some (vm_i z3)) m3 Q))) ∧ (¬ v1 = 0 →
                    ((z3 ≤ v3 →
                      ((vm_32 (v4 + 1))) ∧
                      ku11_extreme_8 v1 v2 v3 (v4 + 1) (some (vm_i z3)) m3 Q) ∧ (¬ z3 ≤ v3 →
                      ((vm_32 (v4 + 1))) ∧
                      ku11_extreme_8 v1 v4 z3 (v4 + 1) (some (vm_i z3)) m3 Q)))))))))) ∧ (¬ ¬ z2 = 0 →
              ((vm_32 (v4 + 1))) ∧
              ku11_extreme_8 v1 v2 v3 (v4 + 1) w5 m2 Q))))))))))))) : ku11_extreme_8 v1 v2 v3 v4 w5 m Q := by
  show vm_G 246 8 [some (vm_r 96), some (vm_i v1), some (vm_i v2), some (vm_i v3), some (vm_i v4), w5] [] m (vm_qi Q)
  refine vm_gp [(.iload 4, 0, 0, []), (.iconst 676, 0, 0, [])] (pc1 := 13) (ls1 := [some (vm_r 96), some (vm_i v1), some (vm_i v2), some (vm_i v3), some (vm_i v4), w5]) (st1 := [vm_i 676, vm_i v4]) (m1 := m) (ob := true) (by decide +kernel) rfl rfl ?_
  refine vm_gj (c := 676 ≤ v4) (t := 100) (e := 16) (i := (.if_icmp .ge 0, 100, 0, [])) (len := 3) (st1 := []) (by decide +kernel) rfl rfl (fun c1 => ?_) (fun c1 => ?_)
  · replace h := h.1 c1
    refine vm_gp [(.iload 2, 0, 0, [])] (pc1 := 101) (ls1 := [some (vm_r 96), some (vm_i v1), some (vm_i v2), some (vm_i v3), some (vm_i v4), w5]) (st1 := [vm_i v2]) (m1 := m) (ob := true) (by decide +kernel) rfl rfl ?_
    exact vm_gr (r := some (vm_i v2)) (i := (.ireturn, 1, 0, [])) (len := 1) (by decide +kernel) rfl rfl rfl ⟨_, rfl, h⟩
  · replace h := h.2 c1
    obtain ⟨o3_0, h⟩ := h
    refine vm_gp [(.aload 0, 0, 0, []), (.iload 4, 0, 0, []), (.iconst 26, 0, 0, []), (.idiv, 0, 0, [])] (pc1 := 22) (ls1 := [some (vm_r 96), some (vm_i v1), some (vm_i v2), some (vm_i v3), some (vm_i v4), w5]) (st1 := [vm_i (v4 / 26), vm_r 96]) (m1 := m) (ob := (true && decide (0 ≤ v4 ∧ (0 : Int) < 26))) (by decide +kernel) rfl (vm_t rfl o3_0) ?_
    refine vm_gc (g := 165) (na := 2) (av := [vm_r 96, vm_i (v4 / 26)]) (rest := []) (i := (.invokevirtual 0, 165, 2, [])) (len := 3) (by decide +kernel) rfl rfl rfl (by decide +kernel) (by decide +kernel) rfl rfl (vm_u (vm_okh_v (c := 11) (by decide +kernel) (by decide +kernel)) (show vm_okn 165 2 0 0 0 2 = true by decide +kernel)) ?_
    refine vm_G.mono h ?_
    rintro _ m1 ⟨z1, rfl, h⟩
    show vm_G 246 25 [some (vm_r 96), some (vm_i v1), some (vm_i v2), some (vm_i v3), some (vm_i v4), w5] [vm_i z1] m1 _
    refine vm_gj (c := z1 = 0) (t := 94) (e := 28) (i := (.ifCond .eq 0, 94, 0, [])) (len := 3) (st1 := []) (by decide +kernel) rfl rfl (fun c2 => ?_) (fun c2 => ?_)
    · replace h := h.1 c2
      obtain ⟨o5_0, h⟩ := h
      refine vm_gp [(.iinc 4 1, 0, 0, []), (.goto 0, 8, 0, [])] (pc1 := 8) (ls1 := [some (vm_r 96), some (vm_i v1), some (vm_i v2), some (vm_i v3), some (vm_i (v4 + 1)), w5]) (st1 := []) (m1 := m1) (ob := (true && decide (vm_32 (v4 + 1)))) (by decide +kernel) rfl (vm_t rfl o5_0) ?_
      exact h
    · replace h := h.2 c2
      obtain ⟨o6_0, h⟩ := h
      refine vm_gp [(.aload 0, 0, 0, []), (.iload 4, 0, 0, []), (.iconst 26, 0, 0, []), (.irem, 0, 0, [])] (pc1 := 34) (ls1 := [some (vm_r 96), some (vm_i v1), some (vm_i v2), some (vm_i v3), some (vm_i v4), w5]) (st1 := [vm_i (v4 % 26), vm_r 96]) (m1 := m1) (ob := (true && decide (0 ≤ v4 ∧ (0 : Int) < 26))) (by decide +kernel) rfl (vm_t rfl o6_0) ?_
      refine vm_gc (g := 165) (na := 2) (av := [vm_r 96, vm_i (v4 % 26)]) (rest := []) (i := (.invokevirtual 0, 165, 2, [])) (len := 3) (by decide +kernel) rfl rfl rfl (by decide +kernel) (by decide +kernel) rfl rfl (vm_u (vm_okh_v (c := 11) (by decide +kernel) (by decide +kernel)) (show vm_okn 165 2 0 0 0 2 = true by decide +kernel)) ?_
      refine vm_G.mono h ?_
      rintro _ m2 ⟨z2, rfl, h⟩
      show vm_G 246 37 [some (vm_r 96), some (vm_i v1), some (vm_i v2), some (vm_i v3), some (vm_i v4), w5] [vm_i z2] m2 _
      refine vm_gj (c := ¬ z2 = 0) (t := 43) (e := 40) (i := (.ifCond .ne 0, 43, 0, [])) (len := 3) (st1 := []) (by decide +kernel) rfl rfl (fun c3 => ?_) (fun c3 => ?_)
      · replace h := h.1 c3
        obtain ⟨⟨o8_0, o8_1⟩, h⟩ := h
        refine vm_gp [(.aload 0, 0, 0, []), (.iload 4, 0, 0, []), (.iconst 26, 0, 0, []), (.idiv, 0, 0, []), (.iload 4, 0, 0, []), (.iconst 26, 0, 0, []), (.irem, 0, 0, []), (.aload 0, 0, 0, []), (.getfield 2, 11, 7, [(100, 0)]), (.iconst 3, 0, 0, []), (.iaload, 1075, 0, [])] (pc1 := 60) (ls1 := [some (vm_r 96), some (vm_i v1), some (vm_i v2), some (vm_i v3), some (vm_i v4), w5]) (st1 := [vm_i (m2 100 3), vm_i (v4 % 26), vm_i (v4 / 26), vm_r 96]) (m1 := m2) (ob := ((((((true && decide (0 ≤ v4 ∧ (0 : Int) < 26)) && decide (0 ≤ v4 ∧ (0 : Int) < 26)) && vm_is 96 11) && true) && vm_ar 100 100 1075) && decide ((0 : Int) ≤ 3 ∧ (3 : Int) < 1075))) (by decide +kernel) rfl (vm_t (vm_u (vm_u (vm_u (vm_t (vm_t rfl o8_0) o8_1) (by decide +kernel)) rfl) (by decide +kernel)) (by decide)) ?_
        refine vm_gc (g := 175) (na := 4) (av := [vm_r 96, vm_i (v4 / 26), vm_i (v4 % 26), vm_i (m2 100 3)]) (rest := []) (i := (.invokevirtual 0, 175, 4, [])) (len := 3) (by decide +kernel) rfl rfl rfl (by decide +kernel) (by decide +kernel) rfl rfl (vm_u (vm_okh_v (c := 11) (by decide +kernel) (by decide +kernel)) (show vm_okn 175 4 0 0 0 4 = true by decide +kernel)) ?_
        refine vm_G.mono h ?_
        rintro _ m3 ⟨z3, rfl, h⟩
        show vm_G 246 63 [some (vm_r 96), some (vm_i v1), some (vm_i v2), some (vm_i v3), some (vm_i v4), w5] [vm_i z3] m3 _
        refine vm_gp [(.istore 5, 0, 0, []), (.iload 2, 0, 0, [])] (pc1 := 66) (ls1 := [some (vm_r 96), some (vm_i v1), some (vm_i v2), some (vm_i v3), some (vm_i v4), some (vm_i z3)]) (st1 := [vm_i v2]) (m1 := m3) (ob := true) (by decide +kernel) rfl rfl ?_
        refine vm_gj (c := v2 < 0) (t := 88) (e := 69) (i := (.ifCond .lt 0, 88, 0, [])) (len := 3) (st1 := []) (by decide +kernel) rfl rfl (fun c4 => ?_) (fun c4 => ?_)
        · replace h := h.1 c4
          obtain ⟨o10_0, h⟩ := h
          refine vm_gp [(.iload 4, 0, 0, []), (.istore 2, 0, 0, []), (.iload 5, 0, 0, []), (.istore 3, 0, 0, []), (.iinc 4 1, 0, 0, []), (.goto 0, 8, 0, [])] (pc1 := 8) (ls1 := [some (vm_r 96), some (vm_i v1), some (vm_i v4), some (vm_i z3), some (vm_i (v4 + 1)), some (vm_i z3)]) (st1 := []) (m1 := m3) (ob := (true && decide (vm_32 (v4 + 1)))) (by decide +kernel) rfl (vm_t rfl o10_0) ?_
          exact h
        · replace h := h.2 c4
          refine vm_gp [(.iload 1, 0, 0, [])] (pc1 := 70) (ls1 := [some (vm_r 96), some (vm_i v1), some (vm_i v2), some (vm_i v3), some (vm_i v4), some (vm_i z3)]) (st1 := [vm_i v1]) (m1 := m3) (ob := true) (by decide +kernel) rfl rfl ?_
          refine vm_gj (c := v1 = 0) (t := 82) (e := 73) (i := (.ifCond .eq 0, 82, 0, [])) (len := 3) (st1 := []) (by decide +kernel) rfl rfl (fun c5 => ?_) (fun c5 => ?_)
          · replace h := h.1 c5
            refine vm_gp [(.iload 5, 0, 0, []), (.iload 3, 0, 0, [])] (pc1 := 85) (ls1 := [some (vm_r 96), some (vm_i v1), some (vm_i v2), some (vm_i v3), some (vm_i v4), some (vm_i z3)]) (st1 := [vm_i v3, vm_i z3]) (m1 := m3) (ob := true) (by decide +kernel) rfl rfl ?_
            refine vm_gj (c := v3 ≤ z3) (t := 94) (e := 88) (i := (.if_icmp .ge 0, 94, 0, [])) (len := 3) (st1 := []) (by decide +kernel) rfl rfl (fun c6 => ?_) (fun c6 => ?_)
            · replace h := h.1 c6
              obtain ⟨o13_0, h⟩ := h
              refine vm_gp [(.iinc 4 1, 0, 0, []), (.goto 0, 8, 0, [])] (pc1 := 8) (ls1 := [some (vm_r 96), some (vm_i v1), some (vm_i v2), some (vm_i v3), some (vm_i (v4 + 1)), some (vm_i z3)]) (st1 := []) (m1 := m3) (ob := (true && decide (vm_32 (v4 + 1)))) (by decide +kernel) rfl (vm_t rfl o13_0) ?_
              exact h
            · replace h := h.2 c6
              obtain ⟨o14_0, h⟩ := h
              refine vm_gp [(.iload 4, 0, 0, []), (.istore 2, 0, 0, []), (.iload 5, 0, 0, []), (.istore 3, 0, 0, []), (.iinc 4 1, 0, 0, []), (.goto 0, 8, 0, [])] (pc1 := 8) (ls1 := [some (vm_r 96), some (vm_i v1), some (vm_i v4), some (vm_i z3), some (vm_i (v4 + 1)), some (vm_i z3)]) (st1 := []) (m1 := m3) (ob := (true && decide (vm_32 (v4 + 1)))) (by decide +kernel) rfl (vm_t rfl o14_0) ?_
              exact h
          · replace h := h.2 c5
            refine vm_gp [(.iload 5, 0, 0, []), (.iload 3, 0, 0, [])] (pc1 := 76) (ls1 := [some (vm_r 96), some (vm_i v1), some (vm_i v2), some (vm_i v3), some (vm_i v4), some (vm_i z3)]) (st1 := [vm_i v3, vm_i z3]) (m1 := m3) (ob := true) (by decide +kernel) rfl rfl ?_
            refine vm_gj (c := z3 ≤ v3) (t := 94) (e := 79) (i := (.if_icmp .le 0, 94, 0, [])) (len := 3) (st1 := []) (by decide +kernel) rfl rfl (fun c7 => ?_) (fun c7 => ?_)
            · replace h := h.1 c7
              obtain ⟨o16_0, h⟩ := h
              refine vm_gp [(.iinc 4 1, 0, 0, []), (.goto 0, 8, 0, [])] (pc1 := 8) (ls1 := [some (vm_r 96), some (vm_i v1), some (vm_i v2), some (vm_i v3), some (vm_i (v4 + 1)), some (vm_i z3)]) (st1 := []) (m1 := m3) (ob := (true && decide (vm_32 (v4 + 1)))) (by decide +kernel) rfl (vm_t rfl o16_0) ?_
              exact h
            · replace h := h.2 c7
              obtain ⟨o17_0, h⟩ := h
              refine vm_gp [(.goto 0, 88, 0, []), (.iload 4, 0, 0, []), (.istore 2, 0, 0, []), (.iload 5, 0, 0, []), (.istore 3, 0, 0, []), (.iinc 4 1, 0, 0, []), (.goto 0, 8, 0, [])] (pc1 := 8) (ls1 := [some (vm_r 96), some (vm_i v1), some (vm_i v4), some (vm_i z3), some (vm_i (v4 + 1)), some (vm_i z3)]) (st1 := []) (m1 := m3) (ob := (true && decide (vm_32 (v4 + 1)))) (by decide +kernel) rfl (vm_t rfl o17_0) ?_
              exact h
      · replace h := h.2 c3
        obtain ⟨o18_0, h⟩ := h
        refine vm_gp [(.goto 0, 94, 0, []), (.iinc 4 1, 0, 0, []), (.goto 0, 8, 0, [])] (pc1 := 8) (ls1 := [some (vm_r 96), some (vm_i v1), some (vm_i v2), some (vm_i v3), some (vm_i (v4 + 1)), w5]) (st1 := []) (m1 := m2) (ob := (true && decide (vm_32 (v4 + 1)))) (by decide +kernel) rfl (vm_t rfl o18_0) ?_
        exact h
abbrev ku11_areAlike_0 (v1 : Int) (v2 : Int) (v3 : Int) (v4 : Int) (m : vm_M) (Q : Int → vm_M → Prop) : Prop := vm_G 247 0 [some (vm_r 96), some (vm_i v1), some (vm_i v2), some (vm_i v3), some (vm_i v4), none, none] [] m (vm_qi Q)
abbrev ku11_areAlike_6 (v1 : Int) (v2 : Int) (v3 : Int) (v4 : Int) (v5 : Int) (v6 : Int) (m : vm_M) (Q : Int → vm_M → Prop) : Prop := vm_G 247 6 [some (vm_r 96), some (vm_i v1), some (vm_i v2), some (vm_i v3), some (vm_i v4), some (vm_i v5), some (vm_i v6)] [] m (vm_qi Q)
set_option maxRecDepth 20000 in
theorem ru11_areAlike_0 {v1 : Int} {v2 : Int} {v3 : Int} {v4 : Int} {m : vm_M} {Q : Int → vm_M → Prop}  (h :
    ku11_areAlike_6 v1 v2 v3 v4 1 0 m Q) : vm_C 247 [vm_r 96, vm_i v1, vm_i v2, vm_i v3, vm_i v4] m (vm_qi Q) := by
  show vm_G 247 0 [some (vm_r 96), some (vm_i v1), some (vm_i v2), some (vm_i v3), some (vm_i v4), none, none] [] m (vm_qi Q)
  refine vm_gp [(.iconst 1, 0, 0, []), (.istore 5, 0, 0, []), (.iconst 0, 0, 0, []), (.istore 6, 0, 0, [])] (pc1 := 6) (ls1 := [some (vm_r 96), some (vm_i v1), some (vm_i v2), some (vm_i v3), some (vm_i v4), some (vm_i 1), some (vm_i 0)]) (st1 := []) (m1 := m) (ob := true) (by decide +kernel) rfl rfl ?_
  exact h
set_option maxRecDepth 20000 in
theorem ru11_areAlike_6 {v1 : Int} {v2 : Int} {v3 : Int} {v4 : Int} {v5 : Int} {v6 : Int} {m : vm_M} {Q : Int → vm_M → Prop}  (h :
    ((6 ≤ v6 →
      ((v5 = 0 ∨ v5 = 1)) ∧
      Q v5 m) ∧ (¬ 6 ≤ v6 →
      ((v5 = 0 →
        ((vm_32 (v6 + 1))) ∧
        ku11_areAlike_6 v1 v2 v3 v4 0 (v6 + 1) m Q) ∧ (¬ v5 = 0 →
        (vm_C 166 [vm_r 96, vm_i v1, vm_i v2, vm_i v6] m (vm_qi (fun z1 m1 =>
          (vm_C 166 [vm_r 96, vm_i v3, vm_i v4, vm_i v6] m1 (vm_qi (fun z2 m2 =>
            ((¬ z1 = z2 →
              ((vm_32 (v6 + 1))) ∧
              ku11_areAlike_6 v1 v2 v3 v4 0 (v6 + 1) m2 Q) ∧ (¬ ¬ z1 = z2 →
              ((vm_32 (v6 + 1))) ∧
              ku11_areAlike_6 v1 v2 v3 v4 1 (v6 + 1) m2 Q))))))))))))) : ku11_areAlike_6 v1 v2 v3 v4 v5 v6 m Q := by
  show vm_G 247 6 [some (vm_r 96), some (vm_i v1), some (vm_i v2), some (vm_i v3), some (vm_i v4), some (vm_i v5), some (vm_i v6)] [] m (vm_qi Q)
  refine vm_gp [(.iload 6, 0, 0, []), (.iconst 6, 0, 0, [])] (pc1 := 10) (ls1 := [some (vm_r 96), some (vm_i v1), some (vm_i v2), some (vm_i v3), some (vm_i v4), some (vm_i v5), some (vm_i v6)]) (st1 := [vm_i 6, vm_i v6]) (m1 := m) (ob := true) (by decide +kernel) rfl rfl ?_
  refine vm_gj (c := 6 ≤ v6) (t := 51) (e := 13) (i := (.if_icmp .ge 0, 51, 0, [])) (len := 3) (st1 := []) (by decide +kernel) rfl rfl (fun c1 => ?_) (fun c1 => ?_)
  · replace h := h.1 c1
    refine vm_gp [(.iload 5, 0, 0, [])] (pc1 := 53) (ls1 := [some (vm_r 96), some (vm_i v1), some (vm_i v2), some (vm_i v3), some (vm_i v4), some (vm_i v5), some (vm_i v6)]) (st1 := [vm_i v5]) (m1 := m) (ob := true) (by decide +kernel) rfl rfl ?_
    exact vm_gr (r := some (vm_i v5)) (i := (.ireturn, 2, 0, [])) (len := 1) (by decide +kernel) rfl rfl (decide_eq_true h.1) ⟨_, rfl, h.2⟩
  · replace h := h.2 c1
    refine vm_gp [(.iload 5, 0, 0, [])] (pc1 := 15) (ls1 := [some (vm_r 96), some (vm_i v1), some (vm_i v2), some (vm_i v3), some (vm_i v4), some (vm_i v5), some (vm_i v6)]) (st1 := [vm_i v5]) (m1 := m) (ob := true) (by decide +kernel) rfl rfl ?_
    refine vm_gj (c := v5 = 0) (t := 42) (e := 18) (i := (.ifCond .eq 0, 42, 0, [])) (len := 3) (st1 := []) (by decide +kernel) rfl rfl (fun c2 => ?_) (fun c2 => ?_)
    · replace h := h.1 c2
      obtain ⟨o4_0, h⟩ := h
      refine vm_gp [(.iconst 0, 0, 0, []), (.istore 5, 0, 0, []), (.iinc 6 1, 0, 0, []), (.goto 0, 6, 0, [])] (pc1 := 6) (ls1 := [some (vm_r 96), some (vm_i v1), some (vm_i v2), some (vm_i v3), some (vm_i v4), some (vm_i 0), some (vm_i (v6 + 1))]) (st1 := []) (m1 := m) (ob := (true && decide (vm_32 (v6 + 1)))) (by decide +kernel) rfl (vm_t rfl o4_0) ?_
      exact h
    · replace h := h.2 c2
      refine vm_gp [(.aload 0, 0, 0, []), (.iload 1, 0, 0, []), (.iload 2, 0, 0, []), (.iload 6, 0, 0, [])] (pc1 := 23) (ls1 := [some (vm_r 96), some (vm_i v1), some (vm_i v2), some (vm_i v3), some (vm_i v4), some (vm_i v5), some (vm_i v6)]) (st1 := [vm_i v6, vm_i v2, vm_i v1, vm_r 96]) (m1 := m) (ob := true) (by decide +kernel) rfl rfl ?_
      refine vm_gc (g := 166) (na := 4) (av := [vm_r 96, vm_i v1, vm_i v2, vm_i v6]) (rest := []) (i := (.invokevirtual 0, 166, 4, [])) (len := 3) (by decide +kernel) rfl rfl rfl (by decide +kernel) (by decide +kernel) rfl rfl (vm_u (vm_okh_v (c := 11) (by decide +kernel) (by decide +kernel)) (show vm_okn 166 4 0 0 0 4 = true by decide +kernel)) ?_
      refine vm_G.mono h ?_
      rintro _ m1 ⟨z1, rfl, h⟩
      show vm_G 247 26 [some (vm_r 96), some (vm_i v1), some (vm_i v2), some (vm_i v3), some (vm_i v4), some (vm_i v5), some (vm_i v6)] [vm_i z1] m1 _
      refine vm_gp [(.aload 0, 0, 0, []), (.iload 3, 0, 0, []), (.iload 4, 0, 0, []), (.iload 6, 0, 0, [])] (pc1 := 32) (ls1 := [some (vm_r 96), some (vm_i v1), some (vm_i v2), some (vm_i v3), some (vm_i v4), some (vm_i v5), some (vm_i v6)]) (st1 := [vm_i v6, vm_i v4, vm_i v3, vm_r 96, vm_i z1]) (m1 := m1) (ob := true) (by decide +kernel) rfl rfl ?_
      refine vm_gc (g := 166) (na := 4) (av := [vm_r 96, vm_i v3, vm_i v4, vm_i v6]) (rest := [vm_i z1]) (i := (.invokevirtual 0, 166, 4, [])) (len := 3) (by decide +kernel) rfl rfl rfl (by decide +kernel) (by decide +kernel) rfl rfl (vm_u (vm_okh_v (c := 11) (by decide +kernel) (by decide +kernel)) (show vm_okn 166 4 1 0 0 4 = true by decide +kernel)) ?_
      refine vm_G.mono h ?_
      rintro _ m2 ⟨z2, rfl, h⟩
      show vm_G 247 35 [some (vm_r 96), some (vm_i v1), some (vm_i v2), some (vm_i v3), some (vm_i v4), some (vm_i v5), some (vm_i v6)] [vm_i z2, vm_i z1] m2 _
      refine vm_gj (c := ¬ z1 = z2) (t := 42) (e := 38) (i := (.if_icmp .ne 0, 42, 0, [])) (len := 3) (st1 := []) (by decide +kernel) rfl rfl (fun c3 => ?_) (fun c3 => ?_)
      · replace h := h.1 c3
        obtain ⟨o8_0, h⟩ := h
        refine vm_gp [(.iconst 0, 0, 0, []), (.istore 5, 0, 0, []), (.iinc 6 1, 0, 0, []), (.goto 0, 6, 0, [])] (pc1 := 6) (ls1 := [some (vm_r 96), some (vm_i v1), some (vm_i v2), some (vm_i v3), some (vm_i v4), some (vm_i 0), some (vm_i (v6 + 1))]) (st1 := []) (m1 := m2) (ob := (true && decide (vm_32 (v6 + 1)))) (by decide +kernel) rfl (vm_t rfl o8_0) ?_
        exact h
      · replace h := h.2 c3
        obtain ⟨o9_0, h⟩ := h
        refine vm_gp [(.iconst 1, 0, 0, []), (.goto 0, 43, 0, []), (.istore 5, 0, 0, []), (.iinc 6 1, 0, 0, []), (.goto 0, 6, 0, [])] (pc1 := 6) (ls1 := [some (vm_r 96), some (vm_i v1), some (vm_i v2), some (vm_i v3), some (vm_i v4), some (vm_i 1), some (vm_i (v6 + 1))]) (st1 := []) (m1 := m2) (ob := (true && decide (vm_32 (v6 + 1)))) (by decide +kernel) rfl (vm_t rfl o9_0) ?_
        exact h
abbrev ku11_mirrored_0 (v1 : Int) (m : vm_M) (Q : Int → vm_M → Prop) : Prop := vm_G 248 0 [some (vm_r 96), some (vm_i v1)] [] m (vm_qi Q)
set_option maxRecDepth 20000 in
theorem ru11_mirrored_0 {v1 : Int} {m : vm_M} {Q : Int → vm_M → Prop}  (h :
    (vm_C 165 [vm_r 96, vm_i v1] m (vm_qi (fun z1 m1 =>
      ((z1 = 0 →
        Q 0 m1) ∧ (¬ z1 = 0 →
        (vm_C 247 [vm_r 96, vm_i v1, vm_i 0, vm_i v1, vm_i 1] m1 (vm_qi (fun z2 m2 =>
          ((z2 = 0 →
            Q 0 m2) ∧ (¬ z2 = 0 →
            Q 1 m2))))))))))) : vm_C 248 [vm_r 96, vm_i v1] m (vm_qi Q) := by
  show vm_G 248 0 [some (vm_r 96), some (vm_i v1)] [] m (vm_qi Q)
  refine vm_gp [(.aload 0, 0, 0, []), (.iload 1, 0, 0, [])] (pc1 := 2) (ls1 := [some (vm_r 96), some (vm_i v1)]) (st1 := [vm_i v1, vm_r 96]) (m1 := m) (ob := true) (by decide +kernel) rfl rfl ?_
  refine vm_gc (g := 165) (na := 2) (av := [vm_r 96, vm_i v1]) (rest := []) (i := (.invokevirtual 0, 165, 2, [])) (len := 3) (by decide +kernel) rfl rfl rfl (by decide +kernel) (by decide +kernel) rfl rfl (vm_u (vm_okh_v (c := 11) (by decide +kernel) (by decide +kernel)) (show vm_okn 165 2 0 0 0 2 = true by decide +kernel)) ?_
  refine vm_G.mono h ?_
  rintro _ m1 ⟨z1, rfl, h⟩
  show vm_G 248 5 [some (vm_r 96), some (vm_i v1)] [vm_i z1] m1 _
  refine vm_gj (c := z1 = 0) (t := 23) (e := 8) (i := (.ifCond .eq 0, 23, 0, [])) (len := 3) (st1 := []) (by decide +kernel) rfl rfl (fun c1 => ?_) (fun c1 => ?_)
  · replace h := h.1 c1
    refine vm_gp [(.iconst 0, 0, 0, [])] (pc1 := 24) (ls1 := [some (vm_r 96), some (vm_i v1)]) (st1 := [vm_i 0]) (m1 := m1) (ob := true) (by decide +kernel) rfl rfl ?_
    exact vm_gr (r := some (vm_i 0)) (i := (.ireturn, 2, 0, [])) (len := 1) (by decide +kernel) rfl rfl (by decide) ⟨_, rfl, h⟩
  · replace h := h.2 c1
    refine vm_gp [(.aload 0, 0, 0, []), (.iload 1, 0, 0, []), (.iconst 0, 0, 0, []), (.iload 1, 0, 0, []), (.iconst 1, 0, 0, [])] (pc1 := 13) (ls1 := [some (vm_r 96), some (vm_i v1)]) (st1 := [vm_i 1, vm_i v1, vm_i 0, vm_i v1, vm_r 96]) (m1 := m1) (ob := true) (by decide +kernel) rfl rfl ?_
    refine vm_gc (g := 247) (na := 5) (av := [vm_r 96, vm_i v1, vm_i 0, vm_i v1, vm_i 1]) (rest := []) (i := (.invokevirtual 0, 247, 5, [])) (len := 3) (by decide +kernel) rfl rfl rfl (by decide +kernel) (by decide +kernel) rfl rfl (vm_u (vm_okh_v (c := 11) (by decide +kernel) (by decide +kernel)) (show vm_okn 247 5 0 0 0 5 = true by decide +kernel)) ?_
    refine vm_G.mono h ?_
    rintro _ m2 ⟨z2, rfl, h⟩
    show vm_G 248 16 [some (vm_r 96), some (vm_i v1)] [vm_i z2] m2 _
    refine vm_gj (c := z2 = 0) (t := 23) (e := 19) (i := (.ifCond .eq 0, 23, 0, [])) (len := 3) (st1 := []) (by decide +kernel) rfl rfl (fun c2 => ?_) (fun c2 => ?_)
    · replace h := h.1 c2
      refine vm_gp [(.iconst 0, 0, 0, [])] (pc1 := 24) (ls1 := [some (vm_r 96), some (vm_i v1)]) (st1 := [vm_i 0]) (m1 := m2) (ob := true) (by decide +kernel) rfl rfl ?_
      exact vm_gr (r := some (vm_i 0)) (i := (.ireturn, 2, 0, [])) (len := 1) (by decide +kernel) rfl rfl (by decide) ⟨_, rfl, h⟩
    · replace h := h.2 c2
      refine vm_gp [(.iconst 1, 0, 0, []), (.goto 0, 24, 0, [])] (pc1 := 24) (ls1 := [some (vm_r 96), some (vm_i v1)]) (st1 := [vm_i 1]) (m1 := m2) (ob := true) (by decide +kernel) rfl rfl ?_
      exact vm_gr (r := some (vm_i 1)) (i := (.ireturn, 2, 0, [])) (len := 1) (by decide +kernel) rfl rfl (by decide) ⟨_, rfl, h⟩
abbrev ku11_alike_0 (v1 : Int) (v2 : Int) (m : vm_M) (Q : Int → vm_M → Prop) : Prop := vm_G 249 0 [some (vm_r 96), some (vm_i v1), some (vm_i v2), none, none, none] [] m (vm_qi Q)
abbrev ku11_alike_26 (v1 : Int) (v2 : Int) (v3 : Int) (v4 : Int) (v5 : Int) (m : vm_M) (Q : Int → vm_M → Prop) : Prop := vm_G 249 26 [some (vm_r 96), some (vm_i v1), some (vm_i v2), some (vm_i v3), some (vm_i v4), some (vm_i v5)] [] m (vm_qi Q)
set_option maxRecDepth 20000 in
theorem ru11_alike_0 {v1 : Int} {v2 : Int} {m : vm_M} {Q : Int → vm_M → Prop}  (h :
    (vm_C 165 [vm_r 96, vm_i v1] m (vm_qi (fun z1 m1 =>
      ((¬ z1 = 0 →
        ((v2 = 0 →
          ku11_alike_26 v1 v2 0 0 0 m1 Q) ∧ (¬ v2 = 0 →
          ku11_alike_26 v1 v2 1 0 0 m1 Q))) ∧ (¬ ¬ z1 = 0 →
        Q (-1) m1)))))) : vm_C 249 [vm_r 96, vm_i v1, vm_i v2] m (vm_qi Q) := by
  show vm_G 249 0 [some (vm_r 96), some (vm_i v1), some (vm_i v2), none, none, none] [] m (vm_qi Q)
  refine vm_gp [(.aload 0, 0, 0, []), (.iload 1, 0, 0, [])] (pc1 := 2) (ls1 := [some (vm_r 96), some (vm_i v1), some (vm_i v2), none, none, none]) (st1 := [vm_i v1, vm_r 96]) (m1 := m) (ob := true) (by decide +kernel) rfl rfl ?_
  refine vm_gc (g := 165) (na := 2) (av := [vm_r 96, vm_i v1]) (rest := []) (i := (.invokevirtual 0, 165, 2, [])) (len := 3) (by decide +kernel) rfl rfl rfl (by decide +kernel) (by decide +kernel) rfl rfl (vm_u (vm_okh_v (c := 11) (by decide +kernel) (by decide +kernel)) (show vm_okn 165 2 0 0 0 2 = true by decide +kernel)) ?_
  refine vm_G.mono h ?_
  rintro _ m1 ⟨z1, rfl, h⟩
  show vm_G 249 5 [some (vm_r 96), some (vm_i v1), some (vm_i v2), none, none, none] [vm_i z1] m1 _
  refine vm_gj (c := ¬ z1 = 0) (t := 10) (e := 8) (i := (.ifCond .ne 0, 10, 0, [])) (len := 3) (st1 := []) (by decide +kernel) rfl rfl (fun c1 => ?_) (fun c1 => ?_)
  · replace h := h.1 c1
    refine vm_gp [(.iload 2, 0, 0, [])] (pc1 := 11) (ls1 := [some (vm_r 96), some (vm_i v1), some (vm_i v2), none, none, none]) (st1 := [vm_i v2]) (m1 := m1) (ob := true) (by decide +kernel) rfl rfl ?_
    refine vm_gj (c := v2 = 0) (t := 18) (e := 14) (i := (.ifCond .eq 0, 18, 0, [])) (len := 3) (st1 := []) (by decide +kernel) rfl rfl (fun c2 => ?_) (fun c2 => ?_)
    · replace h := h.1 c2
      refine vm_gp [(.iconst 0, 0, 0, []), (.istore 3, 0, 0, []), (.iconst 0, 0, 0, []), (.istore 4, 0, 0, []), (.iconst 0, 0, 0, []), (.istore 5, 0, 0, [])] (pc1 := 26) (ls1 := [some (vm_r 96), some (vm_i v1), some (vm_i v2), some (vm_i 0), some (vm_i 0), some (vm_i 0)]) (st1 := []) (m1 := m1) (ob := true) (by decide +kernel) rfl rfl ?_
      exact h
    · replace h := h.2 c2
      refine vm_gp [(.iconst 1, 0, 0, []), (.goto 0, 19, 0, []), (.istore 3, 0, 0, []), (.iconst 0, 0, 0, []), (.istore 4, 0, 0, []), (.iconst 0, 0, 0, []), (.istore 5, 0, 0, [])] (pc1 := 26) (ls1 := [some (vm_r 96), some (vm_i v1), some (vm_i v2), some (vm_i 1), some (vm_i 0), some (vm_i 0)]) (st1 := []) (m1 := m1) (ob := true) (by decide +kernel) rfl rfl ?_
      exact h
  · replace h := h.2 c1
    refine vm_gp [(.iconst (-1), 0, 0, [])] (pc1 := 9) (ls1 := [some (vm_r 96), some (vm_i v1), some (vm_i v2), none, none, none]) (st1 := [vm_i (-1)]) (m1 := m1) (ob := true) (by decide +kernel) rfl rfl ?_
    exact vm_gr (r := some (vm_i (-1))) (i := (.ireturn, 1, 0, [])) (len := 1) (by decide +kernel) rfl rfl rfl ⟨_, rfl, h⟩
set_option maxRecDepth 20000 in
theorem ru11_alike_26 {v1 : Int} {v2 : Int} {v3 : Int} {v4 : Int} {v5 : Int} {m : vm_M} {Q : Int → vm_M → Prop}  (h :
    ((26 ≤ v5 →
      Q v4 m) ∧ (¬ 26 ≤ v5 →
      ((v5 = v1 →
        ((vm_32 (v4 + 0)) ∧ (vm_32 (v5 + 1))) ∧
        ku11_alike_26 v1 v2 v3 (v4 + 0) (v5 + 1) m Q) ∧ (¬ v5 = v1 →
        (vm_C 165 [vm_r 96, vm_i v5] m (vm_qi (fun z1 m1 =>
          ((z1 = 0 →
            ((vm_32 (v4 + 0)) ∧ (vm_32 (v5 + 1))) ∧
            ku11_alike_26 v1 v2 v3 (v4 + 0) (v5 + 1) m1 Q) ∧ (¬ z1 = 0 →
            (vm_C 247 [vm_r 96, vm_i v1, vm_i v3, vm_i v5, vm_i v3] m1 (vm_qi (fun z2 m2 =>
              ((z2 = 0 →
                ((vm_32 (v4 + 0)) ∧ (vm_32 (v5 + 1))) ∧
                ku11_alike_26 v1 v2 v3 (v4 + 0) (v5 + 1) m2 Q) ∧ (¬ z2 = 0 →
                ((vm_32 (v4 + 1)) ∧ (vm_32 (v5 + 1))) ∧
                ku11_alike_26 v1 v2 v3 (v4 + 1) (v5 + 1) m2 Q))))))))))))))) : ku11_alike_26 v1 v2 v3 v4 v5 m Q := by
  show vm_G 249 26 [some (vm_r 96), some (vm_i v1), some (vm_i v2), some (vm_i v3), some (vm_i v4), some (vm_i v5)] [] m (vm_qi Q)
  refine vm_gp [(.iload 5, 0, 0, []), (.iconst 26, 0, 0, [])] (pc1 := 30) (ls1 := [some (vm_r 96), some (vm_i v1), some (vm_i v2), some (vm_i v3), some (vm_i v4), some (vm_i v5)]) (st1 := [vm_i 26, vm_i v5]) (m1 := m) (ob := true) (by decide +kernel) rfl rfl ?_
  refine vm_gj (c := 26 ≤ v5) (t := 76) (e := 33) (i := (.if_icmp .ge 0, 76, 0, [])) (len := 3) (st1 := []) (by decide +kernel) rfl rfl (fun c1 => ?_) (fun c1 => ?_)
  · replace h := h.1 c1
    refine vm_gp [(.iload 4, 0, 0, [])] (pc1 := 78) (ls1 := [some (vm_r 96), some (vm_i v1), some (vm_i v2), some (vm_i v3), some (vm_i v4), some (vm_i v5)]) (st1 := [vm_i v4]) (m1 := m) (ob := true) (by decide +kernel) rfl rfl ?_
    exact vm_gr (r := some (vm_i v4)) (i := (.ireturn, 1, 0, [])) (len := 1) (by decide +kernel) rfl rfl rfl ⟨_, rfl, h⟩
  · replace h := h.2 c1
    refine vm_gp [(.iload 4, 0, 0, []), (.iload 5, 0, 0, []), (.iload 1, 0, 0, [])] (pc1 := 38) (ls1 := [some (vm_r 96), some (vm_i v1), some (vm_i v2), some (vm_i v3), some (vm_i v4), some (vm_i v5)]) (st1 := [vm_i v1, vm_i v5, vm_i v4]) (m1 := m) (ob := true) (by decide +kernel) rfl rfl ?_
    refine vm_gj (c := v5 = v1) (t := 66) (e := 41) (i := (.if_icmp .eq 0, 66, 0, [])) (len := 3) (st1 := [vm_i v4]) (by decide +kernel) rfl rfl (fun c2 => ?_) (fun c2 => ?_)
    · replace h := h.1 c2
      obtain ⟨⟨o4_0, o4_1⟩, h⟩ := h
      refine vm_gp [(.iconst 0, 0, 0, []), (.iadd, 0, 0, []), (.istore 4, 0, 0, []), (.iinc 5 1, 0, 0, []), (.goto 0, 26, 0, [])] (pc1 := 26) (ls1 := [some (vm_r 96), some (vm_i v1), some (vm_i v2), some (vm_i v3), some (vm_i (v4 + 0)), some (vm_i (v5 + 1))]) (st1 := []) (m1 := m) (ob := ((true && decide (vm_32 (v4 + 0))) && decide (vm_32 (v5 + 1)))) (by decide +kernel) rfl (vm_t (vm_t rfl o4_0) o4_1) ?_
      exact h
    · replace h := h.2 c2
      refine vm_gp [(.aload 0, 0, 0, []), (.iload 5, 0, 0, [])] (pc1 := 44) (ls1 := [some (vm_r 96), some (vm_i v1), some (vm_i v2), some (vm_i v3), some (vm_i v4), some (vm_i v5)]) (st1 := [vm_i v5, vm_r 96, vm_i v4]) (m1 := m) (ob := true) (by decide +kernel) rfl rfl ?_
      refine vm_gc (g := 165) (na := 2) (av := [vm_r 96, vm_i v5]) (rest := [vm_i v4]) (i := (.invokevirtual 0, 165, 2, [])) (len := 3) (by decide +kernel) rfl rfl rfl (by decide +kernel) (by decide +kernel) rfl rfl (vm_u (vm_okh_v (c := 11) (by decide +kernel) (by decide +kernel)) (show vm_okn 165 2 1 0 0 2 = true by decide +kernel)) ?_
      refine vm_G.mono h ?_
      rintro _ m1 ⟨z1, rfl, h⟩
      show vm_G 249 47 [some (vm_r 96), some (vm_i v1), some (vm_i v2), some (vm_i v3), some (vm_i v4), some (vm_i v5)] [vm_i z1, vm_i v4] m1 _
      refine vm_gj (c := z1 = 0) (t := 66) (e := 50) (i := (.ifCond .eq 0, 66, 0, [])) (len := 3) (st1 := [vm_i v4]) (by decide +kernel) rfl rfl (fun c3 => ?_) (fun c3 => ?_)
      · replace h := h.1 c3
        obtain ⟨⟨o7_0, o7_1⟩, h⟩ := h
        refine vm_gp [(.iconst 0, 0, 0, []), (.iadd, 0, 0, []), (.istore 4, 0, 0, []), (.iinc 5 1, 0, 0, []), (.goto 0, 26, 0, [])] (pc1 := 26) (ls1 := [some (vm_r 96), some (vm_i v1), some (vm_i v2), some (vm_i v3), some (vm_i (v4 + 0)), some (vm_i (v5 + 1))]) (st1 := []) (m1 := m1) (ob := ((true && decide (vm_32 (v4 + 0))) && decide (vm_32 (v5 + 1)))) (by decide +kernel) rfl (vm_t (vm_t rfl o7_0) o7_1) ?_
        exact h
      · replace h := h.2 c3
        refine vm_gp [(.aload 0, 0, 0, []), (.iload 1, 0, 0, []), (.iload 3, 0, 0, []), (.iload 5, 0, 0, []), (.iload 3, 0, 0, [])] (pc1 := 56) (ls1 := [some (vm_r 96), some (vm_i v1), some (vm_i v2), some (vm_i v3), some (vm_i v4), some (vm_i v5)]) (st1 := [vm_i v3, vm_i v5, vm_i v3, vm_i v1, vm_r 96, vm_i v4]) (m1 := m1) (ob := true) (by decide +kernel) rfl rfl ?_
        refine vm_gc (g := 247) (na := 5) (av := [vm_r 96, vm_i v1, vm_i v3, vm_i v5, vm_i v3]) (rest := [vm_i v4]) (i := (.invokevirtual 0, 247, 5, [])) (len := 3) (by decide +kernel) rfl rfl rfl (by decide +kernel) (by decide +kernel) rfl rfl (vm_u (vm_okh_v (c := 11) (by decide +kernel) (by decide +kernel)) (show vm_okn 247 5 1 0 0 5 = true by decide +kernel)) ?_
        refine vm_G.mono h ?_
        rintro _ m2 ⟨z2, rfl, h⟩
        show vm_G 249 59 [some (vm_r 96), some (vm_i v1), some (vm_i v2), some (vm_i v3), some (vm_i v4), some (vm_i v5)] [vm_i z2, vm_i v4] m2 _
        refine vm_gj (c := z2 = 0) (t := 66) (e := 62) (i := (.ifCond .eq 0, 66, 0, [])) (len := 3) (st1 := [vm_i v4]) (by decide +kernel) rfl rfl (fun c4 => ?_) (fun c4 => ?_)
        · replace h := h.1 c4
          obtain ⟨⟨o10_0, o10_1⟩, h⟩ := h
          refine vm_gp [(.iconst 0, 0, 0, []), (.iadd, 0, 0, []), (.istore 4, 0, 0, []), (.iinc 5 1, 0, 0, []), (.goto 0, 26, 0, [])] (pc1 := 26) (ls1 := [some (vm_r 96), some (vm_i v1), some (vm_i v2), some (vm_i v3), some (vm_i (v4 + 0)), some (vm_i (v5 + 1))]) (st1 := []) (m1 := m2) (ob := ((true && decide (vm_32 (v4 + 0))) && decide (vm_32 (v5 + 1)))) (by decide +kernel) rfl (vm_t (vm_t rfl o10_0) o10_1) ?_
          exact h
        · replace h := h.2 c4
          obtain ⟨⟨o11_0, o11_1⟩, h⟩ := h
          refine vm_gp [(.iconst 1, 0, 0, []), (.goto 0, 67, 0, []), (.iadd, 0, 0, []), (.istore 4, 0, 0, []), (.iinc 5 1, 0, 0, []), (.goto 0, 26, 0, [])] (pc1 := 26) (ls1 := [some (vm_r 96), some (vm_i v1), some (vm_i v2), some (vm_i v3), some (vm_i (v4 + 1)), some (vm_i (v5 + 1))]) (st1 := []) (m1 := m2) (ob := ((true && decide (vm_32 (v4 + 1))) && decide (vm_32 (v5 + 1)))) (by decide +kernel) rfl (vm_t (vm_t rfl o11_0) o11_1) ?_
          exact h
abbrev ku11_rowOf_0 (v1 : Int) (m : vm_M) (Q : Int → vm_M → Prop) : Prop := vm_G 250 0 [some (vm_r 96), some (vm_i v1), none] [] m (vm_qi Q)
abbrev ku11_rowOf_6 (v1 : Int) (v2 : Int) (m : vm_M) (Q : Int → vm_M → Prop) : Prop := vm_G 250 6 [some (vm_r 96), some (vm_i v1), some (vm_i v2)] [] m (vm_qi Q)
set_option maxRecDepth 20000 in
theorem ru11_rowOf_0 {v1 : Int} {m : vm_M} {Q : Int → vm_M → Prop}  (h :
    (vm_C 186 [vm_r 96] m (vm_qv (fun m1 =>
      ku11_rowOf_6 v1 0 m1 Q)))) : vm_C 250 [vm_r 96, vm_i v1] m (vm_qi Q) := by
  show vm_G 250 0 [some (vm_r 96), some (vm_i v1), none] [] m (vm_qi Q)
  refine vm_gp [(.aload 0, 0, 0, [])] (pc1 := 1) (ls1 := [some (vm_r 96), some (vm_i v1), none]) (st1 := [vm_r 96]) (m1 := m) (ob := true) (by decide +kernel) rfl rfl ?_
  refine vm_gc (g := 186) (na := 1) (av := [vm_r 96]) (rest := []) (i := (.invokevirtual 0, 186, 1, [])) (len := 3) (by decide +kernel) rfl rfl rfl (by decide +kernel) (by decide +kernel) rfl rfl (vm_u (vm_okh_v (c := 11) (by decide +kernel) (by decide +kernel)) (show vm_okn 186 1 0 0 0 1 = true by decide +kernel)) ?_
  refine vm_G.mono h ?_
  rintro _ m1 ⟨rfl, h⟩
  show vm_G 250 4 [some (vm_r 96), some (vm_i v1), none] [] m1 _
  refine vm_gp [(.iconst 0, 0, 0, []), (.istore 2, 0, 0, [])] (pc1 := 6) (ls1 := [some (vm_r 96), some (vm_i v1), some (vm_i 0)]) (st1 := []) (m1 := m1) (ob := true) (by decide +kernel) rfl rfl ?_
  exact h
set_option maxRecDepth 20000 in
theorem ru11_rowOf_6 {v1 : Int} {v2 : Int} {m : vm_M} {Q : Int → vm_M → Prop}  (h :
    (((m 96 14) ≤ v2 →
      (((m 96 14) ≤ v2 →
        Q (-2) m) ∧ (¬ (m 96 14) ≤ v2 →
        Q v2 m))) ∧ (¬ (m 96 14) ≤ v2 →
      ((vm_32 (v2 + 1)) ∧ (0 ≤ (v2 + 1) ∧ (v2 + 1) < 14)) ∧
      ((v1 < (m 105 (v2 + 1)) →
        (((m 96 14) ≤ v2 →
          Q (-2) m) ∧ (¬ (m 96 14) ≤ v2 →
          Q v2 m))) ∧ (¬ v1 < (m 105 (v2 + 1)) →
        ((vm_32 (v2 + 1))) ∧
        ku11_rowOf_6 v1 (v2 + 1) m Q))))) : ku11_rowOf_6 v1 v2 m Q := by
  show vm_G 250 6 [some (vm_r 96), some (vm_i v1), some (vm_i v2)] [] m (vm_qi Q)
  refine vm_gp [(.iload 2, 0, 0, []), (.aload 0, 0, 0, []), (.getfield 0, 11, 14, [])] (pc1 := 11) (ls1 := [some (vm_r 96), some (vm_i v1), some (vm_i v2)]) (st1 := [vm_i (m 96 14), vm_i v2]) (m1 := m) (ob := (true && vm_is 96 11)) (by decide +kernel) rfl (vm_u rfl (by decide +kernel)) ?_
  refine vm_gj (c := (m 96 14) ≤ v2) (t := 32) (e := 14) (i := (.if_icmp .ge 0, 32, 0, [])) (len := 3) (st1 := []) (by decide +kernel) rfl rfl (fun c1 => ?_) (fun c1 => ?_)
  · replace h := h.1 c1
    refine vm_gp [(.iload 2, 0, 0, []), (.aload 0, 0, 0, []), (.getfield 0, 11, 14, [])] (pc1 := 37) (ls1 := [some (vm_r 96), some (vm_i v1), some (vm_i v2)]) (st1 := [vm_i (m 96 14), vm_i v2]) (m1 := m) (ob := (true && vm_is 96 11)) (by decide +kernel) rfl (vm_u rfl (by decide +kernel)) ?_
    refine vm_gj (c := (m 96 14) ≤ v2) (t := 44) (e := 40) (i := (.if_icmp .ge 0, 44, 0, [])) (len := 3) (st1 := []) (by decide +kernel) rfl rfl (fun c2 => ?_) (fun c2 => ?_)
    · replace h := h.1 c2
      refine vm_gp [(.iconst (-2), 0, 0, [])] (pc1 := 46) (ls1 := [some (vm_r 96), some (vm_i v1), some (vm_i v2)]) (st1 := [vm_i (-2)]) (m1 := m) (ob := true) (by decide +kernel) rfl rfl ?_
      exact vm_gr (r := some (vm_i (-2))) (i := (.ireturn, 1, 0, [])) (len := 1) (by decide +kernel) rfl rfl rfl ⟨_, rfl, h⟩
    · replace h := h.2 c2
      refine vm_gp [(.iload 2, 0, 0, []), (.goto 0, 46, 0, [])] (pc1 := 46) (ls1 := [some (vm_r 96), some (vm_i v1), some (vm_i v2)]) (st1 := [vm_i v2]) (m1 := m) (ob := true) (by decide +kernel) rfl rfl ?_
      exact vm_gr (r := some (vm_i v2)) (i := (.ireturn, 1, 0, [])) (len := 1) (by decide +kernel) rfl rfl rfl ⟨_, rfl, h⟩
  · replace h := h.2 c1
    obtain ⟨⟨o5_0, o5_1⟩, h⟩ := h
    refine vm_gp [(.aload 0, 0, 0, []), (.getfield 2, 11, 13, [(105, 0)]), (.iload 2, 0, 0, []), (.iconst 1, 0, 0, []), (.iadd, 0, 0, []), (.iaload, 14, 0, []), (.iload 1, 0, 0, [])] (pc1 := 23) (ls1 := [some (vm_r 96), some (vm_i v1), some (vm_i v2)]) (st1 := [vm_i v1, vm_i (m 105 (v2 + 1))]) (m1 := m) (ob := (((((true && vm_is 96 11) && true) && decide (vm_32 (v2 + 1))) && vm_ar 105 100 14) && decide (0 ≤ (v2 + 1) ∧ (v2 + 1) < 14))) (by decide +kernel) rfl (vm_t (vm_u (vm_t (vm_u (vm_u rfl (by decide +kernel)) rfl) o5_0) (by decide +kernel)) o5_1) ?_
    refine vm_gj (c := v1 < (m 105 (v2 + 1))) (t := 32) (e := 26) (i := (.if_icmp .gt 0, 32, 0, [])) (len := 3) (st1 := []) (by decide +kernel) rfl rfl (fun c3 => ?_) (fun c3 => ?_)
    · replace h := h.1 c3
      refine vm_gp [(.iload 2, 0, 0, []), (.aload 0, 0, 0, []), (.getfield 0, 11, 14, [])] (pc1 := 37) (ls1 := [some (vm_r 96), some (vm_i v1), some (vm_i v2)]) (st1 := [vm_i (m 96 14), vm_i v2]) (m1 := m) (ob := (true && vm_is 96 11)) (by decide +kernel) rfl (vm_u rfl (by decide +kernel)) ?_
      refine vm_gj (c := (m 96 14) ≤ v2) (t := 44) (e := 40) (i := (.if_icmp .ge 0, 44, 0, [])) (len := 3) (st1 := []) (by decide +kernel) rfl rfl (fun c4 => ?_) (fun c4 => ?_)
      · replace h := h.1 c4
        refine vm_gp [(.iconst (-2), 0, 0, [])] (pc1 := 46) (ls1 := [some (vm_r 96), some (vm_i v1), some (vm_i v2)]) (st1 := [vm_i (-2)]) (m1 := m) (ob := true) (by decide +kernel) rfl rfl ?_
        exact vm_gr (r := some (vm_i (-2))) (i := (.ireturn, 1, 0, [])) (len := 1) (by decide +kernel) rfl rfl rfl ⟨_, rfl, h⟩
      · replace h := h.2 c4
        refine vm_gp [(.iload 2, 0, 0, []), (.goto 0, 46, 0, [])] (pc1 := 46) (ls1 := [some (vm_r 96), some (vm_i v1), some (vm_i v2)]) (st1 := [vm_i v2]) (m1 := m) (ob := true) (by decide +kernel) rfl rfl ?_
        exact vm_gr (r := some (vm_i v2)) (i := (.ireturn, 1, 0, [])) (len := 1) (by decide +kernel) rfl rfl rfl ⟨_, rfl, h⟩
    · replace h := h.2 c3
      obtain ⟨o9_0, h⟩ := h
      refine vm_gp [(.iinc 2 1, 0, 0, []), (.goto 0, 6, 0, [])] (pc1 := 6) (ls1 := [some (vm_r 96), some (vm_i v1), some (vm_i (v2 + 1))]) (st1 := []) (m1 := m) (ob := (true && decide (vm_32 (v2 + 1)))) (by decide +kernel) rfl (vm_t rfl o9_0) ?_
      exact h
abbrev ku11_placeOf_0 (v1 : Int) (m : vm_M) (Q : Int → vm_M → Prop) : Prop := vm_G 251 0 [some (vm_r 96), some (vm_i v1), none] [] m (vm_qi Q)
set_option maxRecDepth 20000 in
theorem ru11_placeOf_0 {v1 : Int} {m : vm_M} {Q : Int → vm_M → Prop}  (h :
    (vm_C 250 [vm_r 96, vm_i v1] m (vm_qi (fun z1 m1 =>
      ((0 ≤ z1 →
        ((0 ≤ z1 ∧ z1 < 14) ∧ (vm_32 (v1 - (m1 105 z1)))) ∧
        Q (v1 - (m1 105 z1)) m1) ∧ (¬ 0 ≤ z1 →
        Q (-2) m1)))))) : vm_C 251 [vm_r 96, vm_i v1] m (vm_qi Q) := by
  show vm_G 251 0 [some (vm_r 96), some (vm_i v1), none] [] m (vm_qi Q)
  refine vm_gp [(.aload 0, 0, 0, []), (.iload 1, 0, 0, [])] (pc1 := 2) (ls1 := [some (vm_r 96), some (vm_i v1), none]) (st1 := [vm_i v1, vm_r 96]) (m1 := m) (ob := true) (by decide +kernel) rfl rfl ?_
  refine vm_gc (g := 250) (na := 2) (av := [vm_r 96, vm_i v1]) (rest := []) (i := (.invokevirtual 0, 250, 2, [])) (len := 3) (by decide +kernel) rfl rfl rfl (by decide +kernel) (by decide +kernel) rfl rfl (vm_u (vm_okh_v (c := 11) (by decide +kernel) (by decide +kernel)) (show vm_okn 250 2 0 0 0 2 = true by decide +kernel)) ?_
  refine vm_G.mono h ?_
  rintro _ m1 ⟨z1, rfl, h⟩
  show vm_G 251 5 [some (vm_r 96), some (vm_i v1), none] [vm_i z1] m1 _
  refine vm_gp [(.istore 2, 0, 0, []), (.iload 2, 0, 0, [])] (pc1 := 7) (ls1 := [some (vm_r 96), some (vm_i v1), some (vm_i z1)]) (st1 := [vm_i z1]) (m1 := m1) (ob := true) (by decide +kernel) rfl rfl ?_
  refine vm_gj (c := 0 ≤ z1) (t := 15) (e := 10) (i := (.ifCond .ge 0, 15, 0, [])) (len := 3) (st1 := []) (by decide +kernel) rfl rfl (fun c1 => ?_) (fun c1 => ?_)
  · replace h := h.1 c1
    obtain ⟨⟨o3_0, o3_1⟩, h⟩ := h
    refine vm_gp [(.iload 1, 0, 0, []), (.aload 0, 0, 0, []), (.getfield 2, 11, 13, [(105, 0)]), (.iload 2, 0, 0, []), (.iaload, 14, 0, []), (.isub, 0, 0, [])] (pc1 := 23) (ls1 := [some (vm_r 96), some (vm_i v1), some (vm_i z1)]) (st1 := [vm_i (v1 - (m1 105 z1))]) (m1 := m1) (ob := (((((true && vm_is 96 11) && true) && vm_ar 105 100 14) && decide (0 ≤ z1 ∧ z1 < 14)) && decide (vm_32 (v1 - (m1 105 z1))))) (by decide +kernel) rfl (vm_t (vm_t (vm_u (vm_u (vm_u rfl (by decide +kernel)) rfl) (by decide +kernel)) o3_0) o3_1) ?_
    exact vm_gr (r := some (vm_i (v1 - (m1 105 z1)))) (i := (.ireturn, 1, 0, [])) (len := 1) (by decide +kernel) rfl rfl rfl ⟨_, rfl, h⟩
  · replace h := h.2 c1
    refine vm_gp [(.iconst (-2), 0, 0, []), (.goto 0, 23, 0, [])] (pc1 := 23) (ls1 := [some (vm_r 96), some (vm_i v1), some (vm_i z1)]) (st1 := [vm_i (-2)]) (m1 := m1) (ob := true) (by decide +kernel) rfl rfl ?_
    exact vm_gr (r := some (vm_i (-2))) (i := (.ireturn, 1, 0, [])) (len := 1) (by decide +kernel) rfl rfl rfl ⟨_, rfl, h⟩
abbrev ku11_word_0 (v1 : Int) (v2 : Int) (m : vm_M) (Q : Int → vm_M → Prop) : Prop := vm_G 252 0 [some (vm_r 96), some (vm_i v1), some (vm_i v2)] [] m (vm_qi Q)
set_option maxRecDepth 20000 in
theorem ru11_word_0 {v1 : Int} {v2 : Int} {m : vm_M} {Q : Int → vm_M → Prop}  (h :
    (vm_C 169 [vm_r 96, vm_i v1] m (vm_qi (fun z1 m1 =>
      ((¬ z1 = 0 →
        ((v2 = 0 →
          (vm_C 167 [vm_r 96, vm_i v1] m1 (vm_qi (fun z2 m2 =>
            Q z2 m2)))) ∧ (¬ v2 = 0 →
          ((v2 = 1 →
            (vm_C 176 [vm_r 96, vm_i v1, vm_i (m1 100 3)] m1 (vm_qi (fun z3 m3 =>
              ((vm_32 (z3 * (m3 100 5)))) ∧
              Q (z3 * (m3 100 5)) m3)))) ∧ (¬ v2 = 1 →
            ((v2 = 2 →
              (vm_C 250 [vm_r 96, vm_i v1] m1 (vm_qi (fun z4 m4 =>
                Q z4 m4)))) ∧ (¬ v2 = 2 →
              ((v2 = 3 →
                (vm_C 251 [vm_r 96, vm_i v1] m1 (vm_qi (fun z5 m5 =>
                  Q z5 m5)))) ∧ (¬ v2 = 3 →
                Q (-1) m1))))))))) ∧ (¬ ¬ z1 = 0 →
        Q (-1) m1)))))) : vm_C 252 [vm_r 96, vm_i v1, vm_i v2] m (vm_qi Q) := by
  show vm_G 252 0 [some (vm_r 96), some (vm_i v1), some (vm_i v2)] [] m (vm_qi Q)
  refine vm_gp [(.aload 0, 0, 0, []), (.iload 1, 0, 0, [])] (pc1 := 2) (ls1 := [some (vm_r 96), some (vm_i v1), some (vm_i v2)]) (st1 := [vm_i v1, vm_r 96]) (m1 := m) (ob := true) (by decide +kernel) rfl rfl ?_
  refine vm_gc (g := 169) (na := 2) (av := [vm_r 96, vm_i v1]) (rest := []) (i := (.invokevirtual 0, 169, 2, [])) (len := 3) (by decide +kernel) rfl rfl rfl (by decide +kernel) (by decide +kernel) rfl rfl (vm_u (vm_okh_v (c := 11) (by decide +kernel) (by decide +kernel)) (show vm_okn 169 2 0 0 0 2 = true by decide +kernel)) ?_
  refine vm_G.mono h ?_
  rintro _ m1 ⟨z1, rfl, h⟩
  show vm_G 252 5 [some (vm_r 96), some (vm_i v1), some (vm_i v2)] [vm_i z1] m1 _
  refine vm_gj (c := ¬ z1 = 0) (t := 10) (e := 8) (i := (.ifCond .ne 0, 10, 0, [])) (len := 3) (st1 := []) (by decide +kernel) rfl rfl (fun c1 => ?_) (fun c1 => ?_)
  · replace h := h.1 c1
    refine vm_gp [(.iload 2, 0, 0, [])] (pc1 := 11) (ls1 := [some (vm_r 96), some (vm_i v1), some (vm_i v2)]) (st1 := [vm_i v2]) (m1 := m1) (ob := true) (by decide +kernel) rfl rfl ?_
    by_cases c2 : v2 = 0
    · replace h := h.1 c2
      refine vm_gj1 (i := (.tableswitch 0 0 0 #[], 77, 0, [(0, 40), (1, 46), (2, 65), (3, 71)])) (len := 29) (t := 40) (st1 := []) (by decide +kernel) rfl (by rw [c2]; rfl) ?_
      refine vm_gp [(.aload 0, 0, 0, []), (.iload 1, 0, 0, [])] (pc1 := 42) (ls1 := [some (vm_r 96), some (vm_i v1), some (vm_i v2)]) (st1 := [vm_i v1, vm_r 96]) (m1 := m1) (ob := true) (by decide +kernel) rfl rfl ?_
      refine vm_gc (g := 167) (na := 2) (av := [vm_r 96, vm_i v1]) (rest := []) (i := (.invokevirtual 0, 167, 2, [])) (len := 3) (by decide +kernel) rfl rfl rfl (by decide +kernel) (by decide +kernel) rfl rfl (vm_u (vm_okh_v (c := 11) (by decide +kernel) (by decide +kernel)) (show vm_okn 167 2 0 0 0 2 = true by decide +kernel)) ?_
      refine vm_G.mono h ?_
      rintro _ m2 ⟨z2, rfl, h⟩
      show vm_G 252 45 [some (vm_r 96), some (vm_i v1), some (vm_i v2)] [vm_i z2] m2 _
      exact vm_gr (r := some (vm_i z2)) (i := (.ireturn, 1, 0, [])) (len := 1) (by decide +kernel) rfl rfl rfl ⟨_, rfl, h⟩
    · replace h := h.2 c2
      by_cases c3 : v2 = 1
      · replace h := h.1 c3
        refine vm_gj1 (i := (.tableswitch 0 0 0 #[], 77, 0, [(0, 40), (1, 46), (2, 65), (3, 71)])) (len := 29) (t := 46) (st1 := []) (by decide +kernel) rfl (by rw [c3]; rfl) ?_
        refine vm_gp [(.aload 0, 0, 0, []), (.iload 1, 0, 0, []), (.aload 0, 0, 0, []), (.getfield 2, 11, 7, [(100, 0)]), (.iconst 3, 0, 0, []), (.iaload, 1075, 0, [])] (pc1 := 54) (ls1 := [some (vm_r 96), some (vm_i v1), some (vm_i v2)]) (st1 := [vm_i (m1 100 3), vm_i v1, vm_r 96]) (m1 := m1) (ob := ((((true && vm_is 96 11) && true) && vm_ar 100 100 1075) && decide ((0 : Int) ≤ 3 ∧ (3 : Int) < 1075))) (by decide +kernel) rfl (vm_t (vm_u (vm_u (vm_u rfl (by decide +kernel)) rfl) (by decide +kernel)) (by decide)) ?_
        refine vm_gc (g := 176) (na := 3) (av := [vm_r 96, vm_i v1, vm_i (m1 100 3)]) (rest := []) (i := (.invokevirtual 0, 176, 3, [])) (len := 3) (by decide +kernel) rfl rfl rfl (by decide +kernel) (by decide +kernel) rfl rfl (vm_u (vm_okh_v (c := 11) (by decide +kernel) (by decide +kernel)) (show vm_okn 176 3 0 0 0 3 = true by decide +kernel)) ?_
        refine vm_G.mono h ?_
        rintro _ m3 ⟨z3, rfl, h⟩
        show vm_G 252 57 [some (vm_r 96), some (vm_i v1), some (vm_i v2)] [vm_i z3] m3 _
        obtain ⟨o7_0, h⟩ := h
        refine vm_gp [(.aload 0, 0, 0, []), (.getfield 2, 11, 7, [(100, 0)]), (.iconst 5, 0, 0, []), (.iaload, 1075, 0, []), (.imul, 0, 0, [])] (pc1 := 64) (ls1 := [some (vm_r 96), some (vm_i v1), some (vm_i v2)]) (st1 := [vm_i (z3 * (m3 100 5))]) (m1 := m3) (ob := (((((true && vm_is 96 11) && true) && vm_ar 100 100 1075) && decide ((0 : Int) ≤ 5 ∧ (5 : Int) < 1075)) && decide (vm_32 (z3 * (m3 100 5))))) (by decide +kernel) rfl (vm_t (vm_t (vm_u (vm_u (vm_u rfl (by decide +kernel)) rfl) (by decide +kernel)) (by decide)) o7_0) ?_
        exact vm_gr (r := some (vm_i (z3 * (m3 100 5)))) (i := (.ireturn, 1, 0, [])) (len := 1) (by decide +kernel) rfl rfl rfl ⟨_, rfl, h⟩
      · replace h := h.2 c3
        by_cases c4 : v2 = 2
        · replace h := h.1 c4
          refine vm_gj1 (i := (.tableswitch 0 0 0 #[], 77, 0, [(0, 40), (1, 46), (2, 65), (3, 71)])) (len := 29) (t := 65) (st1 := []) (by decide +kernel) rfl (by rw [c4]; rfl) ?_
          refine vm_gp [(.aload 0, 0, 0, []), (.iload 1, 0, 0, [])] (pc1 := 67) (ls1 := [some (vm_r 96), some (vm_i v1), some (vm_i v2)]) (st1 := [vm_i v1, vm_r 96]) (m1 := m1) (ob := true) (by decide +kernel) rfl rfl ?_
          refine vm_gc (g := 250) (na := 2) (av := [vm_r 96, vm_i v1]) (rest := []) (i := (.invokevirtual 0, 250, 2, [])) (len := 3) (by decide +kernel) rfl rfl rfl (by decide +kernel) (by decide +kernel) rfl rfl (vm_u (vm_okh_v (c := 11) (by decide +kernel) (by decide +kernel)) (show vm_okn 250 2 0 0 0 2 = true by decide +kernel)) ?_
          refine vm_G.mono h ?_
          rintro _ m4 ⟨z4, rfl, h⟩
          show vm_G 252 70 [some (vm_r 96), some (vm_i v1), some (vm_i v2)] [vm_i z4] m4 _
          exact vm_gr (r := some (vm_i z4)) (i := (.ireturn, 1, 0, [])) (len := 1) (by decide +kernel) rfl rfl rfl ⟨_, rfl, h⟩
        · replace h := h.2 c4
          by_cases c5 : v2 = 3
          · replace h := h.1 c5
            refine vm_gj1 (i := (.tableswitch 0 0 0 #[], 77, 0, [(0, 40), (1, 46), (2, 65), (3, 71)])) (len := 29) (t := 71) (st1 := []) (by decide +kernel) rfl (by rw [c5]; rfl) ?_
            refine vm_gp [(.aload 0, 0, 0, []), (.iload 1, 0, 0, [])] (pc1 := 73) (ls1 := [some (vm_r 96), some (vm_i v1), some (vm_i v2)]) (st1 := [vm_i v1, vm_r 96]) (m1 := m1) (ob := true) (by decide +kernel) rfl rfl ?_
            refine vm_gc (g := 251) (na := 2) (av := [vm_r 96, vm_i v1]) (rest := []) (i := (.invokevirtual 0, 251, 2, [])) (len := 3) (by decide +kernel) rfl rfl rfl (by decide +kernel) (by decide +kernel) rfl rfl (vm_u (vm_okh_v (c := 11) (by decide +kernel) (by decide +kernel)) (show vm_okn 251 2 0 0 0 2 = true by decide +kernel)) ?_
            refine vm_G.mono h ?_
            rintro _ m5 ⟨z5, rfl, h⟩
            show vm_G 252 76 [some (vm_r 96), some (vm_i v1), some (vm_i v2)] [vm_i z5] m5 _
            exact vm_gr (r := some (vm_i z5)) (i := (.ireturn, 1, 0, [])) (len := 1) (by decide +kernel) rfl rfl rfl ⟨_, rfl, h⟩
          · replace h := h.2 c5
            refine vm_gj1 (i := (.tableswitch 0 0 0 #[], 77, 0, [(0, 40), (1, 46), (2, 65), (3, 71)])) (len := 29) (t := 77) (st1 := []) (by decide +kernel) rfl (by simp only [vm_jmp, vm_sw, cond, decide_eq_false c2, decide_eq_false c3, decide_eq_false c4, decide_eq_false c5]) ?_
            refine vm_gp [(.iconst (-1), 0, 0, [])] (pc1 := 78) (ls1 := [some (vm_r 96), some (vm_i v1), some (vm_i v2)]) (st1 := [vm_i (-1)]) (m1 := m1) (ob := true) (by decide +kernel) rfl rfl ?_
            exact vm_gr (r := some (vm_i (-1))) (i := (.ireturn, 1, 0, [])) (len := 1) (by decide +kernel) rfl rfl rfl ⟨_, rfl, h⟩
  · replace h := h.2 c1
    refine vm_gp [(.iconst (-1), 0, 0, [])] (pc1 := 9) (ls1 := [some (vm_r 96), some (vm_i v1), some (vm_i v2)]) (st1 := [vm_i (-1)]) (m1 := m1) (ob := true) (by decide +kernel) rfl rfl ?_
    exact vm_gr (r := some (vm_i (-1))) (i := (.ireturn, 1, 0, [])) (len := 1) (by decide +kernel) rfl rfl rfl ⟨_, rfl, h⟩
abbrev ku11_spelled_0 (v1 : Int) (v2 : Int) (m : vm_M) (Q : Int → vm_M → Prop) : Prop := vm_G 253 0 [some (vm_r 96), some (vm_i v1), some (vm_i v2)] [] m (vm_qi Q)
set_option maxRecDepth 20000 in
theorem ru11_spelled_0 {v1 : Int} {v2 : Int} {m : vm_M} {Q : Int → vm_M → Prop}  (h :
    (vm_C 169 [vm_r 96, vm_i v1] m (vm_qi (fun z1 m1 =>
      ((z1 = 0 →
        Q (-1) m1) ∧ (¬ z1 = 0 →
        ((0 ≤ v2 →
          (vm_C 167 [vm_r 96, vm_i v1] m1 (vm_qi (fun z2 m2 =>
            ((z2 ≤ v2 →
              Q (-2) m2) ∧ (¬ z2 ≤ v2 →
              (vm_C 168 [vm_r 96, vm_i v1, vm_i v2] m2 (vm_qi (fun z3 m3 =>
                Q z3 m3))))))))) ∧ (¬ 0 ≤ v2 →
          Q (-1) m1)))))))) : vm_C 253 [vm_r 96, vm_i v1, vm_i v2] m (vm_qi Q) := by
  show vm_G 253 0 [some (vm_r 96), some (vm_i v1), some (vm_i v2)] [] m (vm_qi Q)
  refine vm_gp [(.aload 0, 0, 0, []), (.iload 1, 0, 0, [])] (pc1 := 2) (ls1 := [some (vm_r 96), some (vm_i v1), some (vm_i v2)]) (st1 := [vm_i v1, vm_r 96]) (m1 := m) (ob := true) (by decide +kernel) rfl rfl ?_
  refine vm_gc (g := 169) (na := 2) (av := [vm_r 96, vm_i v1]) (rest := []) (i := (.invokevirtual 0, 169, 2, [])) (len := 3) (by decide +kernel) rfl rfl rfl (by decide +kernel) (by decide +kernel) rfl rfl (vm_u (vm_okh_v (c := 11) (by decide +kernel) (by decide +kernel)) (show vm_okn 169 2 0 0 0 2 = true by decide +kernel)) ?_
  refine vm_G.mono h ?_
  rintro _ m1 ⟨z1, rfl, h⟩
  show vm_G 253 5 [some (vm_r 96), some (vm_i v1), some (vm_i v2)] [vm_i z1] m1 _
  refine vm_gj (c := z1 = 0) (t := 12) (e := 8) (i := (.ifCond .eq 0, 12, 0, [])) (len := 3) (st1 := []) (by decide +kernel) rfl rfl (fun c1 => ?_) (fun c1 => ?_)
  · replace h := h.1 c1
    refine vm_gp [(.iconst (-1), 0, 0, [])] (pc1 := 13) (ls1 := [some (vm_r 96), some (vm_i v1), some (vm_i v2)]) (st1 := [vm_i (-1)]) (m1 := m1) (ob := true) (by decide +kernel) rfl rfl ?_
    exact vm_gr (r := some (vm_i (-1))) (i := (.ireturn, 1, 0, [])) (len := 1) (by decide +kernel) rfl rfl rfl ⟨_, rfl, h⟩
  · replace h := h.2 c1
    refine vm_gp [(.iload 2, 0, 0, [])] (pc1 := 9) (ls1 := [some (vm_r 96), some (vm_i v1), some (vm_i v2)]) (st1 := [vm_i v2]) (m1 := m1) (ob := true) (by decide +kernel) rfl rfl ?_
    refine vm_gj (c := 0 ≤ v2) (t := 14) (e := 12) (i := (.ifCond .ge 0, 14, 0, [])) (len := 3) (st1 := []) (by decide +kernel) rfl rfl (fun c2 => ?_) (fun c2 => ?_)
    · replace h := h.1 c2
      refine vm_gp [(.iload 2, 0, 0, []), (.aload 0, 0, 0, []), (.iload 1, 0, 0, [])] (pc1 := 17) (ls1 := [some (vm_r 96), some (vm_i v1), some (vm_i v2)]) (st1 := [vm_i v1, vm_r 96, vm_i v2]) (m1 := m1) (ob := true) (by decide +kernel) rfl rfl ?_
      refine vm_gc (g := 167) (na := 2) (av := [vm_r 96, vm_i v1]) (rest := [vm_i v2]) (i := (.invokevirtual 0, 167, 2, [])) (len := 3) (by decide +kernel) rfl rfl rfl (by decide +kernel) (by decide +kernel) rfl rfl (vm_u (vm_okh_v (c := 11) (by decide +kernel) (by decide +kernel)) (show vm_okn 167 2 1 0 0 2 = true by decide +kernel)) ?_
      refine vm_G.mono h ?_
      rintro _ m2 ⟨z2, rfl, h⟩
      show vm_G 253 20 [some (vm_r 96), some (vm_i v1), some (vm_i v2)] [vm_i z2, vm_i v2] m2 _
      refine vm_gj (c := z2 ≤ v2) (t := 32) (e := 23) (i := (.if_icmp .ge 0, 32, 0, [])) (len := 3) (st1 := []) (by decide +kernel) rfl rfl (fun c3 => ?_) (fun c3 => ?_)
      · replace h := h.1 c3
        refine vm_gp [(.iconst (-2), 0, 0, [])] (pc1 := 34) (ls1 := [some (vm_r 96), some (vm_i v1), some (vm_i v2)]) (st1 := [vm_i (-2)]) (m1 := m2) (ob := true) (by decide +kernel) rfl rfl ?_
        exact vm_gr (r := some (vm_i (-2))) (i := (.ireturn, 1, 0, [])) (len := 1) (by decide +kernel) rfl rfl rfl ⟨_, rfl, h⟩
      · replace h := h.2 c3
        refine vm_gp [(.aload 0, 0, 0, []), (.iload 1, 0, 0, []), (.iload 2, 0, 0, [])] (pc1 := 26) (ls1 := [some (vm_r 96), some (vm_i v1), some (vm_i v2)]) (st1 := [vm_i v2, vm_i v1, vm_r 96]) (m1 := m2) (ob := true) (by decide +kernel) rfl rfl ?_
        refine vm_gc (g := 168) (na := 3) (av := [vm_r 96, vm_i v1, vm_i v2]) (rest := []) (i := (.invokevirtual 0, 168, 3, [])) (len := 3) (by decide +kernel) rfl rfl rfl (by decide +kernel) (by decide +kernel) rfl rfl (vm_u (vm_okh_v (c := 11) (by decide +kernel) (by decide +kernel)) (show vm_okn 168 3 0 0 0 3 = true by decide +kernel)) ?_
        refine vm_G.mono h ?_
        rintro _ m3 ⟨z3, rfl, h⟩
        show vm_G 253 29 [some (vm_r 96), some (vm_i v1), some (vm_i v2)] [vm_i z3] m3 _
        refine vm_gp [(.goto 0, 34, 0, [])] (pc1 := 34) (ls1 := [some (vm_r 96), some (vm_i v1), some (vm_i v2)]) (st1 := [vm_i z3]) (m1 := m3) (ob := true) (by decide +kernel) rfl rfl ?_
        exact vm_gr (r := some (vm_i z3)) (i := (.ireturn, 1, 0, [])) (len := 1) (by decide +kernel) rfl rfl rfl ⟨_, rfl, h⟩
    · replace h := h.2 c2
      refine vm_gp [(.iconst (-1), 0, 0, [])] (pc1 := 13) (ls1 := [some (vm_r 96), some (vm_i v1), some (vm_i v2)]) (st1 := [vm_i (-1)]) (m1 := m1) (ob := true) (by decide +kernel) rfl rfl ?_
      exact vm_gr (r := some (vm_i (-1))) (i := (.ireturn, 1, 0, [])) (len := 1) (by decide +kernel) rfl rfl rfl ⟨_, rfl, h⟩
abbrev ku11_longest_0  (m : vm_M) (Q : Int → vm_M → Prop) : Prop := vm_G 254 0 [some (vm_r 96), none, none] [] m (vm_qi Q)
abbrev ku11_longest_9 (v1 : Int) (v2 : Int) (m : vm_M) (Q : Int → vm_M → Prop) : Prop := vm_G 254 9 [some (vm_r 96), some (vm_i v1), some (vm_i v2)] [] m (vm_qi Q)
set_option maxRecDepth 20000 in
theorem ru11_longest_0  {m : vm_M} {Q : Int → vm_M → Prop}  (h :
    (vm_C 177 [vm_r 96] m (vm_qv (fun m1 =>
      ku11_longest_9 (-2) 0 m1 Q)))) : vm_C 254 [vm_r 96] m (vm_qi Q) := by
  show vm_G 254 0 [some (vm_r 96), none, none] [] m (vm_qi Q)
  refine vm_gp [(.aload 0, 0, 0, [])] (pc1 := 1) (ls1 := [some (vm_r 96), none, none]) (st1 := [vm_r 96]) (m1 := m) (ob := true) (by decide +kernel) rfl rfl ?_
  refine vm_gc (g := 177) (na := 1) (av := [vm_r 96]) (rest := []) (i := (.invokevirtual 0, 177, 1, [])) (len := 3) (by decide +kernel) rfl rfl rfl (by decide +kernel) (by decide +kernel) rfl rfl (vm_u (vm_okh_v (c := 11) (by decide +kernel) (by decide +kernel)) (show vm_okn 177 1 0 0 0 1 = true by decide +kernel)) ?_
  refine vm_G.mono h ?_
  rintro _ m1 ⟨rfl, h⟩
  show vm_G 254 4 [some (vm_r 96), none, none] [] m1 _
  refine vm_gp [(.iconst (-2), 0, 0, []), (.istore 1, 0, 0, []), (.iconst 0, 0, 0, []), (.istore 2, 0, 0, [])] (pc1 := 9) (ls1 := [some (vm_r 96), some (vm_i (-2)), some (vm_i 0)]) (st1 := []) (m1 := m1) (ob := true) (by decide +kernel) rfl rfl ?_
  exact h
set_option maxRecDepth 20000 in
theorem ru11_longest_9 {v1 : Int} {v2 : Int} {m : vm_M} {Q : Int → vm_M → Prop}  (h :
    (((m 100 8) ≤ v2 →
      Q v1 m) ∧ (¬ (m 100 8) ≤ v2 →
      ((v1 < 0 →
        ((vm_32 (v2 + 1))) ∧
        ku11_longest_9 v2 (v2 + 1) m Q) ∧ (¬ v1 < 0 →
        ((0 ≤ v2 ∧ v2 < 30) ∧ (0 ≤ v1 ∧ v1 < 30)) ∧
        (((m 104 v2) ≤ (m 104 v1) →
          ((vm_32 (v2 + 1))) ∧
          ku11_longest_9 v1 (v2 + 1) m Q) ∧ (¬ (m 104 v2) ≤ (m 104 v1) →
          ((vm_32 (v2 + 1))) ∧
          ku11_longest_9 v2 (v2 + 1) m Q))))))) : ku11_longest_9 v1 v2 m Q := by
  show vm_G 254 9 [some (vm_r 96), some (vm_i v1), some (vm_i v2)] [] m (vm_qi Q)
  refine vm_gp [(.iload 2, 0, 0, []), (.aload 0, 0, 0, []), (.getfield 2, 11, 7, [(100, 0)]), (.iconst 8, 0, 0, []), (.iaload, 1075, 0, [])] (pc1 := 17) (ls1 := [some (vm_r 96), some (vm_i v1), some (vm_i v2)]) (st1 := [vm_i (m 100 8), vm_i v2]) (m1 := m) (ob := ((((true && vm_is 96 11) && true) && vm_ar 100 100 1075) && decide ((0 : Int) ≤ 8 ∧ (8 : Int) < 1075))) (by decide +kernel) rfl (vm_t (vm_u (vm_u (vm_u rfl (by decide +kernel)) rfl) (by decide +kernel)) (by decide)) ?_
  refine vm_gj (c := (m 100 8) ≤ v2) (t := 51) (e := 20) (i := (.if_icmp .ge 0, 51, 0, [])) (len := 3) (st1 := []) (by decide +kernel) rfl rfl (fun c1 => ?_) (fun c1 => ?_)
  · replace h := h.1 c1
    refine vm_gp [(.iload 1, 0, 0, [])] (pc1 := 52) (ls1 := [some (vm_r 96), some (vm_i v1), some (vm_i v2)]) (st1 := [vm_i v1]) (m1 := m) (ob := true) (by decide +kernel) rfl rfl ?_
    exact vm_gr (r := some (vm_i v1)) (i := (.ireturn, 1, 0, [])) (len := 1) (by decide +kernel) rfl rfl rfl ⟨_, rfl, h⟩
  · replace h := h.2 c1
    refine vm_gp [(.iload 1, 0, 0, [])] (pc1 := 21) (ls1 := [some (vm_r 96), some (vm_i v1), some (vm_i v2)]) (st1 := [vm_i v1]) (m1 := m) (ob := true) (by decide +kernel) rfl rfl ?_
    refine vm_gj (c := v1 < 0) (t := 39) (e := 24) (i := (.ifCond .lt 0, 39, 0, [])) (len := 3) (st1 := []) (by decide +kernel) rfl rfl (fun c2 => ?_) (fun c2 => ?_)
    · replace h := h.1 c2
      obtain ⟨o4_0, h⟩ := h
      refine vm_gp [(.iload 2, 0, 0, []), (.goto 0, 44, 0, []), (.istore 1, 0, 0, []), (.iinc 2 1, 0, 0, []), (.goto 0, 9, 0, [])] (pc1 := 9) (ls1 := [some (vm_r 96), some (vm_i v2), some (vm_i (v2 + 1))]) (st1 := []) (m1 := m) (ob := (true && decide (vm_32 (v2 + 1)))) (by decide +kernel) rfl (vm_t rfl o4_0) ?_
      exact h
    · replace h := h.2 c2
      obtain ⟨⟨o5_0, o5_1⟩, h⟩ := h
      refine vm_gp [(.aload 0, 0, 0, []), (.getfield 2, 11, 12, [(104, 0)]), (.iload 2, 0, 0, []), (.iaload, 30, 0, []), (.aload 0, 0, 0, []), (.getfield 2, 11, 12, [(104, 0)]), (.iload 1, 0, 0, []), (.iaload, 30, 0, [])] (pc1 := 36) (ls1 := [some (vm_r 96), some (vm_i v1), some (vm_i v2)]) (st1 := [vm_i (m 104 v1), vm_i (m 104 v2)]) (m1 := m) (ob := ((((((((true && vm_is 96 11) && true) && vm_ar 104 100 30) && decide (0 ≤ v2 ∧ v2 < 30)) && vm_is 96 11) && true) && vm_ar 104 100 30) && decide (0 ≤ v1 ∧ v1 < 30))) (by decide +kernel) rfl (vm_t (vm_u (vm_u (vm_u (vm_t (vm_u (vm_u (vm_u rfl (by decide +kernel)) rfl) (by decide +kernel)) o5_0) (by decide +kernel)) rfl) (by decide +kernel)) o5_1) ?_
      refine vm_gj (c := (m 104 v2) ≤ (m 104 v1)) (t := 43) (e := 39) (i := (.if_icmp .le 0, 43, 0, [])) (len := 3) (st1 := []) (by decide +kernel) rfl rfl (fun c3 => ?_) (fun c3 => ?_)
      · replace h := h.1 c3
        obtain ⟨o6_0, h⟩ := h
        refine vm_gp [(.iload 1, 0, 0, []), (.istore 1, 0, 0, []), (.iinc 2 1, 0, 0, []), (.goto 0, 9, 0, [])] (pc1 := 9) (ls1 := [some (vm_r 96), some (vm_i v1), some (vm_i (v2 + 1))]) (st1 := []) (m1 := m) (ob := (true && decide (vm_32 (v2 + 1)))) (by decide +kernel) rfl (vm_t rfl o6_0) ?_
        exact h
      · replace h := h.2 c3
        obtain ⟨o7_0, h⟩ := h
        refine vm_gp [(.iload 2, 0, 0, []), (.goto 0, 44, 0, []), (.istore 1, 0, 0, []), (.iinc 2 1, 0, 0, []), (.goto 0, 9, 0, [])] (pc1 := 9) (ls1 := [some (vm_r 96), some (vm_i v2), some (vm_i (v2 + 1))]) (st1 := []) (m1 := m) (ob := (true && decide (vm_32 (v2 + 1)))) (by decide +kernel) rfl (vm_t rfl o7_0) ?_
        exact h
abbrev ku11_row_0 (v1 : Int) (v2 : Int) (m : vm_M) (Q : Int → vm_M → Prop) : Prop := vm_G 255 0 [some (vm_r 96), some (vm_i v1), some (vm_i v2), none] [] m (vm_qi Q)
set_option maxRecDepth 20000 in
theorem ru11_row_0 {v1 : Int} {v2 : Int} {m : vm_M} {Q : Int → vm_M → Prop}  (h :
    (vm_C 196 [vm_r 96, vm_i v1] m (vm_qi (fun z1 m1 =>
      ((¬ z1 = 0 →
        ((vm_32 (v1 + 1)) ∧ (0 ≤ (v1 + 1) ∧ (v1 + 1) < 14) ∧ (0 ≤ v1 ∧ v1 < 14) ∧ (vm_32 ((m1 105 (v1 + 1)) - (m1 105 v1)))) ∧
        ((v2 = 0 →
          ((0 ≤ v1 ∧ v1 < 14)) ∧
          Q (m1 105 v1) m1) ∧ (¬ v2 = 0 →
          ((v2 = 1 →
            Q ((m1 105 (v1 + 1)) - (m1 105 v1)) m1) ∧ (¬ v2 = 1 →
            ((v2 = 2 →
              Q (m1 96 22) m1) ∧ (¬ v2 = 2 →
              ((v2 = 3 →
                Q (m1 96 17) m1) ∧ (¬ v2 = 3 →
                ((v2 = 4 →
                  Q (m1 96 18) m1) ∧ (¬ v2 = 4 →
                  ((v2 = 5 →
                    Q (m1 96 21) m1) ∧ (¬ v2 = 5 →
                    ((v2 = 6 →
                      (vm_C 192 [vm_r 96, vm_i (m1 96 18)] m1 (vm_qi (fun z2 m2 =>
                        Q z2 m2)))) ∧ (¬ v2 = 6 →
                      ((v2 = 7 →
                        ((¬ ((m1 105 (v1 + 1)) - (m1 105 v1)) = 1 →
                          Q (m1 96 19) m1) ∧ (¬ ¬ ((m1 105 (v1 + 1)) - (m1 105 v1)) = 1 →
                          Q (-2) m1))) ∧ (¬ v2 = 7 →
                        ((v2 = 8 →
                          ((¬ ((m1 105 (v1 + 1)) - (m1 105 v1)) = 1 →
                            (((m1 96 20) ≤ 0 →
                              ((vm_32 ((m1 96 19) + 0))) ∧
                              Q ((m1 96 19) + 0) m1) ∧ (¬ (m1 96 20) ≤ 0 →
                              ((vm_32 ((m1 96 19) + 1))) ∧
                              Q ((m1 96 19) + 1) m1))) ∧ (¬ ¬ ((m1 105 (v1 + 1)) - (m1 105 v1)) = 1 →
                            Q (-2) m1))) ∧ (¬ v2 = 8 →
                          Q (-1) m1))))))))))))))))))) ∧ (¬ ¬ z1 = 0 →
        Q (-1) m1)))))) : vm_C 255 [vm_r 96, vm_i v1, vm_i v2] m (vm_qi Q) := by
  show vm_G 255 0 [some (vm_r 96), some (vm_i v1), some (vm_i v2), none] [] m (vm_qi Q)
  refine vm_gp [(.aload 0, 0, 0, []), (.iload 1, 0, 0, [])] (pc1 := 2) (ls1 := [some (vm_r 96), some (vm_i v1), some (vm_i v2), none]) (st1 := [vm_i v1, vm_r 96]) (m1 := m) (ob := true) (by decide +kernel) rfl rfl ?_
  refine vm_gc (g := 196) (na := 2) (av := [vm_r 96, vm_i v1]) (rest := []) (i := (.invokevirtual 0, 196, 2, [])) (len := 3) (by decide +kernel) rfl rfl rfl (by decide +kernel) (by decide +kernel) rfl rfl (vm_u (vm_okh_v (c := 11) (by decide +kernel) (by decide +kernel)) (show vm_okn 196 2 0 0 0 2 = true by decide +kernel)) ?_
  refine vm_G.mono h ?_
  rintro _ m1 ⟨z1, rfl, h⟩
  show vm_G 255 5 [some (vm_r 96), some (vm_i v1), some (vm_i v2), none] [vm_i z1] m1 _
  refine vm_gj (c := ¬ z1 = 0) (t := 10) (e := 8) (i := (.ifCond .ne 0, 10, 0, [])) (len := 3) (st1 := []) (by decide +kernel) rfl rfl (fun c1 => ?_) (fun c1 => ?_)
  · replace h := h.1 c1
    obtain ⟨⟨o3_0, o3_1, o3_2, o3_3⟩, h⟩ := h
    refine vm_gp [(.aload 0, 0, 0, []), (.getfield 2, 11, 13, [(105, 0)]), (.iload 1, 0, 0, []), (.iconst 1, 0, 0, []), (.iadd, 0, 0, []), (.iaload, 14, 0, []), (.aload 0, 0, 0, []), (.getfield 2, 11, 13, [(105, 0)]), (.iload 1, 0, 0, []), (.iaload, 14, 0, []), (.isub, 0, 0, []), (.istore 3, 0, 0, []), (.iload 2, 0, 0, [])] (pc1 := 27) (ls1 := [some (vm_r 96), some (vm_i v1), some (vm_i v2), some (vm_i ((m1 105 (v1 + 1)) - (m1 105 v1)))]) (st1 := [vm_i v2]) (m1 := m1) (ob := ((((((((((true && vm_is 96 11) && true) && decide (vm_32 (v1 + 1))) && vm_ar 105 100 14) && decide (0 ≤ (v1 + 1) ∧ (v1 + 1) < 14)) && vm_is 96 11) && true) && vm_ar 105 100 14) && decide (0 ≤ v1 ∧ v1 < 14)) && decide (vm_32 ((m1 105 (v1 + 1)) - (m1 105 v1))))) (by decide +kernel) rfl (vm_t (vm_t (vm_u (vm_u (vm_u (vm_t (vm_u (vm_t (vm_u (vm_u rfl (by decide +kernel)) rfl) o3_0) (by decide +kernel)) o3_1) (by decide +kernel)) rfl) (by decide +kernel)) o3_2) o3_3) ?_
    by_cases c2 : v2 = 0
    · replace h := h.1 c2
      refine vm_gj1 (i := (.tableswitch 0 0 0 #[], 157, 0, [(0, 76), (1, 83), (2, 85), (3, 90), (4, 95), (5, 100), (6, 105), (7, 114), (8, 129)])) (len := 49) (t := 76) (st1 := []) (by decide +kernel) rfl (by rw [c2]; rfl) ?_
      obtain ⟨o4_0, h⟩ := h
      refine vm_gp [(.aload 0, 0, 0, []), (.getfield 2, 11, 13, [(105, 0)]), (.iload 1, 0, 0, []), (.iaload, 14, 0, [])] (pc1 := 82) (ls1 := [some (vm_r 96), some (vm_i v1), some (vm_i v2), some (vm_i ((m1 105 (v1 + 1)) - (m1 105 v1)))]) (st1 := [vm_i (m1 105 v1)]) (m1 := m1) (ob := ((((true && vm_is 96 11) && true) && vm_ar 105 100 14) && decide (0 ≤ v1 ∧ v1 < 14))) (by decide +kernel) rfl (vm_t (vm_u (vm_u (vm_u rfl (by decide +kernel)) rfl) (by decide +kernel)) o4_0) ?_
      exact vm_gr (r := some (vm_i (m1 105 v1))) (i := (.ireturn, 1, 0, [])) (len := 1) (by decide +kernel) rfl rfl rfl ⟨_, rfl, h⟩
    · replace h := h.2 c2
      by_cases c3 : v2 = 1
      · replace h := h.1 c3
        refine vm_gj1 (i := (.tableswitch 0 0 0 #[], 157, 0, [(0, 76), (1, 83), (2, 85), (3, 90), (4, 95), (5, 100), (6, 105), (7, 114), (8, 129)])) (len := 49) (t := 83) (st1 := []) (by decide +kernel) rfl (by rw [c3]; rfl) ?_
        refine vm_gp [(.iload 3, 0, 0, [])] (pc1 := 84) (ls1 := [some (vm_r 96), some (vm_i v1), some (vm_i v2), some (vm_i ((m1 105 (v1 + 1)) - (m1 105 v1)))]) (st1 := [vm_i ((m1 105 (v1 + 1)) - (m1 105 v1))]) (m1 := m1) (ob := true) (by decide +kernel) rfl rfl ?_
        exact vm_gr (r := some (vm_i ((m1 105 (v1 + 1)) - (m1 105 v1)))) (i := (.ireturn, 1, 0, [])) (len := 1) (by decide +kernel) rfl rfl rfl ⟨_, rfl, h⟩
      · replace h := h.2 c3
        by_cases c4 : v2 = 2
        · replace h := h.1 c4
          refine vm_gj1 (i := (.tableswitch 0 0 0 #[], 157, 0, [(0, 76), (1, 83), (2, 85), (3, 90), (4, 95), (5, 100), (6, 105), (7, 114), (8, 129)])) (len := 49) (t := 85) (st1 := []) (by decide +kernel) rfl (by rw [c4]; rfl) ?_
          refine vm_gp [(.aload 0, 0, 0, []), (.getfield 0, 11, 22, [])] (pc1 := 89) (ls1 := [some (vm_r 96), some (vm_i v1), some (vm_i v2), some (vm_i ((m1 105 (v1 + 1)) - (m1 105 v1)))]) (st1 := [vm_i (m1 96 22)]) (m1 := m1) (ob := (true && vm_is 96 11)) (by decide +kernel) rfl (vm_u rfl (by decide +kernel)) ?_
          exact vm_gr (r := some (vm_i (m1 96 22))) (i := (.ireturn, 1, 0, [])) (len := 1) (by decide +kernel) rfl rfl rfl ⟨_, rfl, h⟩
        · replace h := h.2 c4
          by_cases c5 : v2 = 3
          · replace h := h.1 c5
            refine vm_gj1 (i := (.tableswitch 0 0 0 #[], 157, 0, [(0, 76), (1, 83), (2, 85), (3, 90), (4, 95), (5, 100), (6, 105), (7, 114), (8, 129)])) (len := 49) (t := 90) (st1 := []) (by decide +kernel) rfl (by rw [c5]; rfl) ?_
            refine vm_gp [(.aload 0, 0, 0, []), (.getfield 0, 11, 17, [])] (pc1 := 94) (ls1 := [some (vm_r 96), some (vm_i v1), some (vm_i v2), some (vm_i ((m1 105 (v1 + 1)) - (m1 105 v1)))]) (st1 := [vm_i (m1 96 17)]) (m1 := m1) (ob := (true && vm_is 96 11)) (by decide +kernel) rfl (vm_u rfl (by decide +kernel)) ?_
            exact vm_gr (r := some (vm_i (m1 96 17))) (i := (.ireturn, 1, 0, [])) (len := 1) (by decide +kernel) rfl rfl rfl ⟨_, rfl, h⟩
          · replace h := h.2 c5
            by_cases c6 : v2 = 4
            · replace h := h.1 c6
              refine vm_gj1 (i := (.tableswitch 0 0 0 #[], 157, 0, [(0, 76), (1, 83), (2, 85), (3, 90), (4, 95), (5, 100), (6, 105), (7, 114), (8, 129)])) (len := 49) (t := 95) (st1 := []) (by decide +kernel) rfl (by rw [c6]; rfl) ?_
              refine vm_gp [(.aload 0, 0, 0, []), (.getfield 0, 11, 18, [])] (pc1 := 99) (ls1 := [some (vm_r 96), some (vm_i v1), some (vm_i v2), some (vm_i ((m1 105 (v1 + 1)) - (m1 105 v1)))]) (st1 := [vm_i (m1 96 18)]) (m1 := m1) (ob := (true && vm_is 96 11)) (by decide +kernel) rfl (vm_u rfl (by decide +kernel)) ?_
              exact vm_gr (r := some (vm_i (m1 96 18))) (i := (.ireturn, 1, 0, [])) (len := 1) (by decide +kernel) rfl rfl rfl ⟨_, rfl, h⟩
            · replace h := h.2 c6
              by_cases c7 : v2 = 5
              · replace h := h.1 c7
                refine vm_gj1 (i := (.tableswitch 0 0 0 #[], 157, 0, [(0, 76), (1, 83), (2, 85), (3, 90), (4, 95), (5, 100), (6, 105), (7, 114), (8, 129)])) (len := 49) (t := 100) (st1 := []) (by decide +kernel) rfl (by rw [c7]; rfl) ?_
                refine vm_gp [(.aload 0, 0, 0, []), (.getfield 0, 11, 21, [])] (pc1 := 104) (ls1 := [some (vm_r 96), some (vm_i v1), some (vm_i v2), some (vm_i ((m1 105 (v1 + 1)) - (m1 105 v1)))]) (st1 := [vm_i (m1 96 21)]) (m1 := m1) (ob := (true && vm_is 96 11)) (by decide +kernel) rfl (vm_u rfl (by decide +kernel)) ?_
                exact vm_gr (r := some (vm_i (m1 96 21))) (i := (.ireturn, 1, 0, [])) (len := 1) (by decide +kernel) rfl rfl rfl ⟨_, rfl, h⟩
              · replace h := h.2 c7
                by_cases c8 : v2 = 6
                · replace h := h.1 c8
                  refine vm_gj1 (i := (.tableswitch 0 0 0 #[], 157, 0, [(0, 76), (1, 83), (2, 85), (3, 90), (4, 95), (5, 100), (6, 105), (7, 114), (8, 129)])) (len := 49) (t := 105) (st1 := []) (by decide +kernel) rfl (by rw [c8]; rfl) ?_
                  refine vm_gp [(.aload 0, 0, 0, []), (.aload 0, 0, 0, []), (.getfield 0, 11, 18, [])] (pc1 := 110) (ls1 := [some (vm_r 96), some (vm_i v1), some (vm_i v2), some (vm_i ((m1 105 (v1 + 1)) - (m1 105 v1)))]) (st1 := [vm_i (m1 96 18), vm_r 96]) (m1 := m1) (ob := (true && vm_is 96 11)) (by decide +kernel) rfl (vm_u rfl (by decide +kernel)) ?_
                  refine vm_gc (g := 192) (na := 2) (av := [vm_r 96, vm_i (m1 96 18)]) (rest := []) (i := (.invokevirtual 0, 192, 2, [])) (len := 3) (by decide +kernel) rfl rfl rfl (by decide +kernel) (by decide +kernel) rfl rfl (vm_u (vm_okh_v (c := 11) (by decide +kernel) (by decide +kernel)) (show vm_okn 192 2 0 0 0 2 = true by decide +kernel)) ?_
                  refine vm_G.mono h ?_
                  rintro _ m2 ⟨z2, rfl, h⟩
                  show vm_G 255 113 [some (vm_r 96), some (vm_i v1), some (vm_i v2), some (vm_i ((m1 105 (v1 + 1)) - (m1 105 v1)))] [vm_i z2] m2 _
                  exact vm_gr (r := some (vm_i z2)) (i := (.ireturn, 1, 0, [])) (len := 1) (by decide +kernel) rfl rfl rfl ⟨_, rfl, h⟩
                · replace h := h.2 c8
                  by_cases c9 : v2 = 7
                  · replace h := h.1 c9
                    refine vm_gj1 (i := (.tableswitch 0 0 0 #[], 157, 0, [(0, 76), (1, 83), (2, 85), (3, 90), (4, 95), (5, 100), (6, 105), (7, 114), (8, 129)])) (len := 49) (t := 114) (st1 := []) (by decide +kernel) rfl (by rw [c9]; rfl) ?_
                    refine vm_gp [(.iload 3, 0, 0, []), (.iconst 1, 0, 0, [])] (pc1 := 116) (ls1 := [some (vm_r 96), some (vm_i v1), some (vm_i v2), some (vm_i ((m1 105 (v1 + 1)) - (m1 105 v1)))]) (st1 := [vm_i 1, vm_i ((m1 105 (v1 + 1)) - (m1 105 v1))]) (m1 := m1) (ob := true) (by decide +kernel) rfl rfl ?_
                    refine vm_gj (c := ¬ ((m1 105 (v1 + 1)) - (m1 105 v1)) = 1) (t := 124) (e := 119) (i := (.if_icmp .ne 0, 124, 0, [])) (len := 3) (st1 := []) (by decide +kernel) rfl rfl (fun c10 => ?_) (fun c10 => ?_)
                    · replace h := h.1 c10
                      refine vm_gp [(.aload 0, 0, 0, []), (.getfield 0, 11, 19, [])] (pc1 := 128) (ls1 := [some (vm_r 96), some (vm_i v1), some (vm_i v2), some (vm_i ((m1 105 (v1 + 1)) - (m1 105 v1)))]) (st1 := [vm_i (m1 96 19)]) (m1 := m1) (ob := (true && vm_is 96 11)) (by decide +kernel) rfl (vm_u rfl (by decide +kernel)) ?_
                      exact vm_gr (r := some (vm_i (m1 96 19))) (i := (.ireturn, 1, 0, [])) (len := 1) (by decide +kernel) rfl rfl rfl ⟨_, rfl, h⟩
                    · replace h := h.2 c10
                      refine vm_gp [(.iconst (-2), 0, 0, []), (.goto 0, 128, 0, [])] (pc1 := 128) (ls1 := [some (vm_r 96), some (vm_i v1), some (vm_i v2), some (vm_i ((m1 105 (v1 + 1)) - (m1 105 v1)))]) (st1 := [vm_i (-2)]) (m1 := m1) (ob := true) (by decide +kernel) rfl rfl ?_
                      exact vm_gr (r := some (vm_i (-2))) (i := (.ireturn, 1, 0, [])) (len := 1) (by decide +kernel) rfl rfl rfl ⟨_, rfl, h⟩
                  · replace h := h.2 c9
                    by_cases c11 : v2 = 8
                    · replace h := h.1 c11
                      refine vm_gj1 (i := (.tableswitch 0 0 0 #[], 157, 0, [(0, 76), (1, 83), (2, 85), (3, 90), (4, 95), (5, 100), (6, 105), (7, 114), (8, 129)])) (len := 49) (t := 129) (st1 := []) (by decide +kernel) rfl (by rw [c11]; rfl) ?_
                      refine vm_gp [(.iload 3, 0, 0, []), (.iconst 1, 0, 0, [])] (pc1 := 131) (ls1 := [some (vm_r 96), some (vm_i v1), some (vm_i v2), some (vm_i ((m1 105 (v1 + 1)) - (m1 105 v1)))]) (st1 := [vm_i 1, vm_i ((m1 105 (v1 + 1)) - (m1 105 v1))]) (m1 := m1) (ob := true) (by decide +kernel) rfl rfl ?_
                      refine vm_gj (c := ¬ ((m1 105 (v1 + 1)) - (m1 105 v1)) = 1) (t := 139) (e := 134) (i := (.if_icmp .ne 0, 139, 0, [])) (len := 3) (st1 := []) (by decide +kernel) rfl rfl (fun c12 => ?_) (fun c12 => ?_)
                      · replace h := h.1 c12
                        refine vm_gp [(.aload 0, 0, 0, []), (.getfield 0, 11, 19, []), (.aload 0, 0, 0, []), (.getfield 0, 11, 20, [])] (pc1 := 147) (ls1 := [some (vm_r 96), some (vm_i v1), some (vm_i v2), some (vm_i ((m1 105 (v1 + 1)) - (m1 105 v1)))]) (st1 := [vm_i (m1 96 20), vm_i (m1 96 19)]) (m1 := m1) (ob := ((true && vm_is 96 11) && vm_is 96 11)) (by decide +kernel) rfl (vm_u (vm_u rfl (by decide +kernel)) (by decide +kernel)) ?_
                        refine vm_gj (c := (m1 96 20) ≤ 0) (t := 154) (e := 150) (i := (.ifCond .le 0, 154, 0, [])) (len := 3) (st1 := [vm_i (m1 96 19)]) (by decide +kernel) rfl rfl (fun c13 => ?_) (fun c13 => ?_)
                        · replace h := h.1 c13
                          obtain ⟨o17_0, h⟩ := h
                          refine vm_gp [(.iconst 0, 0, 0, []), (.iadd, 0, 0, [])] (pc1 := 156) (ls1 := [some (vm_r 96), some (vm_i v1), some (vm_i v2), some (vm_i ((m1 105 (v1 + 1)) - (m1 105 v1)))]) (st1 := [vm_i ((m1 96 19) + 0)]) (m1 := m1) (ob := (true && decide (vm_32 ((m1 96 19) + 0)))) (by decide +kernel) rfl (vm_t rfl o17_0) ?_
                          exact vm_gr (r := some (vm_i ((m1 96 19) + 0))) (i := (.ireturn, 1, 0, [])) (len := 1) (by decide +kernel) rfl rfl rfl ⟨_, rfl, h⟩
                        · replace h := h.2 c13
                          obtain ⟨o18_0, h⟩ := h
                          refine vm_gp [(.iconst 1, 0, 0, []), (.goto 0, 155, 0, []), (.iadd, 0, 0, [])] (pc1 := 156) (ls1 := [some (vm_r 96), some (vm_i v1), some (vm_i v2), some (vm_i ((m1 105 (v1 + 1)) - (m1 105 v1)))]) (st1 := [vm_i ((m1 96 19) + 1)]) (m1 := m1) (ob := (true && decide (vm_32 ((m1 96 19) + 1)))) (by decide +kernel) rfl (vm_t rfl o18_0) ?_
                          exact vm_gr (r := some (vm_i ((m1 96 19) + 1))) (i := (.ireturn, 1, 0, [])) (len := 1) (by decide +kernel) rfl rfl rfl ⟨_, rfl, h⟩
                      · replace h := h.2 c12
                        refine vm_gp [(.iconst (-2), 0, 0, []), (.goto 0, 156, 0, [])] (pc1 := 156) (ls1 := [some (vm_r 96), some (vm_i v1), some (vm_i v2), some (vm_i ((m1 105 (v1 + 1)) - (m1 105 v1)))]) (st1 := [vm_i (-2)]) (m1 := m1) (ob := true) (by decide +kernel) rfl rfl ?_
                        exact vm_gr (r := some (vm_i (-2))) (i := (.ireturn, 1, 0, [])) (len := 1) (by decide +kernel) rfl rfl rfl ⟨_, rfl, h⟩
                    · replace h := h.2 c11
                      refine vm_gj1 (i := (.tableswitch 0 0 0 #[], 157, 0, [(0, 76), (1, 83), (2, 85), (3, 90), (4, 95), (5, 100), (6, 105), (7, 114), (8, 129)])) (len := 49) (t := 157) (st1 := []) (by decide +kernel) rfl (by simp only [vm_jmp, vm_sw, cond, decide_eq_false c2, decide_eq_false c3, decide_eq_false c4, decide_eq_false c5, decide_eq_false c6, decide_eq_false c7, decide_eq_false c8, decide_eq_false c9, decide_eq_false c11]) ?_
                      refine vm_gp [(.iconst (-1), 0, 0, [])] (pc1 := 158) (ls1 := [some (vm_r 96), some (vm_i v1), some (vm_i v2), some (vm_i ((m1 105 (v1 + 1)) - (m1 105 v1)))]) (st1 := [vm_i (-1)]) (m1 := m1) (ob := true) (by decide +kernel) rfl rfl ?_
                      exact vm_gr (r := some (vm_i (-1))) (i := (.ireturn, 1, 0, [])) (len := 1) (by decide +kernel) rfl rfl rfl ⟨_, rfl, h⟩
  · replace h := h.2 c1
    refine vm_gp [(.iconst (-1), 0, 0, [])] (pc1 := 9) (ls1 := [some (vm_r 96), some (vm_i v1), some (vm_i v2), none]) (st1 := [vm_i (-1)]) (m1 := m1) (ob := true) (by decide +kernel) rfl rfl ?_
    exact vm_gr (r := some (vm_i (-1))) (i := (.ireturn, 1, 0, [])) (len := 1) (by decide +kernel) rfl rfl rfl ⟨_, rfl, h⟩
abbrev ku11_letterAt_0 (v1 : Int) (v2 : Int) (m : vm_M) (Q : Int → vm_M → Prop) : Prop := vm_G 256 0 [some (vm_r 96), some (vm_i v1), some (vm_i v2)] [] m (vm_qi Q)
set_option maxRecDepth 20000 in
theorem ru11_letterAt_0 {v1 : Int} {v2 : Int} {m : vm_M} {Q : Int → vm_M → Prop}  (h :
    (vm_C 196 [vm_r 96, vm_i v1] m (vm_qi (fun z1 m1 =>
      ((z1 = 0 →
        Q (-1) m1) ∧ (¬ z1 = 0 →
        ((0 ≤ v2 →
          (((m1 96 22) ≤ v2 →
            Q (-2) m1) ∧ (¬ (m1 96 22) ≤ v2 →
            ((0 ≤ v2 ∧ v2 < 360)) ∧
            Q (m1 108 v2) m1))) ∧ (¬ 0 ≤ v2 →
          Q (-1) m1)))))))) : vm_C 256 [vm_r 96, vm_i v1, vm_i v2] m (vm_qi Q) := by
  show vm_G 256 0 [some (vm_r 96), some (vm_i v1), some (vm_i v2)] [] m (vm_qi Q)
  refine vm_gp [(.aload 0, 0, 0, []), (.iload 1, 0, 0, [])] (pc1 := 2) (ls1 := [some (vm_r 96), some (vm_i v1), some (vm_i v2)]) (st1 := [vm_i v1, vm_r 96]) (m1 := m) (ob := true) (by decide +kernel) rfl rfl ?_
  refine vm_gc (g := 196) (na := 2) (av := [vm_r 96, vm_i v1]) (rest := []) (i := (.invokevirtual 0, 196, 2, [])) (len := 3) (by decide +kernel) rfl rfl rfl (by decide +kernel) (by decide +kernel) rfl rfl (vm_u (vm_okh_v (c := 11) (by decide +kernel) (by decide +kernel)) (show vm_okn 196 2 0 0 0 2 = true by decide +kernel)) ?_
  refine vm_G.mono h ?_
  rintro _ m1 ⟨z1, rfl, h⟩
  show vm_G 256 5 [some (vm_r 96), some (vm_i v1), some (vm_i v2)] [vm_i z1] m1 _
  refine vm_gj (c := z1 = 0) (t := 12) (e := 8) (i := (.ifCond .eq 0, 12, 0, [])) (len := 3) (st1 := []) (by decide +kernel) rfl rfl (fun c1 => ?_) (fun c1 => ?_)
  · replace h := h.1 c1
    refine vm_gp [(.iconst (-1), 0, 0, [])] (pc1 := 13) (ls1 := [some (vm_r 96), some (vm_i v1), some (vm_i v2)]) (st1 := [vm_i (-1)]) (m1 := m1) (ob := true) (by decide +kernel) rfl rfl ?_
    exact vm_gr (r := some (vm_i (-1))) (i := (.ireturn, 1, 0, [])) (len := 1) (by decide +kernel) rfl rfl rfl ⟨_, rfl, h⟩
  · replace h := h.2 c1
    refine vm_gp [(.iload 2, 0, 0, [])] (pc1 := 9) (ls1 := [some (vm_r 96), some (vm_i v1), some (vm_i v2)]) (st1 := [vm_i v2]) (m1 := m1) (ob := true) (by decide +kernel) rfl rfl ?_
    refine vm_gj (c := 0 ≤ v2) (t := 14) (e := 12) (i := (.ifCond .ge 0, 14, 0, [])) (len := 3) (st1 := []) (by decide +kernel) rfl rfl (fun c2 => ?_) (fun c2 => ?_)
    · replace h := h.1 c2
      refine vm_gp [(.iload 2, 0, 0, []), (.aload 0, 0, 0, []), (.getfield 0, 11, 22, [])] (pc1 := 19) (ls1 := [some (vm_r 96), some (vm_i v1), some (vm_i v2)]) (st1 := [vm_i (m1 96 22), vm_i v2]) (m1 := m1) (ob := (true && vm_is 96 11)) (by decide +kernel) rfl (vm_u rfl (by decide +kernel)) ?_
      refine vm_gj (c := (m1 96 22) ≤ v2) (t := 31) (e := 22) (i := (.if_icmp .ge 0, 31, 0, [])) (len := 3) (st1 := []) (by decide +kernel) rfl rfl (fun c3 => ?_) (fun c3 => ?_)
      · replace h := h.1 c3
        refine vm_gp [(.iconst (-2), 0, 0, [])] (pc1 := 33) (ls1 := [some (vm_r 96), some (vm_i v1), some (vm_i v2)]) (st1 := [vm_i (-2)]) (m1 := m1) (ob := true) (by decide +kernel) rfl rfl ?_
        exact vm_gr (r := some (vm_i (-2))) (i := (.ireturn, 1, 0, [])) (len := 1) (by decide +kernel) rfl rfl rfl ⟨_, rfl, h⟩
      · replace h := h.2 c3
        obtain ⟨o7_0, h⟩ := h
        refine vm_gp [(.aload 0, 0, 0, []), (.getfield 2, 11, 23, [(108, 0)]), (.iload 2, 0, 0, []), (.iaload, 360, 0, []), (.goto 0, 33, 0, [])] (pc1 := 33) (ls1 := [some (vm_r 96), some (vm_i v1), some (vm_i v2)]) (st1 := [vm_i (m1 108 v2)]) (m1 := m1) (ob := ((((true && vm_is 96 11) && true) && vm_ar 108 100 360) && decide (0 ≤ v2 ∧ v2 < 360))) (by decide +kernel) rfl (vm_t (vm_u (vm_u (vm_u rfl (by decide +kernel)) rfl) (by decide +kernel)) o7_0) ?_
        exact vm_gr (r := some (vm_i (m1 108 v2))) (i := (.ireturn, 1, 0, [])) (len := 1) (by decide +kernel) rfl rfl rfl ⟨_, rfl, h⟩
    · replace h := h.2 c2
      refine vm_gp [(.iconst (-1), 0, 0, [])] (pc1 := 13) (ls1 := [some (vm_r 96), some (vm_i v1), some (vm_i v2)]) (st1 := [vm_i (-1)]) (m1 := m1) (ob := true) (by decide +kernel) rfl rfl ?_
      exact vm_gr (r := some (vm_i (-1))) (i := (.ireturn, 1, 0, [])) (len := 1) (by decide +kernel) rfl rfl rfl ⟨_, rfl, h⟩
abbrev ku11_place_0 (v1 : Int) (v2 : Int) (m : vm_M) (Q : Int → vm_M → Prop) : Prop := vm_G 257 0 [some (vm_r 96), some (vm_i v1), some (vm_i v2)] [] m (vm_qi Q)
set_option maxRecDepth 20000 in
theorem ru11_place_0 {v1 : Int} {v2 : Int} {m : vm_M} {Q : Int → vm_M → Prop}  (h :
    (vm_C 196 [vm_r 96, vm_i v1] m (vm_qi (fun z1 m1 =>
      ((z1 = 0 →
        Q (-1) m1) ∧ (¬ z1 = 0 →
        ((0 ≤ v2 →
          (((m1 96 22) ≤ v2 →
            Q (-2) m1) ∧ (¬ (m1 96 22) ≤ v2 →
            ((0 ≤ v2 ∧ v2 < 360) ∧ (vm_32 ((m1 109 v2) + 1000))) ∧
            Q ((m1 109 v2) + 1000) m1))) ∧ (¬ 0 ≤ v2 →
          Q (-1) m1)))))))) : vm_C 257 [vm_r 96, vm_i v1, vm_i v2] m (vm_qi Q) := by
  show vm_G 257 0 [some (vm_r 96), some (vm_i v1), some (vm_i v2)] [] m (vm_qi Q)
  refine vm_gp [(.aload 0, 0, 0, []), (.iload 1, 0, 0, [])] (pc1 := 2) (ls1 := [some (vm_r 96), some (vm_i v1), some (vm_i v2)]) (st1 := [vm_i v1, vm_r 96]) (m1 := m) (ob := true) (by decide +kernel) rfl rfl ?_
  refine vm_gc (g := 196) (na := 2) (av := [vm_r 96, vm_i v1]) (rest := []) (i := (.invokevirtual 0, 196, 2, [])) (len := 3) (by decide +kernel) rfl rfl rfl (by decide +kernel) (by decide +kernel) rfl rfl (vm_u (vm_okh_v (c := 11) (by decide +kernel) (by decide +kernel)) (show vm_okn 196 2 0 0 0 2 = true by decide +kernel)) ?_
  refine vm_G.mono h ?_
  rintro _ m1 ⟨z1, rfl, h⟩
  show vm_G 257 5 [some (vm_r 96), some (vm_i v1), some (vm_i v2)] [vm_i z1] m1 _
  refine vm_gj (c := z1 = 0) (t := 12) (e := 8) (i := (.ifCond .eq 0, 12, 0, [])) (len := 3) (st1 := []) (by decide +kernel) rfl rfl (fun c1 => ?_) (fun c1 => ?_)
  · replace h := h.1 c1
    refine vm_gp [(.iconst (-1), 0, 0, [])] (pc1 := 13) (ls1 := [some (vm_r 96), some (vm_i v1), some (vm_i v2)]) (st1 := [vm_i (-1)]) (m1 := m1) (ob := true) (by decide +kernel) rfl rfl ?_
    exact vm_gr (r := some (vm_i (-1))) (i := (.ireturn, 1, 0, [])) (len := 1) (by decide +kernel) rfl rfl rfl ⟨_, rfl, h⟩
  · replace h := h.2 c1
    refine vm_gp [(.iload 2, 0, 0, [])] (pc1 := 9) (ls1 := [some (vm_r 96), some (vm_i v1), some (vm_i v2)]) (st1 := [vm_i v2]) (m1 := m1) (ob := true) (by decide +kernel) rfl rfl ?_
    refine vm_gj (c := 0 ≤ v2) (t := 14) (e := 12) (i := (.ifCond .ge 0, 14, 0, [])) (len := 3) (st1 := []) (by decide +kernel) rfl rfl (fun c2 => ?_) (fun c2 => ?_)
    · replace h := h.1 c2
      refine vm_gp [(.iload 2, 0, 0, []), (.aload 0, 0, 0, []), (.getfield 0, 11, 22, [])] (pc1 := 19) (ls1 := [some (vm_r 96), some (vm_i v1), some (vm_i v2)]) (st1 := [vm_i (m1 96 22), vm_i v2]) (m1 := m1) (ob := (true && vm_is 96 11)) (by decide +kernel) rfl (vm_u rfl (by decide +kernel)) ?_
      refine vm_gj (c := (m1 96 22) ≤ v2) (t := 35) (e := 22) (i := (.if_icmp .ge 0, 35, 0, [])) (len := 3) (st1 := []) (by decide +kernel) rfl rfl (fun c3 => ?_) (fun c3 => ?_)
      · replace h := h.1 c3
        refine vm_gp [(.iconst (-2), 0, 0, [])] (pc1 := 37) (ls1 := [some (vm_r 96), some (vm_i v1), some (vm_i v2)]) (st1 := [vm_i (-2)]) (m1 := m1) (ob := true) (by decide +kernel) rfl rfl ?_
        exact vm_gr (r := some (vm_i (-2))) (i := (.ireturn, 1, 0, [])) (len := 1) (by decide +kernel) rfl rfl rfl ⟨_, rfl, h⟩
      · replace h := h.2 c3
        obtain ⟨⟨o7_0, o7_1⟩, h⟩ := h
        refine vm_gp [(.aload 0, 0, 0, []), (.getfield 2, 11, 24, [(109, 0)]), (.iload 2, 0, 0, []), (.iaload, 360, 0, []), (.iconst 1000, 0, 0, []), (.iadd, 0, 0, []), (.goto 0, 37, 0, [])] (pc1 := 37) (ls1 := [some (vm_r 96), some (vm_i v1), some (vm_i v2)]) (st1 := [vm_i ((m1 109 v2) + 1000)]) (m1 := m1) (ob := (((((true && vm_is 96 11) && true) && vm_ar 109 100 360) && decide (0 ≤ v2 ∧ v2 < 360)) && decide (vm_32 ((m1 109 v2) + 1000)))) (by decide +kernel) rfl (vm_t (vm_t (vm_u (vm_u (vm_u rfl (by decide +kernel)) rfl) (by decide +kernel)) o7_0) o7_1) ?_
        exact vm_gr (r := some (vm_i ((m1 109 v2) + 1000))) (i := (.ireturn, 1, 0, [])) (len := 1) (by decide +kernel) rfl rfl rfl ⟨_, rfl, h⟩
    · replace h := h.2 c2
      refine vm_gp [(.iconst (-1), 0, 0, [])] (pc1 := 13) (ls1 := [some (vm_r 96), some (vm_i v1), some (vm_i v2)]) (st1 := [vm_i (-1)]) (m1 := m1) (ob := true) (by decide +kernel) rfl rfl ?_
      exact vm_gr (r := some (vm_i (-1))) (i := (.ireturn, 1, 0, [])) (len := 1) (by decide +kernel) rfl rfl rfl ⟨_, rfl, h⟩
abbrev ku11_hasNext_0 (v1 : Int) (m : vm_M) (Q : Int → vm_M → Prop) : Prop := vm_G 258 0 [some (vm_r 96), some (vm_i v1)] [] m (vm_qi Q)
set_option maxRecDepth 20000 in
theorem ru11_hasNext_0 {v1 : Int} {m : vm_M} {Q : Int → vm_M → Prop}  (h :
    (((m 96 22) ≤ v1 →
      Q 0 m) ∧ (¬ (m 96 22) ≤ v1 →
      ((0 ≤ v1 ∧ v1 < 360)) ∧
      (((m 110 v1) = 1000 →
        Q 0 m) ∧ (¬ (m 110 v1) = 1000 →
        Q 1 m))))) : vm_C 258 [vm_r 96, vm_i v1] m (vm_qi Q) := by
  show vm_G 258 0 [some (vm_r 96), some (vm_i v1)] [] m (vm_qi Q)
  refine vm_gp [(.iload 1, 0, 0, []), (.aload 0, 0, 0, []), (.getfield 0, 11, 22, [])] (pc1 := 5) (ls1 := [some (vm_r 96), some (vm_i v1)]) (st1 := [vm_i (m 96 22), vm_i v1]) (m1 := m) (ob := (true && vm_is 96 11)) (by decide +kernel) rfl (vm_u rfl (by decide +kernel)) ?_
  refine vm_gj (c := (m 96 22) ≤ v1) (t := 24) (e := 8) (i := (.if_icmp .ge 0, 24, 0, [])) (len := 3) (st1 := []) (by decide +kernel) rfl rfl (fun c1 => ?_) (fun c1 => ?_)
  · replace h := h.1 c1
    refine vm_gp [(.iconst 0, 0, 0, [])] (pc1 := 25) (ls1 := [some (vm_r 96), some (vm_i v1)]) (st1 := [vm_i 0]) (m1 := m) (ob := true) (by decide +kernel) rfl rfl ?_
    exact vm_gr (r := some (vm_i 0)) (i := (.ireturn, 2, 0, [])) (len := 1) (by decide +kernel) rfl rfl (by decide) ⟨_, rfl, h⟩
  · replace h := h.2 c1
    obtain ⟨o3_0, h⟩ := h
    refine vm_gp [(.aload 0, 0, 0, []), (.getfield 2, 11, 25, [(110, 0)]), (.iload 1, 0, 0, []), (.iaload, 360, 0, []), (.iconst 1000, 0, 0, [])] (pc1 := 17) (ls1 := [some (vm_r 96), some (vm_i v1)]) (st1 := [vm_i 1000, vm_i (m 110 v1)]) (m1 := m) (ob := ((((true && vm_is 96 11) && true) && vm_ar 110 100 360) && decide (0 ≤ v1 ∧ v1 < 360))) (by decide +kernel) rfl (vm_t (vm_u (vm_u (vm_u rfl (by decide +kernel)) rfl) (by decide +kernel)) o3_0) ?_
    refine vm_gj (c := (m 110 v1) = 1000) (t := 24) (e := 20) (i := (.if_icmp .eq 0, 24, 0, [])) (len := 3) (st1 := []) (by decide +kernel) rfl rfl (fun c2 => ?_) (fun c2 => ?_)
    · replace h := h.1 c2
      refine vm_gp [(.iconst 0, 0, 0, [])] (pc1 := 25) (ls1 := [some (vm_r 96), some (vm_i v1)]) (st1 := [vm_i 0]) (m1 := m) (ob := true) (by decide +kernel) rfl rfl ?_
      exact vm_gr (r := some (vm_i 0)) (i := (.ireturn, 2, 0, [])) (len := 1) (by decide +kernel) rfl rfl (by decide) ⟨_, rfl, h⟩
    · replace h := h.2 c2
      refine vm_gp [(.iconst 1, 0, 0, []), (.goto 0, 25, 0, [])] (pc1 := 25) (ls1 := [some (vm_r 96), some (vm_i v1)]) (st1 := [vm_i 1]) (m1 := m) (ob := true) (by decide +kernel) rfl rfl ?_
      exact vm_gr (r := some (vm_i 1)) (i := (.ireturn, 2, 0, [])) (len := 1) (by decide +kernel) rfl rfl (by decide) ⟨_, rfl, h⟩
abbrev ku11_gapBehind_0 (v1 : Int) (m : vm_M) (Q : Int → vm_M → Prop) : Prop := vm_G 259 0 [some (vm_r 96), some (vm_i v1)] [] m (vm_qi Q)
set_option maxRecDepth 20000 in
theorem ru11_gapBehind_0 {v1 : Int} {m : vm_M} {Q : Int → vm_M → Prop}  (h :
    ((0 ≤ v1 ∧ v1 < 360) ∧ (vm_32 (v1 + 1)) ∧ (0 ≤ (v1 + 1) ∧ (v1 + 1) < 360) ∧ (0 ≤ v1 ∧ v1 < 360)) ∧
    (vm_C 171 [vm_r 96, vm_i (m 108 v1), vm_i (m 108 (v1 + 1)), vm_i (m 110 v1)] m (vm_qi (fun z1 m1 =>
      Q z1 m1)))) : vm_C 259 [vm_r 96, vm_i v1] m (vm_qi Q) := by
  show vm_G 259 0 [some (vm_r 96), some (vm_i v1)] [] m (vm_qi Q)
  obtain ⟨⟨o1_0, o1_1, o1_2, o1_3⟩, h⟩ := h
  refine vm_gp [(.aload 0, 0, 0, []), (.aload 0, 0, 0, []), (.getfield 2, 11, 23, [(108, 0)]), (.iload 1, 0, 0, []), (.iaload, 360, 0, []), (.aload 0, 0, 0, []), (.getfield 2, 11, 23, [(108, 0)]), (.iload 1, 0, 0, []), (.iconst 1, 0, 0, []), (.iadd, 0, 0, []), (.iaload, 360, 0, []), (.aload 0, 0, 0, []), (.getfield 2, 11, 25, [(110, 0)]), (.iload 1, 0, 0, []), (.iaload, 360, 0, [])] (pc1 := 21) (ls1 := [some (vm_r 96), some (vm_i v1)]) (st1 := [vm_i (m 110 v1), vm_i (m 108 (v1 + 1)), vm_i (m 108 v1), vm_r 96]) (m1 := m) (ob := (((((((((((((true && vm_is 96 11) && true) && vm_ar 108 100 360) && decide (0 ≤ v1 ∧ v1 < 360)) && vm_is 96 11) && true) && decide (vm_32 (v1 + 1))) && vm_ar 108 100 360) && decide (0 ≤ (v1 + 1) ∧ (v1 + 1) < 360)) && vm_is 96 11) && true) && vm_ar 110 100 360) && decide (0 ≤ v1 ∧ v1 < 360))) (by decide +kernel) rfl (vm_t (vm_u (vm_u (vm_u (vm_t (vm_u (vm_t (vm_u (vm_u (vm_t (vm_u (vm_u (vm_u rfl (by decide +kernel)) rfl) (by decide +kernel)) o1_0) (by decide +kernel)) rfl) o1_1) (by decide +kernel)) o1_2) (by decide +kernel)) rfl) (by decide +kernel)) o1_3) ?_
  refine vm_gc (g := 171) (na := 4) (av := [vm_r 96, vm_i (m 108 v1), vm_i (m 108 (v1 + 1)), vm_i (m 110 v1)]) (rest := []) (i := (.invokevirtual 0, 171, 4, [])) (len := 3) (by decide +kernel) rfl rfl rfl (by decide +kernel) (by decide +kernel) rfl rfl (vm_u (vm_okh_v (c := 11) (by decide +kernel) (by decide +kernel)) (show vm_okn 171 4 0 0 0 4 = true by decide +kernel)) ?_
  refine vm_G.mono h ?_
  rintro _ m1 ⟨z1, rfl, h⟩
  show vm_G 259 24 [some (vm_r 96), some (vm_i v1)] [vm_i z1] m1 _
  exact vm_gr (r := some (vm_i z1)) (i := (.ireturn, 1, 0, [])) (len := 1) (by decide +kernel) rfl rfl rfl ⟨_, rfl, h⟩
abbrev ku11_gap_0 (v1 : Int) (v2 : Int) (m : vm_M) (Q : Int → vm_M → Prop) : Prop := vm_G 260 0 [some (vm_r 96), some (vm_i v1), some (vm_i v2)] [] m (vm_qi Q)
set_option maxRecDepth 20000 in
theorem ru11_gap_0 {v1 : Int} {v2 : Int} {m : vm_M} {Q : Int → vm_M → Prop}  (h :
    (vm_C 196 [vm_r 96, vm_i v1] m (vm_qi (fun z1 m1 =>
      ((z1 = 0 →
        Q (-1) m1) ∧ (¬ z1 = 0 →
        ((0 ≤ v2 →
          (vm_C 258 [vm_r 96, vm_i v2] m1 (vm_qi (fun z2 m2 =>
            ((z2 = 0 →
              Q (-2) m2) ∧ (¬ z2 = 0 →
              (vm_C 259 [vm_r 96, vm_i v2] m2 (vm_qi (fun z3 m3 =>
                Q z3 m3))))))))) ∧ (¬ 0 ≤ v2 →
          Q (-1) m1)))))))) : vm_C 260 [vm_r 96, vm_i v1, vm_i v2] m (vm_qi Q) := by
  show vm_G 260 0 [some (vm_r 96), some (vm_i v1), some (vm_i v2)] [] m (vm_qi Q)
  refine vm_gp [(.aload 0, 0, 0, []), (.iload 1, 0, 0, [])] (pc1 := 2) (ls1 := [some (vm_r 96), some (vm_i v1), some (vm_i v2)]) (st1 := [vm_i v1, vm_r 96]) (m1 := m) (ob := true) (by decide +kernel) rfl rfl ?_
  refine vm_gc (g := 196) (na := 2) (av := [vm_r 96, vm_i v1]) (rest := []) (i := (.invokevirtual 0, 196, 2, [])) (len := 3) (by decide +kernel) rfl rfl rfl (by decide +kernel) (by decide +kernel) rfl rfl (vm_u (vm_okh_v (c := 11) (by decide +kernel) (by decide +kernel)) (show vm_okn 196 2 0 0 0 2 = true by decide +kernel)) ?_
  refine vm_G.mono h ?_
  rintro _ m1 ⟨z1, rfl, h⟩
  show vm_G 260 5 [some (vm_r 96), some (vm_i v1), some (vm_i v2)] [vm_i z1] m1 _
  refine vm_gj (c := z1 = 0) (t := 12) (e := 8) (i := (.ifCond .eq 0, 12, 0, [])) (len := 3) (st1 := []) (by decide +kernel) rfl rfl (fun c1 => ?_) (fun c1 => ?_)
  · replace h := h.1 c1
    refine vm_gp [(.iconst (-1), 0, 0, [])] (pc1 := 13) (ls1 := [some (vm_r 96), some (vm_i v1), some (vm_i v2)]) (st1 := [vm_i (-1)]) (m1 := m1) (ob := true) (by decide +kernel) rfl rfl ?_
    exact vm_gr (r := some (vm_i (-1))) (i := (.ireturn, 1, 0, [])) (len := 1) (by decide +kernel) rfl rfl rfl ⟨_, rfl, h⟩
  · replace h := h.2 c1
    refine vm_gp [(.iload 2, 0, 0, [])] (pc1 := 9) (ls1 := [some (vm_r 96), some (vm_i v1), some (vm_i v2)]) (st1 := [vm_i v2]) (m1 := m1) (ob := true) (by decide +kernel) rfl rfl ?_
    refine vm_gj (c := 0 ≤ v2) (t := 14) (e := 12) (i := (.ifCond .ge 0, 14, 0, [])) (len := 3) (st1 := []) (by decide +kernel) rfl rfl (fun c2 => ?_) (fun c2 => ?_)
    · replace h := h.1 c2
      refine vm_gp [(.aload 0, 0, 0, []), (.iload 2, 0, 0, [])] (pc1 := 16) (ls1 := [some (vm_r 96), some (vm_i v1), some (vm_i v2)]) (st1 := [vm_i v2, vm_r 96]) (m1 := m1) (ob := true) (by decide +kernel) rfl rfl ?_
      refine vm_gc (g := 258) (na := 2) (av := [vm_r 96, vm_i v2]) (rest := []) (i := (.invokevirtual 0, 258, 2, [])) (len := 3) (by decide +kernel) rfl rfl rfl (by decide +kernel) (by decide +kernel) rfl rfl (vm_u (vm_okh_v (c := 11) (by decide +kernel) (by decide +kernel)) (show vm_okn 258 2 0 0 0 2 = true by decide +kernel)) ?_
      refine vm_G.mono h ?_
      rintro _ m2 ⟨z2, rfl, h⟩
      show vm_G 260 19 [some (vm_r 96), some (vm_i v1), some (vm_i v2)] [vm_i z2] m2 _
      refine vm_gj (c := z2 = 0) (t := 30) (e := 22) (i := (.ifCond .eq 0, 30, 0, [])) (len := 3) (st1 := []) (by decide +kernel) rfl rfl (fun c3 => ?_) (fun c3 => ?_)
      · replace h := h.1 c3
        refine vm_gp [(.iconst (-2), 0, 0, [])] (pc1 := 32) (ls1 := [some (vm_r 96), some (vm_i v1), some (vm_i v2)]) (st1 := [vm_i (-2)]) (m1 := m2) (ob := true) (by decide +kernel) rfl rfl ?_
        exact vm_gr (r := some (vm_i (-2))) (i := (.ireturn, 1, 0, [])) (len := 1) (by decide +kernel) rfl rfl rfl ⟨_, rfl, h⟩
      · replace h := h.2 c3
        refine vm_gp [(.aload 0, 0, 0, []), (.iload 2, 0, 0, [])] (pc1 := 24) (ls1 := [some (vm_r 96), some (vm_i v1), some (vm_i v2)]) (st1 := [vm_i v2, vm_r 96]) (m1 := m2) (ob := true) (by decide +kernel) rfl rfl ?_
        refine vm_gc (g := 259) (na := 2) (av := [vm_r 96, vm_i v2]) (rest := []) (i := (.invokevirtual 0, 259, 2, [])) (len := 3) (by decide +kernel) rfl rfl rfl (by decide +kernel) (by decide +kernel) rfl rfl (vm_u (vm_okh_v (c := 11) (by decide +kernel) (by decide +kernel)) (show vm_okn 259 2 0 0 0 2 = true by decide +kernel)) ?_
        refine vm_G.mono h ?_
        rintro _ m3 ⟨z3, rfl, h⟩
        show vm_G 260 27 [some (vm_r 96), some (vm_i v1), some (vm_i v2)] [vm_i z3] m3 _
        refine vm_gp [(.goto 0, 32, 0, [])] (pc1 := 32) (ls1 := [some (vm_r 96), some (vm_i v1), some (vm_i v2)]) (st1 := [vm_i z3]) (m1 := m3) (ob := true) (by decide +kernel) rfl rfl ?_
        exact vm_gr (r := some (vm_i z3)) (i := (.ireturn, 1, 0, [])) (len := 1) (by decide +kernel) rfl rfl rfl ⟨_, rfl, h⟩
    · replace h := h.2 c2
      refine vm_gp [(.iconst (-1), 0, 0, [])] (pc1 := 13) (ls1 := [some (vm_r 96), some (vm_i v1), some (vm_i v2)]) (st1 := [vm_i (-1)]) (m1 := m1) (ob := true) (by decide +kernel) rfl rfl ?_
      exact vm_gr (r := some (vm_i (-1))) (i := (.ireturn, 1, 0, [])) (len := 1) (by decide +kernel) rfl rfl rfl ⟨_, rfl, h⟩
abbrev ku11_uneven_0 (v1 : Int) (m : vm_M) (Q : Int → vm_M → Prop) : Prop := vm_G 261 0 [some (vm_r 96), some (vm_i v1), none, none, none, none] [] m (vm_qi Q)
abbrev ku11_uneven_19 (v1 : Int) (v2 : Int) (v3 : Int) (v4 : Int) (w5 : Option vm_V) (m : vm_M) (Q : Int → vm_M → Prop) : Prop := vm_G 261 19 [some (vm_r 96), some (vm_i v1), some (vm_i v2), some (vm_i v3), some (vm_i v4), w5] [] m (vm_qi Q)
set_option maxRecDepth 20000 in
theorem ru11_uneven_0 {v1 : Int} {m : vm_M} {Q : Int → vm_M → Prop}  (h :
    (vm_C 196 [vm_r 96, vm_i v1] m (vm_qi (fun z1 m1 =>
      ((¬ z1 = 0 →
        ku11_uneven_19 v1 1000 (-1) 0 none m1 Q) ∧ (¬ ¬ z1 = 0 →
        Q (-1) m1)))))) : vm_C 261 [vm_r 96, vm_i v1] m (vm_qi Q) := by
  show vm_G 261 0 [some (vm_r 96), some (vm_i v1), none, none, none, none] [] m (vm_qi Q)
  refine vm_gp [(.aload 0, 0, 0, []), (.iload 1, 0, 0, [])] (pc1 := 2) (ls1 := [some (vm_r 96), some (vm_i v1), none, none, none, none]) (st1 := [vm_i v1, vm_r 96]) (m1 := m) (ob := true) (by decide +kernel) rfl rfl ?_
  refine vm_gc (g := 196) (na := 2) (av := [vm_r 96, vm_i v1]) (rest := []) (i := (.invokevirtual 0, 196, 2, [])) (len := 3) (by decide +kernel) rfl rfl rfl (by decide +kernel) (by decide +kernel) rfl rfl (vm_u (vm_okh_v (c := 11) (by decide +kernel) (by decide +kernel)) (show vm_okn 196 2 0 0 0 2 = true by decide +kernel)) ?_
  refine vm_G.mono h ?_
  rintro _ m1 ⟨z1, rfl, h⟩
  show vm_G 261 5 [some (vm_r 96), some (vm_i v1), none, none, none, none] [vm_i z1] m1 _
  refine vm_gj (c := ¬ z1 = 0) (t := 10) (e := 8) (i := (.ifCond .ne 0, 10, 0, [])) (len := 3) (st1 := []) (by decide +kernel) rfl rfl (fun c1 => ?_) (fun c1 => ?_)
  · replace h := h.1 c1
    refine vm_gp [(.iconst 1000, 0, 0, []), (.istore 2, 0, 0, []), (.iconst (-1), 0, 0, []), (.istore 3, 0, 0, []), (.iconst 0, 0, 0, []), (.istore 4, 0, 0, [])] (pc1 := 19) (ls1 := [some (vm_r 96), some (vm_i v1), some (vm_i 1000), some (vm_i (-1)), some (vm_i 0), none]) (st1 := []) (m1 := m1) (ob := true) (by decide +kernel) rfl rfl ?_
    exact h
  · replace h := h.2 c1
    refine vm_gp [(.iconst (-1), 0, 0, [])] (pc1 := 9) (ls1 := [some (vm_r 96), some (vm_i v1), none, none, none, none]) (st1 := [vm_i (-1)]) (m1 := m1) (ob := true) (by decide +kernel) rfl rfl ?_
    exact vm_gr (r := some (vm_i (-1))) (i := (.ireturn, 1, 0, [])) (len := 1) (by decide +kernel) rfl rfl rfl ⟨_, rfl, h⟩
set_option maxRecDepth 20000 in
theorem ru11_uneven_19 {v1 : Int} {v2 : Int} {v3 : Int} {v4 : Int} {w5 : Option vm_V} {m : vm_M} {Q : Int → vm_M → Prop}  (h :
    (((m 96 22) ≤ v4 →
      ((0 ≤ v3 →
        ((vm_32 (v3 - v2))) ∧
        Q (v3 - v2) m) ∧ (¬ 0 ≤ v3 →
        Q (-2) m))) ∧ (¬ (m 96 22) ≤ v4 →
      (vm_C 258 [vm_r 96, vm_i v4] m (vm_qi (fun z1 m1 =>
        ((¬ z1 = 0 →
          (vm_C 259 [vm_r 96, vm_i v4] m1 (vm_qi (fun z2 m2 =>
            ((v2 ≤ z2 →
              ((z2 ≤ v3 →
                ((vm_32 (v4 + 1))) ∧
                ku11_uneven_19 v1 v2 v3 (v4 + 1) (some (vm_i z2)) m2 Q) ∧ (¬ z2 ≤ v3 →
                ((vm_32 (v4 + 1))) ∧
                ku11_uneven_19 v1 v2 z2 (v4 + 1) (some (vm_i z2)) m2 Q))) ∧ (¬ v2 ≤ z2 →
              ((z2 ≤ v3 →
                ((vm_32 (v4 + 1))) ∧
                ku11_uneven_19 v1 z2 v3 (v4 + 1) (some (vm_i z2)) m2 Q) ∧ (¬ z2 ≤ v3 →
                ((vm_32 (v4 + 1))) ∧
                ku11_uneven_19 v1 z2 z2 (v4 + 1) (some (vm_i z2)) m2 Q)))))))) ∧ (¬ ¬ z1 = 0 →
          ((vm_32 (v4 + 1))) ∧
          ku11_uneven_19 v1 v2 v3 (v4 + 1) w5 m1 Q)))))))) : ku11_uneven_19 v1 v2 v3 v4 w5 m Q := by
  show vm_G 261 19 [some (vm_r 96), some (vm_i v1), some (vm_i v2), some (vm_i v3), some (vm_i v4), w5] [] m (vm_qi Q)
  refine vm_gp [(.iload 4, 0, 0, []), (.aload 0, 0, 0, []), (.getfield 0, 11, 22, [])] (pc1 := 25) (ls1 := [some (vm_r 96), some (vm_i v1), some (vm_i v2), some (vm_i v3), some (vm_i v4), w5]) (st1 := [vm_i (m 96 22), vm_i v4]) (m1 := m) (ob := (true && vm_is 96 11)) (by decide +kernel) rfl (vm_u rfl (by decide +kernel)) ?_
  refine vm_gj (c := (m 96 22) ≤ v4) (t := 80) (e := 28) (i := (.if_icmp .ge 0, 80, 0, [])) (len := 3) (st1 := []) (by decide +kernel) rfl rfl (fun c1 => ?_) (fun c1 => ?_)
  · replace h := h.1 c1
    refine vm_gp [(.iload 3, 0, 0, [])] (pc1 := 81) (ls1 := [some (vm_r 96), some (vm_i v1), some (vm_i v2), some (vm_i v3), some (vm_i v4), w5]) (st1 := [vm_i v3]) (m1 := m) (ob := true) (by decide +kernel) rfl rfl ?_
    refine vm_gj (c := 0 ≤ v3) (t := 89) (e := 84) (i := (.ifCond .ge 0, 89, 0, [])) (len := 3) (st1 := []) (by decide +kernel) rfl rfl (fun c2 => ?_) (fun c2 => ?_)
    · replace h := h.1 c2
      obtain ⟨o3_0, h⟩ := h
      refine vm_gp [(.iload 3, 0, 0, []), (.iload 2, 0, 0, []), (.isub, 0, 0, [])] (pc1 := 92) (ls1 := [some (vm_r 96), some (vm_i v1), some (vm_i v2), some (vm_i v3), some (vm_i v4), w5]) (st1 := [vm_i (v3 - v2)]) (m1 := m) (ob := (true && decide (vm_32 (v3 - v2)))) (by decide +kernel) rfl (vm_t rfl o3_0) ?_
      exact vm_gr (r := some (vm_i (v3 - v2))) (i := (.ireturn, 1, 0, [])) (len := 1) (by decide +kernel) rfl rfl rfl ⟨_, rfl, h⟩
    · replace h := h.2 c2
      refine vm_gp [(.iconst (-2), 0, 0, []), (.goto 0, 92, 0, [])] (pc1 := 92) (ls1 := [some (vm_r 96), some (vm_i v1), some (vm_i v2), some (vm_i v3), some (vm_i v4), w5]) (st1 := [vm_i (-2)]) (m1 := m) (ob := true) (by decide +kernel) rfl rfl ?_
      exact vm_gr (r := some (vm_i (-2))) (i := (.ireturn, 1, 0, [])) (len := 1) (by decide +kernel) rfl rfl rfl ⟨_, rfl, h⟩
  · replace h := h.2 c1
    refine vm_gp [(.aload 0, 0, 0, []), (.iload 4, 0, 0, [])] (pc1 := 31) (ls1 := [some (vm_r 96), some (vm_i v1), some (vm_i v2), some (vm_i v3), some (vm_i v4), w5]) (st1 := [vm_i v4, vm_r 96]) (m1 := m) (ob := true) (by decide +kernel) rfl rfl ?_
    refine vm_gc (g := 258) (na := 2) (av := [vm_r 96, vm_i v4]) (rest := []) (i := (.invokevirtual 0, 258, 2, [])) (len := 3) (by decide +kernel) rfl rfl rfl (by decide +kernel) (by decide +kernel) rfl rfl (vm_u (vm_okh_v (c := 11) (by decide +kernel) (by decide +kernel)) (show vm_okn 258 2 0 0 0 2 = true by decide +kernel)) ?_
    refine vm_G.mono h ?_
    rintro _ m1 ⟨z1, rfl, h⟩
    show vm_G 261 34 [some (vm_r 96), some (vm_i v1), some (vm_i v2), some (vm_i v3), some (vm_i v4), w5] [vm_i z1] m1 _
    refine vm_gj (c := ¬ z1 = 0) (t := 40) (e := 37) (i := (.ifCond .ne 0, 40, 0, [])) (len := 3) (st1 := []) (by decide +kernel) rfl rfl (fun c3 => ?_) (fun c3 => ?_)
    · replace h := h.1 c3
      refine vm_gp [(.aload 0, 0, 0, []), (.iload 4, 0, 0, [])] (pc1 := 43) (ls1 := [some (vm_r 96), some (vm_i v1), some (vm_i v2), some (vm_i v3), some (vm_i v4), w5]) (st1 := [vm_i v4, vm_r 96]) (m1 := m1) (ob := true) (by decide +kernel) rfl rfl ?_
      refine vm_gc (g := 259) (na := 2) (av := [vm_r 96, vm_i v4]) (rest := []) (i := (.invokevirtual 0, 259, 2, [])) (len := 3) (by decide +kernel) rfl rfl rfl (by decide +kernel) (by decide +kernel) rfl rfl (vm_u (vm_okh_v (c := 11) (by decide +kernel) (by decide +kernel)) (show vm_okn 259 2 0 0 0 2 = true by decide +kernel)) ?_
      refine vm_G.mono h ?_
      rintro _ m2 ⟨z2, rfl, h⟩
      show vm_G 261 46 [some (vm_r 96), some (vm_i v1), some (vm_i v2), some (vm_i v3), some (vm_i v4), w5] [vm_i z2] m2 _
      refine vm_gp [(.istore 5, 0, 0, []), (.iload 5, 0, 0, []), (.iload 2, 0, 0, [])] (pc1 := 51) (ls1 := [some (vm_r 96), some (vm_i v1), some (vm_i v2), some (vm_i v3), some (vm_i v4), some (vm_i z2)]) (st1 := [vm_i v2, vm_i z2]) (m1 := m2) (ob := true) (by decide +kernel) rfl rfl ?_
      refine vm_gj (c := v2 ≤ z2) (t := 59) (e := 54) (i := (.if_icmp .ge 0, 59, 0, [])) (len := 3) (st1 := []) (by decide +kernel) rfl rfl (fun c4 => ?_) (fun c4 => ?_)
      · replace h := h.1 c4
        refine vm_gp [(.iload 2, 0, 0, []), (.istore 2, 0, 0, []), (.iload 5, 0, 0, []), (.iload 3, 0, 0, [])] (pc1 := 64) (ls1 := [some (vm_r 96), some (vm_i v1), some (vm_i v2), some (vm_i v3), some (vm_i v4), some (vm_i z2)]) (st1 := [vm_i v3, vm_i z2]) (m1 := m2) (ob := true) (by decide +kernel) rfl rfl ?_
        refine vm_gj (c := z2 ≤ v3) (t := 72) (e := 67) (i := (.if_icmp .le 0, 72, 0, [])) (len := 3) (st1 := []) (by decide +kernel) rfl rfl (fun c5 => ?_) (fun c5 => ?_)
        · replace h := h.1 c5
          obtain ⟨o10_0, h⟩ := h
          refine vm_gp [(.iload 3, 0, 0, []), (.istore 3, 0, 0, []), (.iinc 4 1, 0, 0, []), (.goto 0, 19, 0, [])] (pc1 := 19) (ls1 := [some (vm_r 96), some (vm_i v1), some (vm_i v2), some (vm_i v3), some (vm_i (v4 + 1)), some (vm_i z2)]) (st1 := []) (m1 := m2) (ob := (true && decide (vm_32 (v4 + 1)))) (by decide +kernel) rfl (vm_t rfl o10_0) ?_
          exact h
        · replace h := h.2 c5
          obtain ⟨o11_0, h⟩ := h
          refine vm_gp [(.iload 5, 0, 0, []), (.goto 0, 73, 0, []), (.istore 3, 0, 0, []), (.iinc 4 1, 0, 0, []), (.goto 0, 19, 0, [])] (pc1 := 19) (ls1 := [some (vm_r 96), some (vm_i v1), some (vm_i v2), some (vm_i z2), some (vm_i (v4 + 1)), some (vm_i z2)]) (st1 := []) (m1 := m2) (ob := (true && decide (vm_32 (v4 + 1)))) (by decide +kernel) rfl (vm_t rfl o11_0) ?_
          exact h
      · replace h := h.2 c4
        refine vm_gp [(.iload 5, 0, 0, []), (.goto 0, 60, 0, []), (.istore 2, 0, 0, []), (.iload 5, 0, 0, []), (.iload 3, 0, 0, [])] (pc1 := 64) (ls1 := [some (vm_r 96), some (vm_i v1), some (vm_i z2), some (vm_i v3), some (vm_i v4), some (vm_i z2)]) (st1 := [vm_i v3, vm_i z2]) (m1 := m2) (ob := true) (by decide +kernel) rfl rfl ?_
        refine vm_gj (c := z2 ≤ v3) (t := 72) (e := 67) (i := (.if_icmp .le 0, 72, 0, [])) (len := 3) (st1 := []) (by decide +kernel) rfl rfl (fun c6 => ?_) (fun c6 => ?_)
        · replace h := h.1 c6
          obtain ⟨o13_0, h⟩ := h
          refine vm_gp [(.iload 3, 0, 0, []), (.istore 3, 0, 0, []), (.iinc 4 1, 0, 0, []), (.goto 0, 19, 0, [])] (pc1 := 19) (ls1 := [some (vm_r 96), some (vm_i v1), some (vm_i z2), some (vm_i v3), some (vm_i (v4 + 1)), some (vm_i z2)]) (st1 := []) (m1 := m2) (ob := (true && decide (vm_32 (v4 + 1)))) (by decide +kernel) rfl (vm_t rfl o13_0) ?_
          exact h
        · replace h := h.2 c6
          obtain ⟨o14_0, h⟩ := h
          refine vm_gp [(.iload 5, 0, 0, []), (.goto 0, 73, 0, []), (.istore 3, 0, 0, []), (.iinc 4 1, 0, 0, []), (.goto 0, 19, 0, [])] (pc1 := 19) (ls1 := [some (vm_r 96), some (vm_i v1), some (vm_i z2), some (vm_i z2), some (vm_i (v4 + 1)), some (vm_i z2)]) (st1 := []) (m1 := m2) (ob := (true && decide (vm_32 (v4 + 1)))) (by decide +kernel) rfl (vm_t rfl o14_0) ?_
          exact h
    · replace h := h.2 c3
      obtain ⟨o15_0, h⟩ := h
      refine vm_gp [(.goto 0, 74, 0, []), (.iinc 4 1, 0, 0, []), (.goto 0, 19, 0, [])] (pc1 := 19) (ls1 := [some (vm_r 96), some (vm_i v1), some (vm_i v2), some (vm_i v3), some (vm_i (v4 + 1)), w5]) (st1 := []) (m1 := m1) (ob := (true && decide (vm_32 (v4 + 1)))) (by decide +kernel) rfl (vm_t rfl o15_0) ?_
      exact h
abbrev ku11_isOpen_0 (v1 : Int) (v2 : Int) (m : vm_M) (Q : Int → vm_M → Prop) : Prop := vm_G 262 0 [some (vm_r 96), some (vm_i v1), some (vm_i v2)] [] m (vm_qi Q)
set_option maxRecDepth 20000 in
theorem ru11_isOpen_0 {v1 : Int} {v2 : Int} {m : vm_M} {Q : Int → vm_M → Prop}  (h :
    ((0 ≤ v1 ∧ v1 < 360)) ∧
    (vm_C 166 [vm_r 96, vm_i (m 108 v1), vm_i 1, vm_i v2] m (vm_qi (fun z1 m1 =>
      ((z1 = (-1) →
        Q 1 m1) ∧ (¬ z1 = (-1) →
        ((vm_32 (v1 + 1)) ∧ (0 ≤ (v1 + 1) ∧ (v1 + 1) < 360)) ∧
        (vm_C 166 [vm_r 96, vm_i (m1 108 (v1 + 1)), vm_i 0, vm_i v2] m1 (vm_qi (fun z2 m2 =>
          ((¬ z2 = (-1) →
            Q 0 m2) ∧ (¬ ¬ z2 = (-1) →
            Q 1 m2))))))))))) : vm_C 262 [vm_r 96, vm_i v1, vm_i v2] m (vm_qi Q) := by
  show vm_G 262 0 [some (vm_r 96), some (vm_i v1), some (vm_i v2)] [] m (vm_qi Q)
  obtain ⟨o1_0, h⟩ := h
  refine vm_gp [(.aload 0, 0, 0, []), (.aload 0, 0, 0, []), (.getfield 2, 11, 23, [(108, 0)]), (.iload 1, 0, 0, []), (.iaload, 360, 0, []), (.iconst 1, 0, 0, []), (.iload 2, 0, 0, [])] (pc1 := 9) (ls1 := [some (vm_r 96), some (vm_i v1), some (vm_i v2)]) (st1 := [vm_i v2, vm_i 1, vm_i (m 108 v1), vm_r 96]) (m1 := m) (ob := ((((true && vm_is 96 11) && true) && vm_ar 108 100 360) && decide (0 ≤ v1 ∧ v1 < 360))) (by decide +kernel) rfl (vm_t (vm_u (vm_u (vm_u rfl (by decide +kernel)) rfl) (by decide +kernel)) o1_0) ?_
  refine vm_gc (g := 166) (na := 4) (av := [vm_r 96, vm_i (m 108 v1), vm_i 1, vm_i v2]) (rest := []) (i := (.invokevirtual 0, 166, 4, [])) (len := 3) (by decide +kernel) rfl rfl rfl (by decide +kernel) (by decide +kernel) rfl rfl (vm_u (vm_okh_v (c := 11) (by decide +kernel) (by decide +kernel)) (show vm_okn 166 4 0 0 0 4 = true by decide +kernel)) ?_
  refine vm_G.mono h ?_
  rintro _ m1 ⟨z1, rfl, h⟩
  show vm_G 262 12 [some (vm_r 96), some (vm_i v1), some (vm_i v2)] [vm_i z1] m1 _
  refine vm_gp [(.iconst (-1), 0, 0, [])] (pc1 := 13) (ls1 := [some (vm_r 96), some (vm_i v1), some (vm_i v2)]) (st1 := [vm_i (-1), vm_i z1]) (m1 := m1) (ob := true) (by decide +kernel) rfl rfl ?_
  refine vm_gj (c := z1 = (-1)) (t := 34) (e := 16) (i := (.if_icmp .eq 0, 34, 0, [])) (len := 3) (st1 := []) (by decide +kernel) rfl rfl (fun c1 => ?_) (fun c1 => ?_)
  · replace h := h.1 c1
    refine vm_gp [(.iconst 1, 0, 0, []), (.goto 0, 39, 0, [])] (pc1 := 39) (ls1 := [some (vm_r 96), some (vm_i v1), some (vm_i v2)]) (st1 := [vm_i 1]) (m1 := m1) (ob := true) (by decide +kernel) rfl rfl ?_
    exact vm_gr (r := some (vm_i 1)) (i := (.ireturn, 2, 0, [])) (len := 1) (by decide +kernel) rfl rfl (by decide) ⟨_, rfl, h⟩
  · replace h := h.2 c1
    obtain ⟨⟨o4_0, o4_1⟩, h⟩ := h
    refine vm_gp [(.aload 0, 0, 0, []), (.aload 0, 0, 0, []), (.getfield 2, 11, 23, [(108, 0)]), (.iload 1, 0, 0, []), (.iconst 1, 0, 0, []), (.iadd, 0, 0, []), (.iaload, 360, 0, []), (.iconst 0, 0, 0, []), (.iload 2, 0, 0, [])] (pc1 := 27) (ls1 := [some (vm_r 96), some (vm_i v1), some (vm_i v2)]) (st1 := [vm_i v2, vm_i 0, vm_i (m1 108 (v1 + 1)), vm_r 96]) (m1 := m1) (ob := (((((true && vm_is 96 11) && true) && decide (vm_32 (v1 + 1))) && vm_ar 108 100 360) && decide (0 ≤ (v1 + 1) ∧ (v1 + 1) < 360))) (by decide +kernel) rfl (vm_t (vm_u (vm_t (vm_u (vm_u rfl (by decide +kernel)) rfl) o4_0) (by decide +kernel)) o4_1) ?_
    refine vm_gc (g := 166) (na := 4) (av := [vm_r 96, vm_i (m1 108 (v1 + 1)), vm_i 0, vm_i v2]) (rest := []) (i := (.invokevirtual 0, 166, 4, [])) (len := 3) (by decide +kernel) rfl rfl rfl (by decide +kernel) (by decide +kernel) rfl rfl (vm_u (vm_okh_v (c := 11) (by decide +kernel) (by decide +kernel)) (show vm_okn 166 4 0 0 0 4 = true by decide +kernel)) ?_
    refine vm_G.mono h ?_
    rintro _ m2 ⟨z2, rfl, h⟩
    show vm_G 262 30 [some (vm_r 96), some (vm_i v1), some (vm_i v2)] [vm_i z2] m2 _
    refine vm_gp [(.iconst (-1), 0, 0, [])] (pc1 := 31) (ls1 := [some (vm_r 96), some (vm_i v1), some (vm_i v2)]) (st1 := [vm_i (-1), vm_i z2]) (m1 := m2) (ob := true) (by decide +kernel) rfl rfl ?_
    refine vm_gj (c := ¬ z2 = (-1)) (t := 38) (e := 34) (i := (.if_icmp .ne 0, 38, 0, [])) (len := 3) (st1 := []) (by decide +kernel) rfl rfl (fun c2 => ?_) (fun c2 => ?_)
    · replace h := h.1 c2
      refine vm_gp [(.iconst 0, 0, 0, [])] (pc1 := 39) (ls1 := [some (vm_r 96), some (vm_i v1), some (vm_i v2)]) (st1 := [vm_i 0]) (m1 := m2) (ob := true) (by decide +kernel) rfl rfl ?_
      exact vm_gr (r := some (vm_i 0)) (i := (.ireturn, 2, 0, [])) (len := 1) (by decide +kernel) rfl rfl (by decide) ⟨_, rfl, h⟩
    · replace h := h.2 c2
      refine vm_gp [(.iconst 1, 0, 0, []), (.goto 0, 39, 0, [])] (pc1 := 39) (ls1 := [some (vm_r 96), some (vm_i v1), some (vm_i v2)]) (st1 := [vm_i 1]) (m1 := m2) (ob := true) (by decide +kernel) rfl rfl ?_
      exact vm_gr (r := some (vm_i 1)) (i := (.ireturn, 2, 0, [])) (len := 1) (by decide +kernel) rfl rfl (by decide) ⟨_, rfl, h⟩
abbrev ku11_whiteIn_0 (v1 : Int) (v2 : Int) (m : vm_M) (Q : Int → vm_M → Prop) : Prop := vm_G 263 0 [some (vm_r 96), some (vm_i v1), some (vm_i v2)] [] m (vm_qi Q)
set_option maxRecDepth 20000 in
theorem ru11_whiteIn_0 {v1 : Int} {v2 : Int} {m : vm_M} {Q : Int → vm_M → Prop}  (h :
    ((0 ≤ v1 ∧ v1 < 360)) ∧
    (vm_C 166 [vm_r 96, vm_i (m 108 v1), vm_i 1, vm_i v2] m (vm_qi (fun z1 m1 =>
      ((vm_32 (v1 + 1)) ∧ (0 ≤ (v1 + 1) ∧ (v1 + 1) < 360)) ∧
      (vm_C 166 [vm_r 96, vm_i (m1 108 (v1 + 1)), vm_i 0, vm_i v2] m1 (vm_qi (fun z2 m2 =>
        ((vm_32 (z1 + z2)) ∧ (0 ≤ v1 ∧ v1 < 360) ∧ (vm_32 ((z1 + z2) + (m2 110 v1))) ∧ (vm_32 (((z1 + z2) + (m2 110 v1)) * (m2 100 5)))) ∧
        Q (((z1 + z2) + (m2 110 v1)) * (m2 100 5)) m2))))))) : vm_C 263 [vm_r 96, vm_i v1, vm_i v2] m (vm_qi Q) := by
  show vm_G 263 0 [some (vm_r 96), some (vm_i v1), some (vm_i v2)] [] m (vm_qi Q)
  obtain ⟨o1_0, h⟩ := h
  refine vm_gp [(.aload 0, 0, 0, []), (.aload 0, 0, 0, []), (.getfield 2, 11, 23, [(108, 0)]), (.iload 1, 0, 0, []), (.iaload, 360, 0, []), (.iconst 1, 0, 0, []), (.iload 2, 0, 0, [])] (pc1 := 9) (ls1 := [some (vm_r 96), some (vm_i v1), some (vm_i v2)]) (st1 := [vm_i v2, vm_i 1, vm_i (m 108 v1), vm_r 96]) (m1 := m) (ob := ((((true && vm_is 96 11) && true) && vm_ar 108 100 360) && decide (0 ≤ v1 ∧ v1 < 360))) (by decide +kernel) rfl (vm_t (vm_u (vm_u (vm_u rfl (by decide +kernel)) rfl) (by decide +kernel)) o1_0) ?_
  refine vm_gc (g := 166) (na := 4) (av := [vm_r 96, vm_i (m 108 v1), vm_i 1, vm_i v2]) (rest := []) (i := (.invokevirtual 0, 166, 4, [])) (len := 3) (by decide +kernel) rfl rfl rfl (by decide +kernel) (by decide +kernel) rfl rfl (vm_u (vm_okh_v (c := 11) (by decide +kernel) (by decide +kernel)) (show vm_okn 166 4 0 0 0 4 = true by decide +kernel)) ?_
  refine vm_G.mono h ?_
  rintro _ m1 ⟨z1, rfl, h⟩
  show vm_G 263 12 [some (vm_r 96), some (vm_i v1), some (vm_i v2)] [vm_i z1] m1 _
  obtain ⟨⟨o2_0, o2_1⟩, h⟩ := h
  refine vm_gp [(.aload 0, 0, 0, []), (.aload 0, 0, 0, []), (.getfield 2, 11, 23, [(108, 0)]), (.iload 1, 0, 0, []), (.iconst 1, 0, 0, []), (.iadd, 0, 0, []), (.iaload, 360, 0, []), (.iconst 0, 0, 0, []), (.iload 2, 0, 0, [])] (pc1 := 23) (ls1 := [some (vm_r 96), some (vm_i v1), some (vm_i v2)]) (st1 := [vm_i v2, vm_i 0, vm_i (m1 108 (v1 + 1)), vm_r 96, vm_i z1]) (m1 := m1) (ob := (((((true && vm_is 96 11) && true) && decide (vm_32 (v1 + 1))) && vm_ar 108 100 360) && decide (0 ≤ (v1 + 1) ∧ (v1 + 1) < 360))) (by decide +kernel) rfl (vm_t (vm_u (vm_t (vm_u (vm_u rfl (by decide +kernel)) rfl) o2_0) (by decide +kernel)) o2_1) ?_
  refine vm_gc (g := 166) (na := 4) (av := [vm_r 96, vm_i (m1 108 (v1 + 1)), vm_i 0, vm_i v2]) (rest := [vm_i z1]) (i := (.invokevirtual 0, 166, 4, [])) (len := 3) (by decide +kernel) rfl rfl rfl (by decide +kernel) (by decide +kernel) rfl rfl (vm_u (vm_okh_v (c := 11) (by decide +kernel) (by decide +kernel)) (show vm_okn 166 4 1 0 0 4 = true by decide +kernel)) ?_
  refine vm_G.mono h ?_
  rintro _ m2 ⟨z2, rfl, h⟩
  show vm_G 263 26 [some (vm_r 96), some (vm_i v1), some (vm_i v2)] [vm_i z2, vm_i z1] m2 _
  obtain ⟨⟨o3_0, o3_1, o3_2, o3_3⟩, h⟩ := h
  refine vm_gp [(.iadd, 0, 0, []), (.aload 0, 0, 0, []), (.getfield 2, 11, 25, [(110, 0)]), (.iload 1, 0, 0, []), (.iaload, 360, 0, []), (.iadd, 0, 0, []), (.aload 0, 0, 0, []), (.getfield 2, 11, 7, [(100, 0)]), (.iconst 5, 0, 0, []), (.iaload, 1075, 0, []), (.imul, 0, 0, [])] (pc1 := 41) (ls1 := [some (vm_r 96), some (vm_i v1), some (vm_i v2)]) (st1 := [vm_i (((z1 + z2) + (m2 110 v1)) * (m2 100 5))]) (m1 := m2) (ob := (((((((((((true && decide (vm_32 (z1 + z2))) && vm_is 96 11) && true) && vm_ar 110 100 360) && decide (0 ≤ v1 ∧ v1 < 360)) && decide (vm_32 ((z1 + z2) + (m2 110 v1)))) && vm_is 96 11) && true) && vm_ar 100 100 1075) && decide ((0 : Int) ≤ 5 ∧ (5 : Int) < 1075)) && decide (vm_32 (((z1 + z2) + (m2 110 v1)) * (m2 100 5))))) (by decide +kernel) rfl (vm_t (vm_t (vm_u (vm_u (vm_u (vm_t (vm_t (vm_u (vm_u (vm_u (vm_t rfl o3_0) (by decide +kernel)) rfl) (by decide +kernel)) o3_1) o3_2) (by decide +kernel)) rfl) (by decide +kernel)) (by decide)) o3_3) ?_
  exact vm_gr (r := some (vm_i (((z1 + z2) + (m2 110 v1)) * (m2 100 5)))) (i := (.ireturn, 1, 0, [])) (len := 1) (by decide +kernel) rfl rfl rfl ⟨_, rfl, h⟩
abbrev ku11_white_0 (v1 : Int) (v2 : Int) (v3 : Int) (m : vm_M) (Q : Int → vm_M → Prop) : Prop := vm_G 264 0 [some (vm_r 96), some (vm_i v1), some (vm_i v2), some (vm_i v3)] [] m (vm_qi Q)
set_option maxRecDepth 20000 in
theorem ru11_white_0 {v1 : Int} {v2 : Int} {v3 : Int} {m : vm_M} {Q : Int → vm_M → Prop}  (h :
    (vm_C 196 [vm_r 96, vm_i v1] m (vm_qi (fun z1 m1 =>
      ((z1 = 0 →
        Q (-1) m1) ∧ (¬ z1 = 0 →
        ((v2 < 0 →
          Q (-1) m1) ∧ (¬ v2 < 0 →
          (vm_C 164 [vm_l v3, vm_l 0, vm_l 5] m1 (vm_qi (fun z2 m2 =>
            ((¬ z2 = 0 →
              (vm_C 258 [vm_r 96, vm_i v2] m2 (vm_qi (fun z3 m3 =>
                ((z3 = 0 →
                  Q (-2) m3) ∧ (¬ z3 = 0 →
                  (vm_C 262 [vm_r 96, vm_i v2, vm_i v3] m3 (vm_qi (fun z4 m4 =>
                    ((z4 = 0 →
                      (vm_C 263 [vm_r 96, vm_i v2, vm_i v3] m4 (vm_qi (fun z5 m5 =>
                        ((vm_32 (z5 + 1000))) ∧
                        Q (z5 + 1000) m5)))) ∧ (¬ z4 = 0 →
                      Q (-2) m4))))))))))) ∧ (¬ ¬ z2 = 0 →
              Q (-1) m2))))))))))))) : vm_C 264 [vm_r 96, vm_i v1, vm_i v2, vm_i v3] m (vm_qi Q) := by
  show vm_G 264 0 [some (vm_r 96), some (vm_i v1), some (vm_i v2), some (vm_i v3)] [] m (vm_qi Q)
  refine vm_gp [(.aload 0, 0, 0, []), (.iload 1, 0, 0, [])] (pc1 := 2) (ls1 := [some (vm_r 96), some (vm_i v1), some (vm_i v2), some (vm_i v3)]) (st1 := [vm_i v1, vm_r 96]) (m1 := m) (ob := true) (by decide +kernel) rfl rfl ?_
  refine vm_gc (g := 196) (na := 2) (av := [vm_r 96, vm_i v1]) (rest := []) (i := (.invokevirtual 0, 196, 2, [])) (len := 3) (by decide +kernel) rfl rfl rfl (by decide +kernel) (by decide +kernel) rfl rfl (vm_u (vm_okh_v (c := 11) (by decide +kernel) (by decide +kernel)) (show vm_okn 196 2 0 0 0 2 = true by decide +kernel)) ?_
  refine vm_G.mono h ?_
  rintro _ m1 ⟨z1, rfl, h⟩
  show vm_G 264 5 [some (vm_r 96), some (vm_i v1), some (vm_i v2), some (vm_i v3)] [vm_i z1] m1 _
  refine vm_gj (c := z1 = 0) (t := 24) (e := 8) (i := (.ifCond .eq 0, 24, 0, [])) (len := 3) (st1 := []) (by decide +kernel) rfl rfl (fun c1 => ?_) (fun c1 => ?_)
  · replace h := h.1 c1
    refine vm_gp [(.iconst (-1), 0, 0, [])] (pc1 := 25) (ls1 := [some (vm_r 96), some (vm_i v1), some (vm_i v2), some (vm_i v3)]) (st1 := [vm_i (-1)]) (m1 := m1) (ob := true) (by decide +kernel) rfl rfl ?_
    exact vm_gr (r := some (vm_i (-1))) (i := (.ireturn, 1, 0, [])) (len := 1) (by decide +kernel) rfl rfl rfl ⟨_, rfl, h⟩
  · replace h := h.2 c1
    refine vm_gp [(.iload 2, 0, 0, [])] (pc1 := 9) (ls1 := [some (vm_r 96), some (vm_i v1), some (vm_i v2), some (vm_i v3)]) (st1 := [vm_i v2]) (m1 := m1) (ob := true) (by decide +kernel) rfl rfl ?_
    refine vm_gj (c := v2 < 0) (t := 24) (e := 12) (i := (.ifCond .lt 0, 24, 0, [])) (len := 3) (st1 := []) (by decide +kernel) rfl rfl (fun c2 => ?_) (fun c2 => ?_)
    · replace h := h.1 c2
      refine vm_gp [(.iconst (-1), 0, 0, [])] (pc1 := 25) (ls1 := [some (vm_r 96), some (vm_i v1), some (vm_i v2), some (vm_i v3)]) (st1 := [vm_i (-1)]) (m1 := m1) (ob := true) (by decide +kernel) rfl rfl ?_
      exact vm_gr (r := some (vm_i (-1))) (i := (.ireturn, 1, 0, [])) (len := 1) (by decide +kernel) rfl rfl rfl ⟨_, rfl, h⟩
    · replace h := h.2 c2
      refine vm_gp [(.iload 3, 0, 0, []), (.i2l, 0, 0, []), (.ldc2_w 0, 0, 0, [(0, 0)]), (.ldc2_w 0, 0, 0, [(5, 0)])] (pc1 := 18) (ls1 := [some (vm_r 96), some (vm_i v1), some (vm_i v2), some (vm_i v3)]) (st1 := [vm_l 5, vm_l 0, vm_l v3]) (m1 := m1) (ob := true) (by decide +kernel) rfl rfl ?_
      refine vm_gc (g := 164) (na := 3) (av := [vm_l v3, vm_l 0, vm_l 5]) (rest := []) (i := (.invokestatic 0, 164, 3, [])) (len := 3) (by decide +kernel) rfl rfl rfl (by decide +kernel) (by decide +kernel) rfl rfl (vm_u (vm_okh_s (by decide +kernel)) (show vm_okn 164 3 0 0 0 6 = true by decide +kernel)) ?_
      refine vm_G.mono h ?_
      rintro _ m2 ⟨z2, rfl, h⟩
      show vm_G 264 21 [some (vm_r 96), some (vm_i v1), some (vm_i v2), some (vm_i v3)] [vm_i z2] m2 _
      refine vm_gj (c := ¬ z2 = 0) (t := 26) (e := 24) (i := (.ifCond .ne 0, 26, 0, [])) (len := 3) (st1 := []) (by decide +kernel) rfl rfl (fun c3 => ?_) (fun c3 => ?_)
      · replace h := h.1 c3
        refine vm_gp [(.aload 0, 0, 0, []), (.iload 2, 0, 0, [])] (pc1 := 28) (ls1 := [some (vm_r 96), some (vm_i v1), some (vm_i v2), some (vm_i v3)]) (st1 := [vm_i v2, vm_r 96]) (m1 := m2) (ob := true) (by decide +kernel) rfl rfl ?_
        refine vm_gc (g := 258) (na := 2) (av := [vm_r 96, vm_i v2]) (rest := []) (i := (.invokevirtual 0, 258, 2, [])) (len := 3) (by decide +kernel) rfl rfl rfl (by decide +kernel) (by decide +kernel) rfl rfl (vm_u (vm_okh_v (c := 11) (by decide +kernel) (by decide +kernel)) (show vm_okn 258 2 0 0 0 2 = true by decide +kernel)) ?_
        refine vm_G.mono h ?_
        rintro _ m3 ⟨z3, rfl, h⟩
        show vm_G 264 31 [some (vm_r 96), some (vm_i v1), some (vm_i v2), some (vm_i v3)] [vm_i z3] m3 _
        refine vm_gj (c := z3 = 0) (t := 43) (e := 34) (i := (.ifCond .eq 0, 43, 0, [])) (len := 3) (st1 := []) (by decide +kernel) rfl rfl (fun c4 => ?_) (fun c4 => ?_)
        · replace h := h.1 c4
          refine vm_gp [(.iconst (-2), 0, 0, []), (.goto 0, 58, 0, [])] (pc1 := 58) (ls1 := [some (vm_r 96), some (vm_i v1), some (vm_i v2), some (vm_i v3)]) (st1 := [vm_i (-2)]) (m1 := m3) (ob := true) (by decide +kernel) rfl rfl ?_
          exact vm_gr (r := some (vm_i (-2))) (i := (.ireturn, 1, 0, [])) (len := 1) (by decide +kernel) rfl rfl rfl ⟨_, rfl, h⟩
        · replace h := h.2 c4
          refine vm_gp [(.aload 0, 0, 0, []), (.iload 2, 0, 0, []), (.iload 3, 0, 0, [])] (pc1 := 37) (ls1 := [some (vm_r 96), some (vm_i v1), some (vm_i v2), some (vm_i v3)]) (st1 := [vm_i v3, vm_i v2, vm_r 96]) (m1 := m3) (ob := true) (by decide +kernel) rfl rfl ?_
          refine vm_gc (g := 262) (na := 3) (av := [vm_r 96, vm_i v2, vm_i v3]) (rest := []) (i := (.invokevirtual 0, 262, 3, [])) (len := 3) (by decide +kernel) rfl rfl rfl (by decide +kernel) (by decide +kernel) rfl rfl (vm_u (vm_okh_v (c := 11) (by decide +kernel) (by decide +kernel)) (show vm_okn 262 3 0 0 0 3 = true by decide +kernel)) ?_
          refine vm_G.mono h ?_
          rintro _ m4 ⟨z4, rfl, h⟩
          show vm_G 264 40 [some (vm_r 96), some (vm_i v1), some (vm_i v2), some (vm_i v3)] [vm_i z4] m4 _
          refine vm_gj (c := z4 = 0) (t := 48) (e := 43) (i := (.ifCond .eq 0, 48, 0, [])) (len := 3) (st1 := []) (by decide +kernel) rfl rfl (fun c5 => ?_) (fun c5 => ?_)
          · replace h := h.1 c5
            refine vm_gp [(.aload 0, 0, 0, []), (.iload 2, 0, 0, []), (.iload 3, 0, 0, [])] (pc1 := 51) (ls1 := [some (vm_r 96), some (vm_i v1), some (vm_i v2), some (vm_i v3)]) (st1 := [vm_i v3, vm_i v2, vm_r 96]) (m1 := m4) (ob := true) (by decide +kernel) rfl rfl ?_
            refine vm_gc (g := 263) (na := 3) (av := [vm_r 96, vm_i v2, vm_i v3]) (rest := []) (i := (.invokevirtual 0, 263, 3, [])) (len := 3) (by decide +kernel) rfl rfl rfl (by decide +kernel) (by decide +kernel) rfl rfl (vm_u (vm_okh_v (c := 11) (by decide +kernel) (by decide +kernel)) (show vm_okn 263 3 0 0 0 3 = true by decide +kernel)) ?_
            refine vm_G.mono h ?_
            rintro _ m5 ⟨z5, rfl, h⟩
            show vm_G 264 54 [some (vm_r 96), some (vm_i v1), some (vm_i v2), some (vm_i v3)] [vm_i z5] m5 _
            obtain ⟨o14_0, h⟩ := h
            refine vm_gp [(.iconst 1000, 0, 0, []), (.iadd, 0, 0, [])] (pc1 := 58) (ls1 := [some (vm_r 96), some (vm_i v1), some (vm_i v2), some (vm_i v3)]) (st1 := [vm_i (z5 + 1000)]) (m1 := m5) (ob := (true && decide (vm_32 (z5 + 1000)))) (by decide +kernel) rfl (vm_t rfl o14_0) ?_
            exact vm_gr (r := some (vm_i (z5 + 1000))) (i := (.ireturn, 1, 0, [])) (len := 1) (by decide +kernel) rfl rfl rfl ⟨_, rfl, h⟩
          · replace h := h.2 c5
            refine vm_gp [(.iconst (-2), 0, 0, []), (.goto 0, 58, 0, [])] (pc1 := 58) (ls1 := [some (vm_r 96), some (vm_i v1), some (vm_i v2), some (vm_i v3)]) (st1 := [vm_i (-2)]) (m1 := m4) (ob := true) (by decide +kernel) rfl rfl ?_
            exact vm_gr (r := some (vm_i (-2))) (i := (.ireturn, 1, 0, [])) (len := 1) (by decide +kernel) rfl rfl rfl ⟨_, rfl, h⟩
      · replace h := h.2 c3
        refine vm_gp [(.iconst (-1), 0, 0, [])] (pc1 := 25) (ls1 := [some (vm_r 96), some (vm_i v1), some (vm_i v2), some (vm_i v3)]) (st1 := [vm_i (-1)]) (m1 := m2) (ob := true) (by decide +kernel) rfl rfl ?_
        exact vm_gr (r := some (vm_i (-1))) (i := (.ireturn, 1, 0, [])) (len := 1) (by decide +kernel) rfl rfl rfl ⟨_, rfl, h⟩
abbrev ku11_touches_0 (v1 : Int) (m : vm_M) (Q : Int → vm_M → Prop) : Prop := vm_G 265 0 [some (vm_r 96), some (vm_i v1), none, none, none, none] [] m (vm_qi Q)
abbrev ku11_touches_14 (v1 : Int) (v2 : Int) (v3 : Int) (w4 : Option vm_V) (w5 : Option vm_V) (m : vm_M) (Q : Int → vm_M → Prop) : Prop := vm_G 265 14 [some (vm_r 96), some (vm_i v1), some (vm_i v2), some (vm_i v3), w4, w5] [] m (vm_qi Q)
abbrev ku11_touches_28 (v1 : Int) (v2 : Int) (v3 : Int) (v4 : Int) (v5 : Int) (m : vm_M) (Q : Int → vm_M → Prop) : Prop := vm_G 265 28 [some (vm_r 96), some (vm_i v1), some (vm_i v2), some (vm_i v3), some (vm_i v4), some (vm_i v5)] [] m (vm_qi Q)
set_option maxRecDepth 20000 in
theorem ru11_touches_0 {v1 : Int} {m : vm_M} {Q : Int → vm_M → Prop}  (h :
    (vm_C 196 [vm_r 96, vm_i v1] m (vm_qi (fun z1 m1 =>
      ((¬ z1 = 0 →
        ku11_touches_14 v1 0 0 none none m1 Q) ∧ (¬ ¬ z1 = 0 →
        Q (-1) m1)))))) : vm_C 265 [vm_r 96, vm_i v1] m (vm_qi Q) := by
  show vm_G 265 0 [some (vm_r 96), some (vm_i v1), none, none, none, none] [] m (vm_qi Q)
  refine vm_gp [(.aload 0, 0, 0, []), (.iload 1, 0, 0, [])] (pc1 := 2) (ls1 := [some (vm_r 96), some (vm_i v1), none, none, none, none]) (st1 := [vm_i v1, vm_r 96]) (m1 := m) (ob := true) (by decide +kernel) rfl rfl ?_
  refine vm_gc (g := 196) (na := 2) (av := [vm_r 96, vm_i v1]) (rest := []) (i := (.invokevirtual 0, 196, 2, [])) (len := 3) (by decide +kernel) rfl rfl rfl (by decide +kernel) (by decide +kernel) rfl rfl (vm_u (vm_okh_v (c := 11) (by decide +kernel) (by decide +kernel)) (show vm_okn 196 2 0 0 0 2 = true by decide +kernel)) ?_
  refine vm_G.mono h ?_
  rintro _ m1 ⟨z1, rfl, h⟩
  show vm_G 265 5 [some (vm_r 96), some (vm_i v1), none, none, none, none] [vm_i z1] m1 _
  refine vm_gj (c := ¬ z1 = 0) (t := 10) (e := 8) (i := (.ifCond .ne 0, 10, 0, [])) (len := 3) (st1 := []) (by decide +kernel) rfl rfl (fun c1 => ?_) (fun c1 => ?_)
  · replace h := h.1 c1
    refine vm_gp [(.iconst 0, 0, 0, []), (.istore 2, 0, 0, []), (.iconst 0, 0, 0, []), (.istore 3, 0, 0, [])] (pc1 := 14) (ls1 := [some (vm_r 96), some (vm_i v1), some (vm_i 0), some (vm_i 0), none, none]) (st1 := []) (m1 := m1) (ob := true) (by decide +kernel) rfl rfl ?_
    exact h
  · replace h := h.2 c1
    refine vm_gp [(.iconst (-1), 0, 0, [])] (pc1 := 9) (ls1 := [some (vm_r 96), some (vm_i v1), none, none, none, none]) (st1 := [vm_i (-1)]) (m1 := m1) (ob := true) (by decide +kernel) rfl rfl ?_
    exact vm_gr (r := some (vm_i (-1))) (i := (.ireturn, 1, 0, [])) (len := 1) (by decide +kernel) rfl rfl rfl ⟨_, rfl, h⟩
set_option maxRecDepth 20000 in
theorem ru11_touches_14 {v1 : Int} {v2 : Int} {v3 : Int} {w4 : Option vm_V} {w5 : Option vm_V} {m : vm_M} {Q : Int → vm_M → Prop}  (h :
    (((m 96 22) ≤ v3 →
      Q v2 m) ∧ (¬ (m 96 22) ≤ v3 →
      ku11_touches_28 v1 v2 v3 0 0 m Q))) : ku11_touches_14 v1 v2 v3 w4 w5 m Q := by
  show vm_G 265 14 [some (vm_r 96), some (vm_i v1), some (vm_i v2), some (vm_i v3), w4, w5] [] m (vm_qi Q)
  refine vm_gp [(.iload 3, 0, 0, []), (.aload 0, 0, 0, []), (.getfield 0, 11, 22, [])] (pc1 := 19) (ls1 := [some (vm_r 96), some (vm_i v1), some (vm_i v2), some (vm_i v3), w4, w5]) (st1 := [vm_i (m 96 22), vm_i v3]) (m1 := m) (ob := (true && vm_is 96 11)) (by decide +kernel) rfl (vm_u rfl (by decide +kernel)) ?_
  refine vm_gj (c := (m 96 22) ≤ v3) (t := 100) (e := 22) (i := (.if_icmp .ge 0, 100, 0, [])) (len := 3) (st1 := []) (by decide +kernel) rfl rfl (fun c1 => ?_) (fun c1 => ?_)
  · replace h := h.1 c1
    refine vm_gp [(.iload 2, 0, 0, [])] (pc1 := 101) (ls1 := [some (vm_r 96), some (vm_i v1), some (vm_i v2), some (vm_i v3), w4, w5]) (st1 := [vm_i v2]) (m1 := m) (ob := true) (by decide +kernel) rfl rfl ?_
    exact vm_gr (r := some (vm_i v2)) (i := (.ireturn, 1, 0, [])) (len := 1) (by decide +kernel) rfl rfl rfl ⟨_, rfl, h⟩
  · replace h := h.2 c1
    refine vm_gp [(.iconst 0, 0, 0, []), (.istore 4, 0, 0, []), (.iconst 0, 0, 0, []), (.istore 5, 0, 0, [])] (pc1 := 28) (ls1 := [some (vm_r 96), some (vm_i v1), some (vm_i v2), some (vm_i v3), some (vm_i 0), some (vm_i 0)]) (st1 := []) (m1 := m) (ob := true) (by decide +kernel) rfl rfl ?_
    exact h
set_option maxRecDepth 20000 in
theorem ru11_touches_28 {v1 : Int} {v2 : Int} {v3 : Int} {v4 : Int} {v5 : Int} {m : vm_M} {Q : Int → vm_M → Prop}  (h :
    ((6 ≤ v5 →
      ((v4 = 0 →
        ((vm_32 (v2 + 0)) ∧ (vm_32 (v3 + 1))) ∧
        ku11_touches_14 v1 (v2 + 0) (v3 + 1) (some (vm_i v4)) (some (vm_i v5)) m Q) ∧ (¬ v4 = 0 →
        ((vm_32 (v2 + 1)) ∧ (vm_32 (v3 + 1))) ∧
        ku11_touches_14 v1 (v2 + 1) (v3 + 1) (some (vm_i v4)) (some (vm_i v5)) m Q))) ∧ (¬ 6 ≤ v5 →
      (vm_C 258 [vm_r 96, vm_i v3] m (vm_qi (fun z1 m1 =>
        ((z1 = 0 →
          ((v4 = 0 →
            ((vm_32 (v2 + 0)) ∧ (vm_32 (v3 + 1))) ∧
            ku11_touches_14 v1 (v2 + 0) (v3 + 1) (some (vm_i v4)) (some (vm_i v5)) m1 Q) ∧ (¬ v4 = 0 →
            ((vm_32 (v2 + 1)) ∧ (vm_32 (v3 + 1))) ∧
            ku11_touches_14 v1 (v2 + 1) (v3 + 1) (some (vm_i v4)) (some (vm_i v5)) m1 Q))) ∧ (¬ z1 = 0 →
          ((¬ v4 = 0 →
            ((vm_32 (v5 + 1))) ∧
            ku11_touches_28 v1 v2 v3 1 (v5 + 1) m1 Q) ∧ (¬ ¬ v4 = 0 →
            (vm_C 262 [vm_r 96, vm_i v3, vm_i v5] m1 (vm_qi (fun z2 m2 =>
              ((¬ z2 = 0 →
                ((vm_32 (v5 + 1))) ∧
                ku11_touches_28 v1 v2 v3 0 (v5 + 1) m2 Q) ∧ (¬ ¬ z2 = 0 →
                (vm_C 263 [vm_r 96, vm_i v3, vm_i v5] m2 (vm_qi (fun z3 m3 =>
                  ((0 < z3 →
                    ((vm_32 (v5 + 1))) ∧
                    ku11_touches_28 v1 v2 v3 0 (v5 + 1) m3 Q) ∧ (¬ 0 < z3 →
                    ((vm_32 (v5 + 1))) ∧
                    ku11_touches_28 v1 v2 v3 1 (v5 + 1) m3 Q)))))))))))))))))))) : ku11_touches_28 v1 v2 v3 v4 v5 m Q := by
  show vm_G 265 28 [some (vm_r 96), some (vm_i v1), some (vm_i v2), some (vm_i v3), some (vm_i v4), some (vm_i v5)] [] m (vm_qi Q)
  refine vm_gp [(.iload 5, 0, 0, []), (.iconst 6, 0, 0, [])] (pc1 := 32) (ls1 := [some (vm_r 96), some (vm_i v1), some (vm_i v2), some (vm_i v3), some (vm_i v4), some (vm_i v5)]) (st1 := [vm_i 6, vm_i v5]) (m1 := m) (ob := true) (by decide +kernel) rfl rfl ?_
  refine vm_gj (c := 6 ≤ v5) (t := 81) (e := 35) (i := (.if_icmp .ge 0, 81, 0, [])) (len := 3) (st1 := []) (by decide +kernel) rfl rfl (fun c1 => ?_) (fun c1 => ?_)
  · replace h := h.1 c1
    refine vm_gp [(.iload 2, 0, 0, []), (.iload 4, 0, 0, [])] (pc1 := 84) (ls1 := [some (vm_r 96), some (vm_i v1), some (vm_i v2), some (vm_i v3), some (vm_i v4), some (vm_i v5)]) (st1 := [vm_i v4, vm_i v2]) (m1 := m) (ob := true) (by decide +kernel) rfl rfl ?_
    refine vm_gj (c := v4 = 0) (t := 91) (e := 87) (i := (.ifCond .eq 0, 91, 0, [])) (len := 3) (st1 := [vm_i v2]) (by decide +kernel) rfl rfl (fun c2 => ?_) (fun c2 => ?_)
    · replace h := h.1 c2
      obtain ⟨⟨o3_0, o3_1⟩, h⟩ := h
      refine vm_gp [(.iconst 0, 0, 0, []), (.iadd, 0, 0, []), (.istore 2, 0, 0, []), (.iinc 3 1, 0, 0, []), (.goto 0, 14, 0, [])] (pc1 := 14) (ls1 := [some (vm_r 96), some (vm_i v1), some (vm_i (v2 + 0)), some (vm_i (v3 + 1)), some (vm_i v4), some (vm_i v5)]) (st1 := []) (m1 := m) (ob := ((true && decide (vm_32 (v2 + 0))) && decide (vm_32 (v3 + 1)))) (by decide +kernel) rfl (vm_t (vm_t rfl o3_0) o3_1) ?_
      exact h
    · replace h := h.2 c2
      obtain ⟨⟨o4_0, o4_1⟩, h⟩ := h
      refine vm_gp [(.iconst 1, 0, 0, []), (.goto 0, 92, 0, []), (.iadd, 0, 0, []), (.istore 2, 0, 0, []), (.iinc 3 1, 0, 0, []), (.goto 0, 14, 0, [])] (pc1 := 14) (ls1 := [some (vm_r 96), some (vm_i v1), some (vm_i (v2 + 1)), some (vm_i (v3 + 1)), some (vm_i v4), some (vm_i v5)]) (st1 := []) (m1 := m) (ob := ((true && decide (vm_32 (v2 + 1))) && decide (vm_32 (v3 + 1)))) (by decide +kernel) rfl (vm_t (vm_t rfl o4_0) o4_1) ?_
      exact h
  · replace h := h.2 c1
    refine vm_gp [(.aload 0, 0, 0, []), (.iload 3, 0, 0, [])] (pc1 := 37) (ls1 := [some (vm_r 96), some (vm_i v1), some (vm_i v2), some (vm_i v3), some (vm_i v4), some (vm_i v5)]) (st1 := [vm_i v3, vm_r 96]) (m1 := m) (ob := true) (by decide +kernel) rfl rfl ?_
    refine vm_gc (g := 258) (na := 2) (av := [vm_r 96, vm_i v3]) (rest := []) (i := (.invokevirtual 0, 258, 2, [])) (len := 3) (by decide +kernel) rfl rfl rfl (by decide +kernel) (by decide +kernel) rfl rfl (vm_u (vm_okh_v (c := 11) (by decide +kernel) (by decide +kernel)) (show vm_okn 258 2 0 0 0 2 = true by decide +kernel)) ?_
    refine vm_G.mono h ?_
    rintro _ m1 ⟨z1, rfl, h⟩
    show vm_G 265 40 [some (vm_r 96), some (vm_i v1), some (vm_i v2), some (vm_i v3), some (vm_i v4), some (vm_i v5)] [vm_i z1] m1 _
    refine vm_gj (c := z1 = 0) (t := 81) (e := 43) (i := (.ifCond .eq 0, 81, 0, [])) (len := 3) (st1 := []) (by decide +kernel) rfl rfl (fun c3 => ?_) (fun c3 => ?_)
    · replace h := h.1 c3
      refine vm_gp [(.iload 2, 0, 0, []), (.iload 4, 0, 0, [])] (pc1 := 84) (ls1 := [some (vm_r 96), some (vm_i v1), some (vm_i v2), some (vm_i v3), some (vm_i v4), some (vm_i v5)]) (st1 := [vm_i v4, vm_i v2]) (m1 := m1) (ob := true) (by decide +kernel) rfl rfl ?_
      refine vm_gj (c := v4 = 0) (t := 91) (e := 87) (i := (.ifCond .eq 0, 91, 0, [])) (len := 3) (st1 := [vm_i v2]) (by decide +kernel) rfl rfl (fun c4 => ?_) (fun c4 => ?_)
      · replace h := h.1 c4
        obtain ⟨⟨o8_0, o8_1⟩, h⟩ := h
        refine vm_gp [(.iconst 0, 0, 0, []), (.iadd, 0, 0, []), (.istore 2, 0, 0, []), (.iinc 3 1, 0, 0, []), (.goto 0, 14, 0, [])] (pc1 := 14) (ls1 := [some (vm_r 96), some (vm_i v1), some (vm_i (v2 + 0)), some (vm_i (v3 + 1)), some (vm_i v4), some (vm_i v5)]) (st1 := []) (m1 := m1) (ob := ((true && decide (vm_32 (v2 + 0))) && decide (vm_32 (v3 + 1)))) (by decide +kernel) rfl (vm_t (vm_t rfl o8_0) o8_1) ?_
        exact h
      · replace h := h.2 c4
        obtain ⟨⟨o9_0, o9_1⟩, h⟩ := h
        refine vm_gp [(.iconst 1, 0, 0, []), (.goto 0, 92, 0, []), (.iadd, 0, 0, []), (.istore 2, 0, 0, []), (.iinc 3 1, 0, 0, []), (.goto 0, 14, 0, [])] (pc1 := 14) (ls1 := [some (vm_r 96), some (vm_i v1), some (vm_i (v2 + 1)), some (vm_i (v3 + 1)), some (vm_i v4), some (vm_i v5)]) (st1 := []) (m1 := m1) (ob := ((true && decide (vm_32 (v2 + 1))) && decide (vm_32 (v3 + 1)))) (by decide +kernel) rfl (vm_t (vm_t rfl o9_0) o9_1) ?_
        exact h
    · replace h := h.2 c3
      refine vm_gp [(.iload 4, 0, 0, [])] (pc1 := 45) (ls1 := [some (vm_r 96), some (vm_i v1), some (vm_i v2), some (vm_i v3), some (vm_i v4), some (vm_i v5)]) (st1 := [vm_i v4]) (m1 := m1) (ob := true) (by decide +kernel) rfl rfl ?_
      refine vm_gj (c := ¬ v4 = 0) (t := 68) (e := 48) (i := (.ifCond .ne 0, 68, 0, [])) (len := 3) (st1 := []) (by decide +kernel) rfl rfl (fun c5 => ?_) (fun c5 => ?_)
      · replace h := h.1 c5
        obtain ⟨o11_0, h⟩ := h
        refine vm_gp [(.iconst 1, 0, 0, []), (.goto 0, 73, 0, []), (.istore 4, 0, 0, []), (.iinc 5 1, 0, 0, []), (.goto 0, 28, 0, [])] (pc1 := 28) (ls1 := [some (vm_r 96), some (vm_i v1), some (vm_i v2), some (vm_i v3), some (vm_i 1), some (vm_i (v5 + 1))]) (st1 := []) (m1 := m1) (ob := (true && decide (vm_32 (v5 + 1)))) (by decide +kernel) rfl (vm_t rfl o11_0) ?_
        exact h
      · replace h := h.2 c5
        refine vm_gp [(.aload 0, 0, 0, []), (.iload 3, 0, 0, []), (.iload 5, 0, 0, [])] (pc1 := 52) (ls1 := [some (vm_r 96), some (vm_i v1), some (vm_i v2), some (vm_i v3), some (vm_i v4), some (vm_i v5)]) (st1 := [vm_i v5, vm_i v3, vm_r 96]) (m1 := m1) (ob := true) (by decide +kernel) rfl rfl ?_
        refine vm_gc (g := 262) (na := 3) (av := [vm_r 96, vm_i v3, vm_i v5]) (rest := []) (i := (.invokevirtual 0, 262, 3, [])) (len := 3) (by decide +kernel) rfl rfl rfl (by decide +kernel) (by decide +kernel) rfl rfl (vm_u (vm_okh_v (c := 11) (by decide +kernel) (by decide +kernel)) (show vm_okn 262 3 0 0 0 3 = true by decide +kernel)) ?_
        refine vm_G.mono h ?_
        rintro _ m2 ⟨z2, rfl, h⟩
        show vm_G 265 55 [some (vm_r 96), some (vm_i v1), some (vm_i v2), some (vm_i v3), some (vm_i v4), some (vm_i v5)] [vm_i z2] m2 _
        refine vm_gj (c := ¬ z2 = 0) (t := 72) (e := 58) (i := (.ifCond .ne 0, 72, 0, [])) (len := 3) (st1 := []) (by decide +kernel) rfl rfl (fun c6 => ?_) (fun c6 => ?_)
        · replace h := h.1 c6
          obtain ⟨o14_0, h⟩ := h
          refine vm_gp [(.iconst 0, 0, 0, []), (.istore 4, 0, 0, []), (.iinc 5 1, 0, 0, []), (.goto 0, 28, 0, [])] (pc1 := 28) (ls1 := [some (vm_r 96), some (vm_i v1), some (vm_i v2), some (vm_i v3), some (vm_i 0), some (vm_i (v5 + 1))]) (st1 := []) (m1 := m2) (ob := (true && decide (vm_32 (v5 + 1)))) (by decide +kernel) rfl (vm_t rfl o14_0) ?_
          exact h
        · replace h := h.2 c6
          refine vm_gp [(.aload 0, 0, 0, []), (.iload 3, 0, 0, []), (.iload 5, 0, 0, [])] (pc1 := 62) (ls1 := [some (vm_r 96), some (vm_i v1), some (vm_i v2), some (vm_i v3), some (vm_i v4), some (vm_i v5)]) (st1 := [vm_i v5, vm_i v3, vm_r 96]) (m1 := m2) (ob := true) (by decide +kernel) rfl rfl ?_
          refine vm_gc (g := 263) (na := 3) (av := [vm_r 96, vm_i v3, vm_i v5]) (rest := []) (i := (.invokevirtual 0, 263, 3, [])) (len := 3) (by decide +kernel) rfl rfl rfl (by decide +kernel) (by decide +kernel) rfl rfl (vm_u (vm_okh_v (c := 11) (by decide +kernel) (by decide +kernel)) (show vm_okn 263 3 0 0 0 3 = true by decide +kernel)) ?_
          refine vm_G.mono h ?_
          rintro _ m3 ⟨z3, rfl, h⟩
          show vm_G 265 65 [some (vm_r 96), some (vm_i v1), some (vm_i v2), some (vm_i v3), some (vm_i v4), some (vm_i v5)] [vm_i z3] m3 _
          refine vm_gj (c := 0 < z3) (t := 72) (e := 68) (i := (.ifCond .gt 0, 72, 0, [])) (len := 3) (st1 := []) (by decide +kernel) rfl rfl (fun c7 => ?_) (fun c7 => ?_)
          · replace h := h.1 c7
            obtain ⟨o17_0, h⟩ := h
            refine vm_gp [(.iconst 0, 0, 0, []), (.istore 4, 0, 0, []), (.iinc 5 1, 0, 0, []), (.goto 0, 28, 0, [])] (pc1 := 28) (ls1 := [some (vm_r 96), some (vm_i v1), some (vm_i v2), some (vm_i v3), some (vm_i 0), some (vm_i (v5 + 1))]) (st1 := []) (m1 := m3) (ob := (true && decide (vm_32 (v5 + 1)))) (by decide +kernel) rfl (vm_t rfl o17_0) ?_
            exact h
          · replace h := h.2 c7
            obtain ⟨o18_0, h⟩ := h
            refine vm_gp [(.iconst 1, 0, 0, []), (.goto 0, 73, 0, []), (.istore 4, 0, 0, []), (.iinc 5 1, 0, 0, []), (.goto 0, 28, 0, [])] (pc1 := 28) (ls1 := [some (vm_r 96), some (vm_i v1), some (vm_i v2), some (vm_i v3), some (vm_i 1), some (vm_i (v5 + 1))]) (st1 := []) (m1 := m3) (ob := (true && decide (vm_32 (v5 + 1)))) (by decide +kernel) rfl (vm_t rfl o18_0) ?_
            exact h
abbrev ku11_widest_0 (v1 : Int) (m : vm_M) (Q : Int → vm_M → Prop) : Prop := vm_G 266 0 [some (vm_r 96), some (vm_i v1), none, none, none] [] m (vm_qi Q)
abbrev ku11_widest_12 (v1 : Int) (v2 : Int) (v3 : Int) (v4 : Int) (m : vm_M) (Q : Int → vm_M → Prop) : Prop := vm_G 266 12 [some (vm_r 96), some (vm_i v1), some (vm_i v2), some (vm_i v3), some (vm_i v4)] [] m (vm_qi Q)
set_option maxRecDepth 20000 in
theorem ru11_widest_0 {v1 : Int} {m : vm_M} {Q : Int → vm_M → Prop}  (h :
    (vm_C 186 [vm_r 96] m (vm_qv (fun m1 =>
      ku11_widest_12 v1 (-2) 0 0 m1 Q)))) : vm_C 266 [vm_r 96, vm_i v1] m (vm_qi Q) := by
  show vm_G 266 0 [some (vm_r 96), some (vm_i v1), none, none, none] [] m (vm_qi Q)
  refine vm_gp [(.aload 0, 0, 0, [])] (pc1 := 1) (ls1 := [some (vm_r 96), some (vm_i v1), none, none, none]) (st1 := [vm_r 96]) (m1 := m) (ob := true) (by decide +kernel) rfl rfl ?_
  refine vm_gc (g := 186) (na := 1) (av := [vm_r 96]) (rest := []) (i := (.invokevirtual 0, 186, 1, [])) (len := 3) (by decide +kernel) rfl rfl rfl (by decide +kernel) (by decide +kernel) rfl rfl (vm_u (vm_okh_v (c := 11) (by decide +kernel) (by decide +kernel)) (show vm_okn 186 1 0 0 0 1 = true by decide +kernel)) ?_
  refine vm_G.mono h ?_
  rintro _ m1 ⟨rfl, h⟩
  show vm_G 266 4 [some (vm_r 96), some (vm_i v1), none, none, none] [] m1 _
  refine vm_gp [(.iconst (-2), 0, 0, []), (.istore 2, 0, 0, []), (.iconst 0, 0, 0, []), (.istore 3, 0, 0, []), (.iconst 0, 0, 0, []), (.istore 4, 0, 0, [])] (pc1 := 12) (ls1 := [some (vm_r 96), some (vm_i v1), some (vm_i (-2)), some (vm_i 0), some (vm_i 0)]) (st1 := []) (m1 := m1) (ob := true) (by decide +kernel) rfl rfl ?_
  exact h
set_option maxRecDepth 20000 in
theorem ru11_widest_12 {v1 : Int} {v2 : Int} {v3 : Int} {v4 : Int} {m : vm_M} {Q : Int → vm_M → Prop}  (h :
    (((m 96 14) ≤ v4 →
      Q v2 m) ∧ (¬ (m 96 14) ≤ v4 →
      (vm_C 193 [vm_r 96, vm_i v4] m (vm_qv (fun m1 =>
        ((v2 < 0 →
          ((vm_32 (v4 + 1))) ∧
          ku11_widest_12 v1 v4 (m1 96 18) (v4 + 1) m1 Q) ∧ (¬ v2 < 0 →
          ((v1 = 0 →
            ((v3 ≤ (m1 96 18) →
              ((vm_32 (v4 + 1))) ∧
              ku11_widest_12 v1 v2 v3 (v4 + 1) m1 Q) ∧ (¬ v3 ≤ (m1 96 18) →
              ((vm_32 (v4 + 1))) ∧
              ku11_widest_12 v1 v4 (m1 96 18) (v4 + 1) m1 Q))) ∧ (¬ v1 = 0 →
            (((m1 96 18) ≤ v3 →
              ((vm_32 (v4 + 1))) ∧
              ku11_widest_12 v1 v2 v3 (v4 + 1) m1 Q) ∧ (¬ (m1 96 18) ≤ v3 →
              ((vm_32 (v4 + 1))) ∧
              ku11_widest_12 v1 v4 (m1 96 18) (v4 + 1) m1 Q)))))))))))) : ku11_widest_12 v1 v2 v3 v4 m Q := by
  show vm_G 266 12 [some (vm_r 96), some (vm_i v1), some (vm_i v2), some (vm_i v3), some (vm_i v4)] [] m (vm_qi Q)
  refine vm_gp [(.iload 4, 0, 0, []), (.aload 0, 0, 0, []), (.getfield 0, 11, 14, [])] (pc1 := 18) (ls1 := [some (vm_r 96), some (vm_i v1), some (vm_i v2), some (vm_i v3), some (vm_i v4)]) (st1 := [vm_i (m 96 14), vm_i v4]) (m1 := m) (ob := (true && vm_is 96 11)) (by decide +kernel) rfl (vm_u rfl (by decide +kernel)) ?_
  refine vm_gj (c := (m 96 14) ≤ v4) (t := 68) (e := 21) (i := (.if_icmp .ge 0, 68, 0, [])) (len := 3) (st1 := []) (by decide +kernel) rfl rfl (fun c1 => ?_) (fun c1 => ?_)
  · replace h := h.1 c1
    refine vm_gp [(.iload 2, 0, 0, [])] (pc1 := 69) (ls1 := [some (vm_r 96), some (vm_i v1), some (vm_i v2), some (vm_i v3), some (vm_i v4)]) (st1 := [vm_i v2]) (m1 := m) (ob := true) (by decide +kernel) rfl rfl ?_
    exact vm_gr (r := some (vm_i v2)) (i := (.ireturn, 1, 0, [])) (len := 1) (by decide +kernel) rfl rfl rfl ⟨_, rfl, h⟩
  · replace h := h.2 c1
    refine vm_gp [(.aload 0, 0, 0, []), (.iload 4, 0, 0, [])] (pc1 := 24) (ls1 := [some (vm_r 96), some (vm_i v1), some (vm_i v2), some (vm_i v3), some (vm_i v4)]) (st1 := [vm_i v4, vm_r 96]) (m1 := m) (ob := true) (by decide +kernel) rfl rfl ?_
    refine vm_gc (g := 193) (na := 2) (av := [vm_r 96, vm_i v4]) (rest := []) (i := (.invokevirtual 0, 193, 2, [])) (len := 3) (by decide +kernel) rfl rfl rfl (by decide +kernel) (by decide +kernel) rfl rfl (vm_u (vm_okh_v (c := 11) (by decide +kernel) (by decide +kernel)) (show vm_okn 193 2 0 0 0 2 = true by decide +kernel)) ?_
    refine vm_G.mono h ?_
    rintro _ m1 ⟨rfl, h⟩
    show vm_G 266 27 [some (vm_r 96), some (vm_i v1), some (vm_i v2), some (vm_i v3), some (vm_i v4)] [] m1 _
    refine vm_gp [(.iload 2, 0, 0, [])] (pc1 := 28) (ls1 := [some (vm_r 96), some (vm_i v1), some (vm_i v2), some (vm_i v3), some (vm_i v4)]) (st1 := [vm_i v2]) (m1 := m1) (ob := true) (by decide +kernel) rfl rfl ?_
    refine vm_gj (c := v2 < 0) (t := 54) (e := 31) (i := (.ifCond .lt 0, 54, 0, [])) (len := 3) (st1 := []) (by decide +kernel) rfl rfl (fun c2 => ?_) (fun c2 => ?_)
    · replace h := h.1 c2
      obtain ⟨o5_0, h⟩ := h
      refine vm_gp [(.iload 4, 0, 0, []), (.istore 2, 0, 0, []), (.aload 0, 0, 0, []), (.getfield 0, 11, 18, []), (.istore 3, 0, 0, []), (.iinc 4 1, 0, 0, []), (.goto 0, 12, 0, [])] (pc1 := 12) (ls1 := [some (vm_r 96), some (vm_i v1), some (vm_i v4), some (vm_i (m1 96 18)), some (vm_i (v4 + 1))]) (st1 := []) (m1 := m1) (ob := ((true && vm_is 96 11) && decide (vm_32 (v4 + 1)))) (by decide +kernel) rfl (vm_t (vm_u rfl (by decide +kernel)) o5_0) ?_
      exact h
    · replace h := h.2 c2
      refine vm_gp [(.iload 1, 0, 0, [])] (pc1 := 32) (ls1 := [some (vm_r 96), some (vm_i v1), some (vm_i v2), some (vm_i v3), some (vm_i v4)]) (st1 := [vm_i v1]) (m1 := m1) (ob := true) (by decide +kernel) rfl rfl ?_
      refine vm_gj (c := v1 = 0) (t := 46) (e := 35) (i := (.ifCond .eq 0, 46, 0, [])) (len := 3) (st1 := []) (by decide +kernel) rfl rfl (fun c3 => ?_) (fun c3 => ?_)
      · replace h := h.1 c3
        refine vm_gp [(.aload 0, 0, 0, []), (.getfield 0, 11, 18, []), (.iload 3, 0, 0, [])] (pc1 := 51) (ls1 := [some (vm_r 96), some (vm_i v1), some (vm_i v2), some (vm_i v3), some (vm_i v4)]) (st1 := [vm_i v3, vm_i (m1 96 18)]) (m1 := m1) (ob := (true && vm_is 96 11)) (by decide +kernel) rfl (vm_u rfl (by decide +kernel)) ?_
        refine vm_gj (c := v3 ≤ (m1 96 18)) (t := 62) (e := 54) (i := (.if_icmp .ge 0, 62, 0, [])) (len := 3) (st1 := []) (by decide +kernel) rfl rfl (fun c4 => ?_) (fun c4 => ?_)
        · replace h := h.1 c4
          obtain ⟨o8_0, h⟩ := h
          refine vm_gp [(.iinc 4 1, 0, 0, []), (.goto 0, 12, 0, [])] (pc1 := 12) (ls1 := [some (vm_r 96), some (vm_i v1), some (vm_i v2), some (vm_i v3), some (vm_i (v4 + 1))]) (st1 := []) (m1 := m1) (ob := (true && decide (vm_32 (v4 + 1)))) (by decide +kernel) rfl (vm_t rfl o8_0) ?_
          exact h
        · replace h := h.2 c4
          obtain ⟨o9_0, h⟩ := h
          refine vm_gp [(.iload 4, 0, 0, []), (.istore 2, 0, 0, []), (.aload 0, 0, 0, []), (.getfield 0, 11, 18, []), (.istore 3, 0, 0, []), (.iinc 4 1, 0, 0, []), (.goto 0, 12, 0, [])] (pc1 := 12) (ls1 := [some (vm_r 96), some (vm_i v1), some (vm_i v4), some (vm_i (m1 96 18)), some (vm_i (v4 + 1))]) (st1 := []) (m1 := m1) (ob := ((true && vm_is 96 11) && decide (vm_32 (v4 + 1)))) (by decide +kernel) rfl (vm_t (vm_u rfl (by decide +kernel)) o9_0) ?_
          exact h
      · replace h := h.2 c3
        refine vm_gp [(.aload 0, 0, 0, []), (.getfield 0, 11, 18, []), (.iload 3, 0, 0, [])] (pc1 := 40) (ls1 := [some (vm_r 96), some (vm_i v1), some (vm_i v2), some (vm_i v3), some (vm_i v4)]) (st1 := [vm_i v3, vm_i (m1 96 18)]) (m1 := m1) (ob := (true && vm_is 96 11)) (by decide +kernel) rfl (vm_u rfl (by decide +kernel)) ?_
        refine vm_gj (c := (m1 96 18) ≤ v3) (t := 62) (e := 43) (i := (.if_icmp .le 0, 62, 0, [])) (len := 3) (st1 := []) (by decide +kernel) rfl rfl (fun c5 => ?_) (fun c5 => ?_)
        · replace h := h.1 c5
          obtain ⟨o11_0, h⟩ := h
          refine vm_gp [(.iinc 4 1, 0, 0, []), (.goto 0, 12, 0, [])] (pc1 := 12) (ls1 := [some (vm_r 96), some (vm_i v1), some (vm_i v2), some (vm_i v3), some (vm_i (v4 + 1))]) (st1 := []) (m1 := m1) (ob := (true && decide (vm_32 (v4 + 1)))) (by decide +kernel) rfl (vm_t rfl o11_0) ?_
          exact h
        · replace h := h.2 c5
          obtain ⟨o12_0, h⟩ := h
          refine vm_gp [(.goto 0, 54, 0, []), (.iload 4, 0, 0, []), (.istore 2, 0, 0, []), (.aload 0, 0, 0, []), (.getfield 0, 11, 18, []), (.istore 3, 0, 0, []), (.iinc 4 1, 0, 0, []), (.goto 0, 12, 0, [])] (pc1 := 12) (ls1 := [some (vm_r 96), some (vm_i v1), some (vm_i v4), some (vm_i (m1 96 18)), some (vm_i (v4 + 1))]) (st1 := []) (m1 := m1) (ob := ((true && vm_is 96 11) && decide (vm_32 (v4 + 1)))) (by decide +kernel) rfl (vm_t (vm_u rfl (by decide +kernel)) o12_0) ?_
          exact h
abbrev ku11_at_0 (v1 : Int) (v2 : Int) (m : vm_M) (Q : Int → vm_M → Prop) : Prop := vm_G 267 0 [some (vm_r 96), some (vm_i v1), some (vm_i v2), none] [] m (vm_qi Q)
abbrev ku11_at_24 (v1 : Int) (v2 : Int) (v3 : Int) (m : vm_M) (Q : Int → vm_M → Prop) : Prop := vm_G 267 24 [some (vm_r 96), some (vm_i v1), some (vm_i v2), some (vm_i v3)] [] m (vm_qi Q)
set_option maxRecDepth 20000 in
theorem ru11_at_0 {v1 : Int} {v2 : Int} {m : vm_M} {Q : Int → vm_M → Prop}  (h :
    (vm_C 196 [vm_r 96, vm_i v1] m (vm_qi (fun z1 m1 =>
      ((z1 = 0 →
        Q (-1) m1) ∧ (¬ z1 = 0 →
        (vm_C 164 [vm_l v2, vm_l 0, vm_l 9999] m1 (vm_qi (fun z2 m2 =>
          ((¬ z2 = 0 →
            ku11_at_24 v1 v2 0 m2 Q) ∧ (¬ ¬ z2 = 0 →
            Q (-1) m2))))))))))) : vm_C 267 [vm_r 96, vm_i v1, vm_i v2] m (vm_qi Q) := by
  show vm_G 267 0 [some (vm_r 96), some (vm_i v1), some (vm_i v2), none] [] m (vm_qi Q)
  refine vm_gp [(.aload 0, 0, 0, []), (.iload 1, 0, 0, [])] (pc1 := 2) (ls1 := [some (vm_r 96), some (vm_i v1), some (vm_i v2), none]) (st1 := [vm_i v1, vm_r 96]) (m1 := m) (ob := true) (by decide +kernel) rfl rfl ?_
  refine vm_gc (g := 196) (na := 2) (av := [vm_r 96, vm_i v1]) (rest := []) (i := (.invokevirtual 0, 196, 2, [])) (len := 3) (by decide +kernel) rfl rfl rfl (by decide +kernel) (by decide +kernel) rfl rfl (vm_u (vm_okh_v (c := 11) (by decide +kernel) (by decide +kernel)) (show vm_okn 196 2 0 0 0 2 = true by decide +kernel)) ?_
  refine vm_G.mono h ?_
  rintro _ m1 ⟨z1, rfl, h⟩
  show vm_G 267 5 [some (vm_r 96), some (vm_i v1), some (vm_i v2), none] [vm_i z1] m1 _
  refine vm_gj (c := z1 = 0) (t := 20) (e := 8) (i := (.ifCond .eq 0, 20, 0, [])) (len := 3) (st1 := []) (by decide +kernel) rfl rfl (fun c1 => ?_) (fun c1 => ?_)
  · replace h := h.1 c1
    refine vm_gp [(.iconst (-1), 0, 0, [])] (pc1 := 21) (ls1 := [some (vm_r 96), some (vm_i v1), some (vm_i v2), none]) (st1 := [vm_i (-1)]) (m1 := m1) (ob := true) (by decide +kernel) rfl rfl ?_
    exact vm_gr (r := some (vm_i (-1))) (i := (.ireturn, 1, 0, [])) (len := 1) (by decide +kernel) rfl rfl rfl ⟨_, rfl, h⟩
  · replace h := h.2 c1
    refine vm_gp [(.iload 2, 0, 0, []), (.i2l, 0, 0, []), (.ldc2_w 0, 0, 0, [(0, 0)]), (.ldc2_w 0, 0, 0, [(9999, 0)])] (pc1 := 14) (ls1 := [some (vm_r 96), some (vm_i v1), some (vm_i v2), none]) (st1 := [vm_l 9999, vm_l 0, vm_l v2]) (m1 := m1) (ob := true) (by decide +kernel) rfl rfl ?_
    refine vm_gc (g := 164) (na := 3) (av := [vm_l v2, vm_l 0, vm_l 9999]) (rest := []) (i := (.invokestatic 0, 164, 3, [])) (len := 3) (by decide +kernel) rfl rfl rfl (by decide +kernel) (by decide +kernel) rfl rfl (vm_u (vm_okh_s (by decide +kernel)) (show vm_okn 164 3 0 0 0 6 = true by decide +kernel)) ?_
    refine vm_G.mono h ?_
    rintro _ m2 ⟨z2, rfl, h⟩
    show vm_G 267 17 [some (vm_r 96), some (vm_i v1), some (vm_i v2), none] [vm_i z2] m2 _
    refine vm_gj (c := ¬ z2 = 0) (t := 22) (e := 20) (i := (.ifCond .ne 0, 22, 0, [])) (len := 3) (st1 := []) (by decide +kernel) rfl rfl (fun c2 => ?_) (fun c2 => ?_)
    · replace h := h.1 c2
      refine vm_gp [(.iconst 0, 0, 0, []), (.istore 3, 0, 0, [])] (pc1 := 24) (ls1 := [some (vm_r 96), some (vm_i v1), some (vm_i v2), some (vm_i 0)]) (st1 := []) (m1 := m2) (ob := true) (by decide +kernel) rfl rfl ?_
      exact h
    · replace h := h.2 c2
      refine vm_gp [(.iconst (-1), 0, 0, [])] (pc1 := 21) (ls1 := [some (vm_r 96), some (vm_i v1), some (vm_i v2), none]) (st1 := [vm_i (-1)]) (m1 := m2) (ob := true) (by decide +kernel) rfl rfl ?_
      exact vm_gr (r := some (vm_i (-1))) (i := (.ireturn, 1, 0, [])) (len := 1) (by decide +kernel) rfl rfl rfl ⟨_, rfl, h⟩
set_option maxRecDepth 20000 in
theorem ru11_at_24 {v1 : Int} {v2 : Int} {v3 : Int} {m : vm_M} {Q : Int → vm_M → Prop}  (h :
    (((m 96 22) ≤ v3 →
      Q (-2) m) ∧ (¬ (m 96 22) ≤ v3 →
      ((0 ≤ v3 ∧ v3 < 360)) ∧
      ((v2 < (m 109 v3) →
        ((vm_32 (v3 + 1))) ∧
        ku11_at_24 v1 v2 (v3 + 1) m Q) ∧ (¬ v2 < (m 109 v3) →
        ((0 ≤ v3 ∧ v3 < 360) ∧ (0 ≤ v3 ∧ v3 < 360) ∧ (0 ≤ (m 108 v3) ∧ (m 108 v3) < 26) ∧ (vm_32 ((m 98 (m 108 v3)) * (m 100 5))) ∧ (vm_32 ((m 109 v3) + ((m 98 (m 108 v3)) * (m 100 5))))) ∧
        ((((m 109 v3) + ((m 98 (m 108 v3)) * (m 100 5))) ≤ v2 →
          ((vm_32 (v3 + 1))) ∧
          ku11_at_24 v1 v2 (v3 + 1) m Q) ∧ (¬ ((m 109 v3) + ((m 98 (m 108 v3)) * (m 100 5))) ≤ v2 →
          Q v3 m))))))) : ku11_at_24 v1 v2 v3 m Q := by
  show vm_G 267 24 [some (vm_r 96), some (vm_i v1), some (vm_i v2), some (vm_i v3)] [] m (vm_qi Q)
  refine vm_gp [(.iload 3, 0, 0, []), (.aload 0, 0, 0, []), (.getfield 0, 11, 22, [])] (pc1 := 29) (ls1 := [some (vm_r 96), some (vm_i v1), some (vm_i v2), some (vm_i v3)]) (st1 := [vm_i (m 96 22), vm_i v3]) (m1 := m) (ob := (true && vm_is 96 11)) (by decide +kernel) rfl (vm_u rfl (by decide +kernel)) ?_
  refine vm_gj (c := (m 96 22) ≤ v3) (t := 79) (e := 32) (i := (.if_icmp .ge 0, 79, 0, [])) (len := 3) (st1 := []) (by decide +kernel) rfl rfl (fun c1 => ?_) (fun c1 => ?_)
  · replace h := h.1 c1
    refine vm_gp [(.iconst (-2), 0, 0, [])] (pc1 := 81) (ls1 := [some (vm_r 96), some (vm_i v1), some (vm_i v2), some (vm_i v3)]) (st1 := [vm_i (-2)]) (m1 := m) (ob := true) (by decide +kernel) rfl rfl ?_
    exact vm_gr (r := some (vm_i (-2))) (i := (.ireturn, 1, 0, [])) (len := 1) (by decide +kernel) rfl rfl rfl ⟨_, rfl, h⟩
  · replace h := h.2 c1
    obtain ⟨o3_0, h⟩ := h
    refine vm_gp [(.aload 0, 0, 0, []), (.getfield 2, 11, 24, [(109, 0)]), (.iload 3, 0, 0, []), (.iaload, 360, 0, []), (.iload 2, 0, 0, [])] (pc1 := 39) (ls1 := [some (vm_r 96), some (vm_i v1), some (vm_i v2), some (vm_i v3)]) (st1 := [vm_i v2, vm_i (m 109 v3)]) (m1 := m) (ob := ((((true && vm_is 96 11) && true) && vm_ar 109 100 360) && decide (0 ≤ v3 ∧ v3 < 360))) (by decide +kernel) rfl (vm_t (vm_u (vm_u (vm_u rfl (by decide +kernel)) rfl) (by decide +kernel)) o3_0) ?_
    refine vm_gj (c := v2 < (m 109 v3)) (t := 73) (e := 42) (i := (.if_icmp .gt 0, 73, 0, [])) (len := 3) (st1 := []) (by decide +kernel) rfl rfl (fun c2 => ?_) (fun c2 => ?_)
    · replace h := h.1 c2
      obtain ⟨o4_0, h⟩ := h
      refine vm_gp [(.iinc 3 1, 0, 0, []), (.goto 0, 24, 0, [])] (pc1 := 24) (ls1 := [some (vm_r 96), some (vm_i v1), some (vm_i v2), some (vm_i (v3 + 1))]) (st1 := []) (m1 := m) (ob := (true && decide (vm_32 (v3 + 1)))) (by decide +kernel) rfl (vm_t rfl o4_0) ?_
      exact h
    · replace h := h.2 c2
      obtain ⟨⟨o5_0, o5_1, o5_2, o5_3, o5_4⟩, h⟩ := h
      refine vm_gp [(.iload 2, 0, 0, []), (.aload 0, 0, 0, []), (.getfield 2, 11, 24, [(109, 0)]), (.iload 3, 0, 0, []), (.iaload, 360, 0, []), (.aload 0, 0, 0, []), (.getfield 2, 11, 5, [(98, 0)]), (.aload 0, 0, 0, []), (.getfield 2, 11, 23, [(108, 0)]), (.iload 3, 0, 0, []), (.iaload, 360, 0, []), (.iaload, 26, 0, []), (.aload 0, 0, 0, []), (.getfield 2, 11, 7, [(100, 0)]), (.iconst 5, 0, 0, []), (.iaload, 1075, 0, []), (.imul, 0, 0, []), (.iadd, 0, 0, [])] (pc1 := 68) (ls1 := [some (vm_r 96), some (vm_i v1), some (vm_i v2), some (vm_i v3)]) (st1 := [vm_i ((m 109 v3) + ((m 98 (m 108 v3)) * (m 100 5))), vm_i v2]) (m1 := m) (ob := ((((((((((((((((((true && vm_is 96 11) && true) && vm_ar 109 100 360) && decide (0 ≤ v3 ∧ v3 < 360)) && vm_is 96 11) && true) && vm_is 96 11) && true) && vm_ar 108 100 360) && decide (0 ≤ v3 ∧ v3 < 360)) && vm_ar 98 100 26) && decide (0 ≤ (m 108 v3) ∧ (m 108 v3) < 26)) && vm_is 96 11) && true) && vm_ar 100 100 1075) && decide ((0 : Int) ≤ 5 ∧ (5 : Int) < 1075)) && decide (vm_32 ((m 98 (m 108 v3)) * (m 100 5)))) && decide (vm_32 ((m 109 v3) + ((m 98 (m 108 v3)) * (m 100 5)))))) (by decide +kernel) rfl (vm_t (vm_t (vm_t (vm_u (vm_u (vm_u (vm_t (vm_u (vm_t (vm_u (vm_u (vm_u (vm_u (vm_u (vm_t (vm_u (vm_u (vm_u rfl (by decide +kernel)) rfl) (by decide +kernel)) o5_0) (by decide +kernel)) rfl) (by decide +kernel)) rfl) (by decide +kernel)) o5_1) (by decide +kernel)) o5_2) (by decide +kernel)) rfl) (by decide +kernel)) (by decide)) o5_3) o5_4) ?_
      refine vm_gj (c := ((m 109 v3) + ((m 98 (m 108 v3)) * (m 100 5))) ≤ v2) (t := 73) (e := 71) (i := (.if_icmp .ge 0, 73, 0, [])) (len := 3) (st1 := []) (by decide +kernel) rfl rfl (fun c3 => ?_) (fun c3 => ?_)
      · replace h := h.1 c3
        obtain ⟨o6_0, h⟩ := h
        refine vm_gp [(.iinc 3 1, 0, 0, []), (.goto 0, 24, 0, [])] (pc1 := 24) (ls1 := [some (vm_r 96), some (vm_i v1), some (vm_i v2), some (vm_i (v3 + 1))]) (st1 := []) (m1 := m) (ob := (true && decide (vm_32 (v3 + 1)))) (by decide +kernel) rfl (vm_t rfl o6_0) ?_
        exact h
      · replace h := h.2 c3
        refine vm_gp [(.iload 3, 0, 0, [])] (pc1 := 72) (ls1 := [some (vm_r 96), some (vm_i v1), some (vm_i v2), some (vm_i v3)]) (st1 := [vm_i v3]) (m1 := m) (ob := true) (by decide +kernel) rfl rfl ?_
        exact vm_gr (r := some (vm_i v3)) (i := (.ireturn, 1, 0, [])) (len := 1) (by decide +kernel) rfl rfl rfl ⟨_, rfl, h⟩
abbrev ku11_fits_0  (m : vm_M) (Q : Int → vm_M → Prop) : Prop := vm_G 268 0 [some (vm_r 96)] [] m (vm_qi Q)
set_option maxRecDepth 20000 in
theorem ru11_fits_0  {m : vm_M} {Q : Int → vm_M → Prop}  (h :
    (vm_C 189 [vm_r 96] m (vm_qi (fun z1 m1 =>
      ((z1 = 0 ∨ z1 = 1)) ∧
      Q z1 m1)))) : vm_C 268 [vm_r 96] m (vm_qi Q) := by
  show vm_G 268 0 [some (vm_r 96)] [] m (vm_qi Q)
  refine vm_gp [(.aload 0, 0, 0, [])] (pc1 := 1) (ls1 := [some (vm_r 96)]) (st1 := [vm_r 96]) (m1 := m) (ob := true) (by decide +kernel) rfl rfl ?_
  refine vm_gc (g := 189) (na := 1) (av := [vm_r 96]) (rest := []) (i := (.invokevirtual 0, 189, 1, [])) (len := 3) (by decide +kernel) rfl rfl rfl (by decide +kernel) (by decide +kernel) rfl rfl (vm_u (vm_okh_v (c := 11) (by decide +kernel) (by decide +kernel)) (show vm_okn 189 1 0 0 0 1 = true by decide +kernel)) ?_
  refine vm_G.mono h ?_
  rintro _ m1 ⟨z1, rfl, h⟩
  show vm_G 268 4 [some (vm_r 96)] [vm_i z1] m1 _
  exact vm_gr (r := some (vm_i z1)) (i := (.ireturn, 2, 0, [])) (len := 1) (by decide +kernel) rfl rfl (decide_eq_true h.1) ⟨_, rfl, h.2⟩
abbrev ku11_greatest_0 (v1 : Int) (v2 : Int) (v3 : Int) (m : vm_M) (Q : Int → vm_M → Prop) : Prop := vm_G 269 0 [some (vm_r 96), some (vm_i v1), some (vm_i v2), some (vm_i v3), none, none, none] [] m (vm_qi Q)
abbrev ku11_greatest_14 (v1 : Int) (v2 : Int) (v3 : Int) (v4 : Int) (v5 : Int) (v6 : Int) (m : vm_M) (Q : Int → vm_M → Prop) : Prop := vm_G 269 14 [some (vm_r 96), some (vm_i v1), some (vm_i v2), some (vm_i v3), some (vm_i v4), some (vm_i v5), some (vm_i v6)] [] m (vm_qi Q)
set_option maxRecDepth 20000 in
theorem ru11_greatest_0 {v1 : Int} {v2 : Int} {v3 : Int} {m : vm_M} {Q : Int → vm_M → Prop}  (h :
    ((0 ≤ v1 ∧ v1 < 1075)) ∧
    ku11_greatest_14 v1 v2 v3 (m 100 v1) v3 0 m Q) : vm_C 269 [vm_r 96, vm_i v1, vm_i v2, vm_i v3] m (vm_qi Q) := by
  show vm_G 269 0 [some (vm_r 96), some (vm_i v1), some (vm_i v2), some (vm_i v3), none, none, none] [] m (vm_qi Q)
  obtain ⟨o1_0, h⟩ := h
  refine vm_gp [(.aload 0, 0, 0, []), (.getfield 2, 11, 7, [(100, 0)]), (.iload 1, 0, 0, []), (.iaload, 1075, 0, []), (.istore 4, 0, 0, []), (.iload 3, 0, 0, []), (.istore 5, 0, 0, []), (.iconst 0, 0, 0, []), (.istore 6, 0, 0, [])] (pc1 := 14) (ls1 := [some (vm_r 96), some (vm_i v1), some (vm_i v2), some (vm_i v3), some (vm_i (m 100 v1)), some (vm_i v3), some (vm_i 0)]) (st1 := []) (m1 := m) (ob := ((((true && vm_is 96 11) && true) && vm_ar 100 100 1075) && decide (0 ≤ v1 ∧ v1 < 1075))) (by decide +kernel) rfl (vm_t (vm_u (vm_u (vm_u rfl (by decide +kernel)) rfl) (by decide +kernel)) o1_0) ?_
  exact h
set_option maxRecDepth 20000 in
theorem ru11_greatest_14 {v1 : Int} {v2 : Int} {v3 : Int} {v4 : Int} {v5 : Int} {v6 : Int} {m : vm_M} {Q : Int → vm_M → Prop}  (h :
    ((v5 < v2 →
      ((0 ≤ v1 ∧ v1 < 1075)) ∧
      ((v6 = 0 →
        Q (-2) (vm_st m 100 v1 v4)) ∧ (¬ v6 = 0 →
        ((vm_32 (v5 + 1))) ∧
        Q (v5 + 1) (vm_st m 100 v1 v4)))) ∧ (¬ v5 < v2 →
      ((¬ v6 = 0 →
        ((0 ≤ v1 ∧ v1 < 1075)) ∧
        ((v6 = 0 →
          Q (-2) (vm_st m 100 v1 v4)) ∧ (¬ v6 = 0 →
          ((vm_32 (v5 + 1))) ∧
          Q (v5 + 1) (vm_st m 100 v1 v4)))) ∧ (¬ ¬ v6 = 0 →
        ((0 ≤ v1 ∧ v1 < 1075)) ∧
        (vm_C 189 [vm_r 96] (vm_st m 100 v1 v5) (vm_qi (fun z1 m1 =>
          ((vm_32 (v5 + (-1)))) ∧
          ku11_greatest_14 v1 v2 v3 v4 (v5 + (-1)) z1 m1 Q)))))))) : ku11_greatest_14 v1 v2 v3 v4 v5 v6 m Q := by
  show vm_G 269 14 [some (vm_r 96), some (vm_i v1), some (vm_i v2), some (vm_i v3), some (vm_i v4), some (vm_i v5), some (vm_i v6)] [] m (vm_qi Q)
  refine vm_gp [(.iload 5, 0, 0, []), (.iload 2, 0, 0, [])] (pc1 := 17) (ls1 := [some (vm_r 96), some (vm_i v1), some (vm_i v2), some (vm_i v3), some (vm_i v4), some (vm_i v5), some (vm_i v6)]) (st1 := [vm_i v2, vm_i v5]) (m1 := m) (ob := true) (by decide +kernel) rfl rfl ?_
  refine vm_gj (c := v5 < v2) (t := 45) (e := 20) (i := (.if_icmp .lt 0, 45, 0, [])) (len := 3) (st1 := []) (by decide +kernel) rfl rfl (fun c1 => ?_) (fun c1 => ?_)
  · replace h := h.1 c1
    obtain ⟨o2_0, h⟩ := h
    refine vm_gp [(.aload 0, 0, 0, []), (.getfield 2, 11, 7, [(100, 0)]), (.iload 1, 0, 0, []), (.iload 4, 0, 0, []), (.iastore, 1075, 0, []), (.iload 6, 0, 0, [])] (pc1 := 55) (ls1 := [some (vm_r 96), some (vm_i v1), some (vm_i v2), some (vm_i v3), some (vm_i v4), some (vm_i v5), some (vm_i v6)]) (st1 := [vm_i v6]) (m1 := (vm_st m 100 v1 v4)) (ob := ((((true && vm_is 96 11) && true) && vm_ar 100 100 1075) && decide (0 ≤ v1 ∧ v1 < 1075))) (by decide +kernel) rfl (vm_t (vm_u (vm_u (vm_u rfl (by decide +kernel)) rfl) (by decide +kernel)) o2_0) ?_
    refine vm_gj (c := v6 = 0) (t := 65) (e := 58) (i := (.ifCond .eq 0, 65, 0, [])) (len := 3) (st1 := []) (by decide +kernel) rfl rfl (fun c2 => ?_) (fun c2 => ?_)
    · replace h := h.1 c2
      refine vm_gp [(.iconst (-2), 0, 0, [])] (pc1 := 67) (ls1 := [some (vm_r 96), some (vm_i v1), some (vm_i v2), some (vm_i v3), some (vm_i v4), some (vm_i v5), some (vm_i v6)]) (st1 := [vm_i (-2)]) (m1 := (vm_st m 100 v1 v4)) (ob := true) (by decide +kernel) rfl rfl ?_
      exact vm_gr (r := some (vm_i (-2))) (i := (.ireturn, 1, 0, [])) (len := 1) (by decide +kernel) rfl rfl rfl ⟨_, rfl, h⟩
    · replace h := h.2 c2
      obtain ⟨o4_0, h⟩ := h
      refine vm_gp [(.iload 5, 0, 0, []), (.iconst 1, 0, 0, []), (.iadd, 0, 0, []), (.goto 0, 67, 0, [])] (pc1 := 67) (ls1 := [some (vm_r 96), some (vm_i v1), some (vm_i v2), some (vm_i v3), some (vm_i v4), some (vm_i v5), some (vm_i v6)]) (st1 := [vm_i (v5 + 1)]) (m1 := (vm_st m 100 v1 v4)) (ob := (true && decide (vm_32 (v5 + 1)))) (by decide +kernel) rfl (vm_t rfl o4_0) ?_
      exact vm_gr (r := some (vm_i (v5 + 1))) (i := (.ireturn, 1, 0, [])) (len := 1) (by decide +kernel) rfl rfl rfl ⟨_, rfl, h⟩
  · replace h := h.2 c1
    refine vm_gp [(.iload 6, 0, 0, [])] (pc1 := 22) (ls1 := [some (vm_r 96), some (vm_i v1), some (vm_i v2), some (vm_i v3), some (vm_i v4), some (vm_i v5), some (vm_i v6)]) (st1 := [vm_i v6]) (m1 := m) (ob := true) (by decide +kernel) rfl rfl ?_
    refine vm_gj (c := ¬ v6 = 0) (t := 45) (e := 25) (i := (.ifCond .ne 0, 45, 0, [])) (len := 3) (st1 := []) (by decide +kernel) rfl rfl (fun c3 => ?_) (fun c3 => ?_)
    · replace h := h.1 c3
      obtain ⟨o6_0, h⟩ := h
      refine vm_gp [(.aload 0, 0, 0, []), (.getfield 2, 11, 7, [(100, 0)]), (.iload 1, 0, 0, []), (.iload 4, 0, 0, []), (.iastore, 1075, 0, []), (.iload 6, 0, 0, [])] (pc1 := 55) (ls1 := [some (vm_r 96), some (vm_i v1), some (vm_i v2), some (vm_i v3), some (vm_i v4), some (vm_i v5), some (vm_i v6)]) (st1 := [vm_i v6]) (m1 := (vm_st m 100 v1 v4)) (ob := ((((true && vm_is 96 11) && true) && vm_ar 100 100 1075) && decide (0 ≤ v1 ∧ v1 < 1075))) (by decide +kernel) rfl (vm_t (vm_u (vm_u (vm_u rfl (by decide +kernel)) rfl) (by decide +kernel)) o6_0) ?_
      refine vm_gj (c := v6 = 0) (t := 65) (e := 58) (i := (.ifCond .eq 0, 65, 0, [])) (len := 3) (st1 := []) (by decide +kernel) rfl rfl (fun c4 => ?_) (fun c4 => ?_)
      · replace h := h.1 c4
        refine vm_gp [(.iconst (-2), 0, 0, [])] (pc1 := 67) (ls1 := [some (vm_r 96), some (vm_i v1), some (vm_i v2), some (vm_i v3), some (vm_i v4), some (vm_i v5), some (vm_i v6)]) (st1 := [vm_i (-2)]) (m1 := (vm_st m 100 v1 v4)) (ob := true) (by decide +kernel) rfl rfl ?_
        exact vm_gr (r := some (vm_i (-2))) (i := (.ireturn, 1, 0, [])) (len := 1) (by decide +kernel) rfl rfl rfl ⟨_, rfl, h⟩
      · replace h := h.2 c4
        obtain ⟨o8_0, h⟩ := h
        refine vm_gp [(.iload 5, 0, 0, []), (.iconst 1, 0, 0, []), (.iadd, 0, 0, []), (.goto 0, 67, 0, [])] (pc1 := 67) (ls1 := [some (vm_r 96), some (vm_i v1), some (vm_i v2), some (vm_i v3), some (vm_i v4), some (vm_i v5), some (vm_i v6)]) (st1 := [vm_i (v5 + 1)]) (m1 := (vm_st m 100 v1 v4)) (ob := (true && decide (vm_32 (v5 + 1)))) (by decide +kernel) rfl (vm_t rfl o8_0) ?_
        exact vm_gr (r := some (vm_i (v5 + 1))) (i := (.ireturn, 1, 0, [])) (len := 1) (by decide +kernel) rfl rfl rfl ⟨_, rfl, h⟩
    · replace h := h.2 c3
      obtain ⟨o9_0, h⟩ := h
      refine vm_gp [(.aload 0, 0, 0, []), (.getfield 2, 11, 7, [(100, 0)]), (.iload 1, 0, 0, []), (.iload 5, 0, 0, []), (.iastore, 1075, 0, []), (.aload 0, 0, 0, [])] (pc1 := 34) (ls1 := [some (vm_r 96), some (vm_i v1), some (vm_i v2), some (vm_i v3), some (vm_i v4), some (vm_i v5), some (vm_i v6)]) (st1 := [vm_r 96]) (m1 := (vm_st m 100 v1 v5)) (ob := ((((true && vm_is 96 11) && true) && vm_ar 100 100 1075) && decide (0 ≤ v1 ∧ v1 < 1075))) (by decide +kernel) rfl (vm_t (vm_u (vm_u (vm_u rfl (by decide +kernel)) rfl) (by decide +kernel)) o9_0) ?_
      refine vm_gc (g := 189) (na := 1) (av := [vm_r 96]) (rest := []) (i := (.invokevirtual 0, 189, 1, [])) (len := 3) (by decide +kernel) rfl rfl rfl (by decide +kernel) (by decide +kernel) rfl rfl (vm_u (vm_okh_v (c := 11) (by decide +kernel) (by decide +kernel)) (show vm_okn 189 1 0 0 0 1 = true by decide +kernel)) ?_
      refine vm_G.mono h ?_
      rintro _ m1 ⟨z1, rfl, h⟩
      show vm_G 269 37 [some (vm_r 96), some (vm_i v1), some (vm_i v2), some (vm_i v3), some (vm_i v4), some (vm_i v5), some (vm_i v6)] [vm_i z1] m1 _
      obtain ⟨o10_0, h⟩ := h
      refine vm_gp [(.istore 6, 0, 0, []), (.iinc 5 (-1), 0, 0, []), (.goto 0, 14, 0, [])] (pc1 := 14) (ls1 := [some (vm_r 96), some (vm_i v1), some (vm_i v2), some (vm_i v3), some (vm_i v4), some (vm_i (v5 + (-1))), some (vm_i z1)]) (st1 := []) (m1 := m1) (ob := (true && decide (vm_32 (v5 + (-1))))) (by decide +kernel) rfl (vm_t rfl o10_0) ?_
      exact h
abbrev ku11_bestSize_0  (m : vm_M) (Q : Int → vm_M → Prop) : Prop := vm_G 270 0 [some (vm_r 96)] [] m (vm_qi Q)
set_option maxRecDepth 20000 in
theorem ru11_bestSize_0  {m : vm_M} {Q : Int → vm_M → Prop}  (h :
    (vm_C 269 [vm_r 96, vm_i 5, vm_i 1, vm_i 9] m (vm_qi (fun z1 m1 =>
      Q z1 m1)))) : vm_C 270 [vm_r 96] m (vm_qi Q) := by
  show vm_G 270 0 [some (vm_r 96)] [] m (vm_qi Q)
  refine vm_gp [(.aload 0, 0, 0, []), (.iconst 5, 0, 0, []), (.iconst 1, 0, 0, []), (.iconst 9, 0, 0, [])] (pc1 := 5) (ls1 := [some (vm_r 96)]) (st1 := [vm_i 9, vm_i 1, vm_i 5, vm_r 96]) (m1 := m) (ob := true) (by decide +kernel) rfl rfl ?_
  refine vm_gc (g := 269) (na := 4) (av := [vm_r 96, vm_i 5, vm_i 1, vm_i 9]) (rest := []) (i := (.invokevirtual 0, 269, 4, [])) (len := 3) (by decide +kernel) rfl rfl rfl (by decide +kernel) (by decide +kernel) rfl rfl (vm_u (vm_okh_v (c := 11) (by decide +kernel) (by decide +kernel)) (show vm_okn 269 4 0 0 0 4 = true by decide +kernel)) ?_
  refine vm_G.mono h ?_
  rintro _ m1 ⟨z1, rfl, h⟩
  show vm_G 270 8 [some (vm_r 96)] [vm_i z1] m1 _
  exact vm_gr (r := some (vm_i z1)) (i := (.ireturn, 1, 0, [])) (len := 1) (by decide +kernel) rfl rfl rfl ⟨_, rfl, h⟩
abbrev ku11_bestGap_0  (m : vm_M) (Q : Int → vm_M → Prop) : Prop := vm_G 271 0 [some (vm_r 96)] [] m (vm_qi Q)
set_option maxRecDepth 20000 in
theorem ru11_bestGap_0  {m : vm_M} {Q : Int → vm_M → Prop}  (h :
    (vm_C 269 [vm_r 96, vm_i 3, vm_i 0, vm_i (m 96 3)] m (vm_qi (fun z1 m1 =>
      Q z1 m1)))) : vm_C 271 [vm_r 96] m (vm_qi Q) := by
  show vm_G 271 0 [some (vm_r 96)] [] m (vm_qi Q)
  refine vm_gp [(.aload 0, 0, 0, []), (.iconst 3, 0, 0, []), (.iconst 0, 0, 0, []), (.aload 0, 0, 0, []), (.getfield 0, 11, 3, [])] (pc1 := 7) (ls1 := [some (vm_r 96)]) (st1 := [vm_i (m 96 3), vm_i 0, vm_i 3, vm_r 96]) (m1 := m) (ob := (true && vm_is 96 11)) (by decide +kernel) rfl (vm_u rfl (by decide +kernel)) ?_
  refine vm_gc (g := 269) (na := 4) (av := [vm_r 96, vm_i 3, vm_i 0, vm_i (m 96 3)]) (rest := []) (i := (.invokevirtual 0, 269, 4, [])) (len := 3) (by decide +kernel) rfl rfl rfl (by decide +kernel) (by decide +kernel) rfl rfl (vm_u (vm_okh_v (c := 11) (by decide +kernel) (by decide +kernel)) (show vm_okn 269 4 0 0 0 4 = true by decide +kernel)) ?_
  refine vm_G.mono h ?_
  rintro _ m1 ⟨z1, rfl, h⟩
  show vm_G 271 10 [some (vm_r 96)] [vm_i z1] m1 _
  exact vm_gr (r := some (vm_i z1)) (i := (.ireturn, 1, 0, [])) (len := 1) (by decide +kernel) rfl rfl rfl ⟨_, rfl, h⟩
abbrev ku11_isEnough_0 (v1 : Int) (v2 : Int) (m : vm_M) (Q : Int → vm_M → Prop) : Prop := vm_G 272 0 [some (vm_r 96), some (vm_i v1), some (vm_i v2), none, none] [] m (vm_qi Q)
abbrev ku11_isEnough_24 (v1 : Int) (v2 : Int) (v3 : Int) (v4 : Int) (m : vm_M) (Q : Int → vm_M → Prop) : Prop := vm_G 272 24 [some (vm_r 96), some (vm_i v1), some (vm_i v2), some (vm_i v3), some (vm_i v4)] [] m (vm_qi Q)
set_option maxRecDepth 20000 in
theorem ru11_isEnough_0 {v1 : Int} {v2 : Int} {m : vm_M} {Q : Int → vm_M → Prop}  (h :
    (vm_C 181 [vm_r 96] (vm_st m 100 0 v1) (vm_qi (fun z1 m1 =>
      ((v2 < z1 →
        ku11_isEnough_24 v1 v2 0 0 m1 Q) ∧ (¬ v2 < z1 →
        ku11_isEnough_24 v1 v2 1 0 m1 Q)))))) : vm_C 272 [vm_r 96, vm_i v1, vm_i v2] m (vm_qi Q) := by
  show vm_G 272 0 [some (vm_r 96), some (vm_i v1), some (vm_i v2), none, none] [] m (vm_qi Q)
  refine vm_gp [(.aload 0, 0, 0, []), (.getfield 2, 11, 7, [(100, 0)]), (.iconst 0, 0, 0, []), (.iload 1, 0, 0, []), (.iastore, 1075, 0, []), (.aload 0, 0, 0, [])] (pc1 := 8) (ls1 := [some (vm_r 96), some (vm_i v1), some (vm_i v2), none, none]) (st1 := [vm_r 96]) (m1 := (vm_st m 100 0 v1)) (ob := ((((true && vm_is 96 11) && true) && vm_ar 100 100 1075) && decide ((0 : Int) ≤ 0 ∧ (0 : Int) < 1075))) (by decide +kernel) rfl (vm_t (vm_u (vm_u (vm_u rfl (by decide +kernel)) rfl) (by decide +kernel)) (by decide)) ?_
  refine vm_gc (g := 181) (na := 1) (av := [vm_r 96]) (rest := []) (i := (.invokevirtual 0, 181, 1, [])) (len := 3) (by decide +kernel) rfl rfl rfl (by decide +kernel) (by decide +kernel) rfl rfl (vm_u (vm_okh_v (c := 11) (by decide +kernel) (by decide +kernel)) (show vm_okn 181 1 0 0 0 1 = true by decide +kernel)) ?_
  refine vm_G.mono h ?_
  rintro _ m1 ⟨z1, rfl, h⟩
  show vm_G 272 11 [some (vm_r 96), some (vm_i v1), some (vm_i v2), none, none] [vm_i z1] m1 _
  refine vm_gp [(.iload 2, 0, 0, [])] (pc1 := 12) (ls1 := [some (vm_r 96), some (vm_i v1), some (vm_i v2), none, none]) (st1 := [vm_i v2, vm_i z1]) (m1 := m1) (ob := true) (by decide +kernel) rfl rfl ?_
  refine vm_gj (c := v2 < z1) (t := 19) (e := 15) (i := (.if_icmp .gt 0, 19, 0, [])) (len := 3) (st1 := []) (by decide +kernel) rfl rfl (fun c1 => ?_) (fun c1 => ?_)
  · replace h := h.1 c1
    refine vm_gp [(.iconst 0, 0, 0, []), (.istore 3, 0, 0, []), (.iconst 0, 0, 0, []), (.istore 4, 0, 0, [])] (pc1 := 24) (ls1 := [some (vm_r 96), some (vm_i v1), some (vm_i v2), some (vm_i 0), some (vm_i 0)]) (st1 := []) (m1 := m1) (ob := true) (by decide +kernel) rfl rfl ?_
    exact h
  · replace h := h.2 c1
    refine vm_gp [(.iconst 1, 0, 0, []), (.goto 0, 20, 0, []), (.istore 3, 0, 0, []), (.iconst 0, 0, 0, []), (.istore 4, 0, 0, [])] (pc1 := 24) (ls1 := [some (vm_r 96), some (vm_i v1), some (vm_i v2), some (vm_i 1), some (vm_i 0)]) (st1 := []) (m1 := m1) (ob := true) (by decide +kernel) rfl rfl ?_
    exact h
set_option maxRecDepth 20000 in
theorem ru11_isEnough_24 {v1 : Int} {v2 : Int} {v3 : Int} {v4 : Int} {m : vm_M} {Q : Int → vm_M → Prop}  (h :
    (((m 100 8) ≤ v4 →
      ((v3 = 0 ∨ v3 = 1)) ∧
      Q v3 m) ∧ (¬ (m 100 8) ≤ v4 →
      ((v3 = 0 →
        ((vm_32 (v4 + 1))) ∧
        ku11_isEnough_24 v1 v2 0 (v4 + 1) m Q) ∧ (¬ v3 = 0 →
        ((0 ≤ v4 ∧ v4 < 30) ∧ (vm_32 ((m 104 v4) * (m 100 5)))) ∧
        ((v1 < ((m 104 v4) * (m 100 5)) →
          ((vm_32 (v4 + 1))) ∧
          ku11_isEnough_24 v1 v2 0 (v4 + 1) m Q) ∧ (¬ v1 < ((m 104 v4) * (m 100 5)) →
          ((vm_32 (v4 + 1))) ∧
          ku11_isEnough_24 v1 v2 1 (v4 + 1) m Q))))))) : ku11_isEnough_24 v1 v2 v3 v4 m Q := by
  show vm_G 272 24 [some (vm_r 96), some (vm_i v1), some (vm_i v2), some (vm_i v3), some (vm_i v4)] [] m (vm_qi Q)
  refine vm_gp [(.iload 4, 0, 0, []), (.aload 0, 0, 0, []), (.getfield 2, 11, 7, [(100, 0)]), (.iconst 8, 0, 0, []), (.iaload, 1075, 0, [])] (pc1 := 33) (ls1 := [some (vm_r 96), some (vm_i v1), some (vm_i v2), some (vm_i v3), some (vm_i v4)]) (st1 := [vm_i (m 100 8), vm_i v4]) (m1 := m) (ob := ((((true && vm_is 96 11) && true) && vm_ar 100 100 1075) && decide ((0 : Int) ≤ 8 ∧ (8 : Int) < 1075))) (by decide +kernel) rfl (vm_t (vm_u (vm_u (vm_u rfl (by decide +kernel)) rfl) (by decide +kernel)) (by decide)) ?_
  refine vm_gj (c := (m 100 8) ≤ v4) (t := 70) (e := 36) (i := (.if_icmp .ge 0, 70, 0, [])) (len := 3) (st1 := []) (by decide +kernel) rfl rfl (fun c1 => ?_) (fun c1 => ?_)
  · replace h := h.1 c1
    refine vm_gp [(.iload 3, 0, 0, [])] (pc1 := 71) (ls1 := [some (vm_r 96), some (vm_i v1), some (vm_i v2), some (vm_i v3), some (vm_i v4)]) (st1 := [vm_i v3]) (m1 := m) (ob := true) (by decide +kernel) rfl rfl ?_
    exact vm_gr (r := some (vm_i v3)) (i := (.ireturn, 2, 0, [])) (len := 1) (by decide +kernel) rfl rfl (decide_eq_true h.1) ⟨_, rfl, h.2⟩
  · replace h := h.2 c1
    refine vm_gp [(.iload 3, 0, 0, [])] (pc1 := 37) (ls1 := [some (vm_r 96), some (vm_i v1), some (vm_i v2), some (vm_i v3), some (vm_i v4)]) (st1 := [vm_i v3]) (m1 := m) (ob := true) (by decide +kernel) rfl rfl ?_
    refine vm_gj (c := v3 = 0) (t := 62) (e := 40) (i := (.ifCond .eq 0, 62, 0, [])) (len := 3) (st1 := []) (by decide +kernel) rfl rfl (fun c2 => ?_) (fun c2 => ?_)
    · replace h := h.1 c2
      obtain ⟨o4_0, h⟩ := h
      refine vm_gp [(.iconst 0, 0, 0, []), (.istore 3, 0, 0, []), (.iinc 4 1, 0, 0, []), (.goto 0, 24, 0, [])] (pc1 := 24) (ls1 := [some (vm_r 96), some (vm_i v1), some (vm_i v2), some (vm_i 0), some (vm_i (v4 + 1))]) (st1 := []) (m1 := m) (ob := (true && decide (vm_32 (v4 + 1)))) (by decide +kernel) rfl (vm_t rfl o4_0) ?_
      exact h
    · replace h := h.2 c2
      obtain ⟨⟨o5_0, o5_1⟩, h⟩ := h
      refine vm_gp [(.aload 0, 0, 0, []), (.getfield 2, 11, 12, [(104, 0)]), (.iload 4, 0, 0, []), (.iaload, 30, 0, []), (.aload 0, 0, 0, []), (.getfield 2, 11, 7, [(100, 0)]), (.iconst 5, 0, 0, []), (.iaload, 1075, 0, []), (.imul, 0, 0, []), (.iload 1, 0, 0, [])] (pc1 := 55) (ls1 := [some (vm_r 96), some (vm_i v1), some (vm_i v2), some (vm_i v3), some (vm_i v4)]) (st1 := [vm_i v1, vm_i ((m 104 v4) * (m 100 5))]) (m1 := m) (ob := (((((((((true && vm_is 96 11) && true) && vm_ar 104 100 30) && decide (0 ≤ v4 ∧ v4 < 30)) && vm_is 96 11) && true) && vm_ar 100 100 1075) && decide ((0 : Int) ≤ 5 ∧ (5 : Int) < 1075)) && decide (vm_32 ((m 104 v4) * (m 100 5))))) (by decide +kernel) rfl (vm_t (vm_t (vm_u (vm_u (vm_u (vm_t (vm_u (vm_u (vm_u rfl (by decide +kernel)) rfl) (by decide +kernel)) o5_0) (by decide +kernel)) rfl) (by decide +kernel)) (by decide)) o5_1) ?_
      refine vm_gj (c := v1 < ((m 104 v4) * (m 100 5))) (t := 62) (e := 58) (i := (.if_icmp .gt 0, 62, 0, [])) (len := 3) (st1 := []) (by decide +kernel) rfl rfl (fun c3 => ?_) (fun c3 => ?_)
      · replace h := h.1 c3
        obtain ⟨o6_0, h⟩ := h
        refine vm_gp [(.iconst 0, 0, 0, []), (.istore 3, 0, 0, []), (.iinc 4 1, 0, 0, []), (.goto 0, 24, 0, [])] (pc1 := 24) (ls1 := [some (vm_r 96), some (vm_i v1), some (vm_i v2), some (vm_i 0), some (vm_i (v4 + 1))]) (st1 := []) (m1 := m) (ob := (true && decide (vm_32 (v4 + 1)))) (by decide +kernel) rfl (vm_t rfl o6_0) ?_
        exact h
      · replace h := h.2 c3
        obtain ⟨o7_0, h⟩ := h
        refine vm_gp [(.iconst 1, 0, 0, []), (.goto 0, 63, 0, []), (.istore 3, 0, 0, []), (.iinc 4 1, 0, 0, []), (.goto 0, 24, 0, [])] (pc1 := 24) (ls1 := [some (vm_r 96), some (vm_i v1), some (vm_i v2), some (vm_i 1), some (vm_i (v4 + 1))]) (st1 := []) (m1 := m) (ob := (true && decide (vm_32 (v4 + 1)))) (by decide +kernel) rfl (vm_t rfl o7_0) ?_
        exact h
abbrev ku11_leastInner_0 (v1 : Int) (m : vm_M) (Q : Int → vm_M → Prop) : Prop := vm_G 273 0 [some (vm_r 96), some (vm_i v1), none, none, none, none] [] m (vm_qi Q)
abbrev ku11_leastInner_33 (v1 : Int) (v2 : Int) (v3 : Int) (v4 : Int) (w5 : Option vm_V) (m : vm_M) (Q : Int → vm_M → Prop) : Prop := vm_G 273 33 [some (vm_r 96), some (vm_i v1), some (vm_i v2), some (vm_i v3), some (vm_i v4), w5] [] m (vm_qi Q)
set_option maxRecDepth 20000 in
theorem ru11_leastInner_0 {v1 : Int} {m : vm_M} {Q : Int → vm_M → Prop}  (h :
    (vm_C 164 [vm_l v1, vm_l 1, vm_l 12] m (vm_qi (fun z1 m1 =>
      ((¬ z1 = 0 →
        (vm_C 177 [vm_r 96] m1 (vm_qv (fun m2 =>
          ku11_leastInner_33 v1 (m1 100 0) 10 10000 none m2 Q)))) ∧ (¬ ¬ z1 = 0 →
        Q (-1) m1)))))) : vm_C 273 [vm_r 96, vm_i v1] m (vm_qi Q) := by
  show vm_G 273 0 [some (vm_r 96), some (vm_i v1), none, none, none, none] [] m (vm_qi Q)
  refine vm_gp [(.iload 1, 0, 0, []), (.i2l, 0, 0, []), (.ldc2_w 0, 0, 0, [(1, 0)]), (.ldc2_w 0, 0, 0, [(12, 0)])] (pc1 := 6) (ls1 := [some (vm_r 96), some (vm_i v1), none, none, none, none]) (st1 := [vm_l 12, vm_l 1, vm_l v1]) (m1 := m) (ob := true) (by decide +kernel) rfl rfl ?_
  refine vm_gc (g := 164) (na := 3) (av := [vm_l v1, vm_l 1, vm_l 12]) (rest := []) (i := (.invokestatic 0, 164, 3, [])) (len := 3) (by decide +kernel) rfl rfl rfl (by decide +kernel) (by decide +kernel) rfl rfl (vm_u (vm_okh_s (by decide +kernel)) (show vm_okn 164 3 0 0 0 6 = true by decide +kernel)) ?_
  refine vm_G.mono h ?_
  rintro _ m1 ⟨z1, rfl, h⟩
  show vm_G 273 9 [some (vm_r 96), some (vm_i v1), none, none, none, none] [vm_i z1] m1 _
  refine vm_gj (c := ¬ z1 = 0) (t := 14) (e := 12) (i := (.ifCond .ne 0, 14, 0, [])) (len := 3) (st1 := []) (by decide +kernel) rfl rfl (fun c1 => ?_) (fun c1 => ?_)
  · replace h := h.1 c1
    refine vm_gp [(.aload 0, 0, 0, []), (.getfield 2, 11, 7, [(100, 0)]), (.iconst 0, 0, 0, []), (.iaload, 1075, 0, []), (.istore 2, 0, 0, []), (.aload 0, 0, 0, [])] (pc1 := 22) (ls1 := [some (vm_r 96), some (vm_i v1), some (vm_i (m1 100 0)), none, none, none]) (st1 := [vm_r 96]) (m1 := m1) (ob := ((((true && vm_is 96 11) && true) && vm_ar 100 100 1075) && decide ((0 : Int) ≤ 0 ∧ (0 : Int) < 1075))) (by decide +kernel) rfl (vm_t (vm_u (vm_u (vm_u rfl (by decide +kernel)) rfl) (by decide +kernel)) (by decide)) ?_
    refine vm_gc (g := 177) (na := 1) (av := [vm_r 96]) (rest := []) (i := (.invokevirtual 0, 177, 1, [])) (len := 3) (by decide +kernel) rfl rfl rfl (by decide +kernel) (by decide +kernel) rfl rfl (vm_u (vm_okh_v (c := 11) (by decide +kernel) (by decide +kernel)) (show vm_okn 177 1 0 0 0 1 = true by decide +kernel)) ?_
    refine vm_G.mono h ?_
    rintro _ m2 ⟨rfl, h⟩
    show vm_G 273 25 [some (vm_r 96), some (vm_i v1), some (vm_i (m1 100 0)), none, none, none] [] m2 _
    refine vm_gp [(.iconst 10, 0, 0, []), (.istore 3, 0, 0, []), (.iconst 10000, 0, 0, []), (.istore 4, 0, 0, [])] (pc1 := 33) (ls1 := [some (vm_r 96), some (vm_i v1), some (vm_i (m1 100 0)), some (vm_i 10), some (vm_i 10000), none]) (st1 := []) (m1 := m2) (ob := true) (by decide +kernel) rfl rfl ?_
    exact h
  · replace h := h.2 c1
    refine vm_gp [(.iconst (-1), 0, 0, [])] (pc1 := 13) (ls1 := [some (vm_r 96), some (vm_i v1), none, none, none, none]) (st1 := [vm_i (-1)]) (m1 := m1) (ob := true) (by decide +kernel) rfl rfl ?_
    exact vm_gr (r := some (vm_i (-1))) (i := (.ireturn, 1, 0, [])) (len := 1) (by decide +kernel) rfl rfl rfl ⟨_, rfl, h⟩
set_option maxRecDepth 20000 in
theorem ru11_leastInner_33 {v1 : Int} {v2 : Int} {v3 : Int} {v4 : Int} {w5 : Option vm_V} {m : vm_M} {Q : Int → vm_M → Prop}  (h :
    ((v4 ≤ v3 →
      ((9999 < v3 →
        Q (-2) (vm_st m 100 0 v2)) ∧ (¬ 9999 < v3 →
        ((¬ ((vm_st m 100 0 v2) 100 8) = 0 →
          Q v3 (vm_st m 100 0 v2)) ∧ (¬ ¬ ((vm_st m 100 0 v2) 100 8) = 0 →
          Q (-2) (vm_st m 100 0 v2)))))) ∧ (¬ v4 ≤ v3 →
      ((vm_32 (v3 + v4)) ∧ (0 ≤ (v3 + v4) ∧ (0 : Int) < 2)) ∧
      (vm_C 272 [vm_r 96, vm_i ((v3 + v4) / 2), vm_i v1] m (vm_qi (fun z1 m1 =>
        ((z1 = 0 →
          ((vm_32 (((v3 + v4) / 2) + 1))) ∧
          ku11_leastInner_33 v1 v2 (((v3 + v4) / 2) + 1) v4 (some (vm_i ((v3 + v4) / 2))) m1 Q) ∧ (¬ z1 = 0 →
          ku11_leastInner_33 v1 v2 v3 ((v3 + v4) / 2) (some (vm_i ((v3 + v4) / 2))) m1 Q)))))))) : ku11_leastInner_33 v1 v2 v3 v4 w5 m Q := by
  show vm_G 273 33 [some (vm_r 96), some (vm_i v1), some (vm_i v2), some (vm_i v3), some (vm_i v4), w5] [] m (vm_qi Q)
  refine vm_gp [(.iload 3, 0, 0, []), (.iload 4, 0, 0, [])] (pc1 := 36) (ls1 := [some (vm_r 96), some (vm_i v1), some (vm_i v2), some (vm_i v3), some (vm_i v4), w5]) (st1 := [vm_i v4, vm_i v3]) (m1 := m) (ob := true) (by decide +kernel) rfl rfl ?_
  refine vm_gj (c := v4 ≤ v3) (t := 72) (e := 39) (i := (.if_icmp .ge 0, 72, 0, [])) (len := 3) (st1 := []) (by decide +kernel) rfl rfl (fun c1 => ?_) (fun c1 => ?_)
  · replace h := h.1 c1
    refine vm_gp [(.aload 0, 0, 0, []), (.getfield 2, 11, 7, [(100, 0)]), (.iconst 0, 0, 0, []), (.iload 2, 0, 0, []), (.iastore, 1075, 0, []), (.iload 3, 0, 0, []), (.iconst 9999, 0, 0, [])] (pc1 := 83) (ls1 := [some (vm_r 96), some (vm_i v1), some (vm_i v2), some (vm_i v3), some (vm_i v4), w5]) (st1 := [vm_i 9999, vm_i v3]) (m1 := (vm_st m 100 0 v2)) (ob := ((((true && vm_is 96 11) && true) && vm_ar 100 100 1075) && decide ((0 : Int) ≤ 0 ∧ (0 : Int) < 1075))) (by decide +kernel) rfl (vm_t (vm_u (vm_u (vm_u rfl (by decide +kernel)) rfl) (by decide +kernel)) (by decide)) ?_
    refine vm_gj (c := 9999 < v3) (t := 96) (e := 86) (i := (.if_icmp .gt 0, 96, 0, [])) (len := 3) (st1 := []) (by decide +kernel) rfl rfl (fun c2 => ?_) (fun c2 => ?_)
    · replace h := h.1 c2
      refine vm_gp [(.iconst (-2), 0, 0, []), (.goto 0, 102, 0, [])] (pc1 := 102) (ls1 := [some (vm_r 96), some (vm_i v1), some (vm_i v2), some (vm_i v3), some (vm_i v4), w5]) (st1 := [vm_i (-2)]) (m1 := (vm_st m 100 0 v2)) (ob := true) (by decide +kernel) rfl rfl ?_
      exact vm_gr (r := some (vm_i (-2))) (i := (.ireturn, 1, 0, [])) (len := 1) (by decide +kernel) rfl rfl rfl ⟨_, rfl, h⟩
    · replace h := h.2 c2
      refine vm_gp [(.aload 0, 0, 0, []), (.getfield 2, 11, 7, [(100, 0)]), (.iconst 8, 0, 0, []), (.iaload, 1075, 0, [])] (pc1 := 93) (ls1 := [some (vm_r 96), some (vm_i v1), some (vm_i v2), some (vm_i v3), some (vm_i v4), w5]) (st1 := [vm_i ((vm_st m 100 0 v2) 100 8)]) (m1 := (vm_st m 100 0 v2)) (ob := ((((true && vm_is 96 11) && true) && vm_ar 100 100 1075) && decide ((0 : Int) ≤ 8 ∧ (8 : Int) < 1075))) (by decide +kernel) rfl (vm_t (vm_u (vm_u (vm_u rfl (by decide +kernel)) rfl) (by decide +kernel)) (by decide)) ?_
      refine vm_gj (c := ¬ ((vm_st m 100 0 v2) 100 8) = 0) (t := 101) (e := 96) (i := (.ifCond .ne 0, 101, 0, [])) (len := 3) (st1 := []) (by decide +kernel) rfl rfl (fun c3 => ?_) (fun c3 => ?_)
      · replace h := h.1 c3
        refine vm_gp [(.iload 3, 0, 0, [])] (pc1 := 102) (ls1 := [some (vm_r 96), some (vm_i v1), some (vm_i v2), some (vm_i v3), some (vm_i v4), w5]) (st1 := [vm_i v3]) (m1 := (vm_st m 100 0 v2)) (ob := true) (by decide +kernel) rfl rfl ?_
        exact vm_gr (r := some (vm_i v3)) (i := (.ireturn, 1, 0, [])) (len := 1) (by decide +kernel) rfl rfl rfl ⟨_, rfl, h⟩
      · replace h := h.2 c3
        refine vm_gp [(.iconst (-2), 0, 0, []), (.goto 0, 102, 0, [])] (pc1 := 102) (ls1 := [some (vm_r 96), some (vm_i v1), some (vm_i v2), some (vm_i v3), some (vm_i v4), w5]) (st1 := [vm_i (-2)]) (m1 := (vm_st m 100 0 v2)) (ob := true) (by decide +kernel) rfl rfl ?_
        exact vm_gr (r := some (vm_i (-2))) (i := (.ireturn, 1, 0, [])) (len := 1) (by decide +kernel) rfl rfl rfl ⟨_, rfl, h⟩
  · replace h := h.2 c1
    obtain ⟨⟨o7_0, o7_1⟩, h⟩ := h
    refine vm_gp [(.iload 3, 0, 0, []), (.iload 4, 0, 0, []), (.iadd, 0, 0, []), (.iconst 2, 0, 0, []), (.idiv, 0, 0, []), (.istore 5, 0, 0, []), (.aload 0, 0, 0, []), (.iload 5, 0, 0, []), (.iload 1, 0, 0, [])] (pc1 := 51) (ls1 := [some (vm_r 96), some (vm_i v1), some (vm_i v2), some (vm_i v3), some (vm_i v4), some (vm_i ((v3 + v4) / 2))]) (st1 := [vm_i v1, vm_i ((v3 + v4) / 2), vm_r 96]) (m1 := m) (ob := ((true && decide (vm_32 (v3 + v4))) && decide (0 ≤ (v3 + v4) ∧ (0 : Int) < 2))) (by decide +kernel) rfl (vm_t (vm_t rfl o7_0) o7_1) ?_
    refine vm_gc (g := 272) (na := 3) (av := [vm_r 96, vm_i ((v3 + v4) / 2), vm_i v1]) (rest := []) (i := (.invokevirtual 0, 272, 3, [])) (len := 3) (by decide +kernel) rfl rfl rfl (by decide +kernel) (by decide +kernel) rfl rfl (vm_u (vm_okh_v (c := 11) (by decide +kernel) (by decide +kernel)) (show vm_okn 272 3 0 0 0 3 = true by decide +kernel)) ?_
    refine vm_G.mono h ?_
    rintro _ m1 ⟨z1, rfl, h⟩
    show vm_G 273 54 [some (vm_r 96), some (vm_i v1), some (vm_i v2), some (vm_i v3), some (vm_i v4), some (vm_i ((v3 + v4) / 2))] [vm_i z1] m1 _
    refine vm_gj (c := z1 = 0) (t := 64) (e := 57) (i := (.ifCond .eq 0, 64, 0, [])) (len := 3) (st1 := []) (by decide +kernel) rfl rfl (fun c4 => ?_) (fun c4 => ?_)
    · replace h := h.1 c4
      obtain ⟨o9_0, h⟩ := h
      refine vm_gp [(.iload 5, 0, 0, []), (.iconst 1, 0, 0, []), (.iadd, 0, 0, []), (.istore 3, 0, 0, []), (.goto 0, 33, 0, [])] (pc1 := 33) (ls1 := [some (vm_r 96), some (vm_i v1), some (vm_i v2), some (vm_i (((v3 + v4) / 2) + 1)), some (vm_i v4), some (vm_i ((v3 + v4) / 2))]) (st1 := []) (m1 := m1) (ob := (true && decide (vm_32 (((v3 + v4) / 2) + 1)))) (by decide +kernel) rfl (vm_t rfl o9_0) ?_
      exact h
    · replace h := h.2 c4
      refine vm_gp [(.iload 5, 0, 0, []), (.istore 4, 0, 0, []), (.goto 0, 69, 0, []), (.goto 0, 33, 0, [])] (pc1 := 33) (ls1 := [some (vm_r 96), some (vm_i v1), some (vm_i v2), some (vm_i v3), some (vm_i ((v3 + v4) / 2)), some (vm_i ((v3 + v4) / 2))]) (st1 := []) (m1 := m1) (ob := true) (by decide +kernel) rfl rfl ?_
      exact h
abbrev ku11_height_0  (m : vm_M) (Q : Int → vm_M → Prop) : Prop := vm_G 274 0 [some (vm_r 96)] [] m (vm_qi Q)
set_option maxRecDepth 20000 in
theorem ru11_height_0  {m : vm_M} {Q : Int → vm_M → Prop}  (h :
    (vm_C 186 [vm_r 96] m (vm_qv (fun m1 =>
      (vm_C 188 [vm_r 96] m1 (vm_qi (fun z2 m2 =>
        Q z2 m2))))))) : vm_C 274 [vm_r 96] m (vm_qi Q) := by
  show vm_G 274 0 [some (vm_r 96)] [] m (vm_qi Q)
  refine vm_gp [(.aload 0, 0, 0, [])] (pc1 := 1) (ls1 := [some (vm_r 96)]) (st1 := [vm_r 96]) (m1 := m) (ob := true) (by decide +kernel) rfl rfl ?_
  refine vm_gc (g := 186) (na := 1) (av := [vm_r 96]) (rest := []) (i := (.invokevirtual 0, 186, 1, [])) (len := 3) (by decide +kernel) rfl rfl rfl (by decide +kernel) (by decide +kernel) rfl rfl (vm_u (vm_okh_v (c := 11) (by decide +kernel) (by decide +kernel)) (show vm_okn 186 1 0 0 0 1 = true by decide +kernel)) ?_
  refine vm_G.mono h ?_
  rintro _ m1 ⟨rfl, h⟩
  show vm_G 274 4 [some (vm_r 96)] [] m1 _
  refine vm_gp [(.aload 0, 0, 0, [])] (pc1 := 5) (ls1 := [some (vm_r 96)]) (st1 := [vm_r 96]) (m1 := m1) (ob := true) (by decide +kernel) rfl rfl ?_
  refine vm_gc (g := 188) (na := 1) (av := [vm_r 96]) (rest := []) (i := (.invokevirtual 0, 188, 1, [])) (len := 3) (by decide +kernel) rfl rfl rfl (by decide +kernel) (by decide +kernel) rfl rfl (vm_u (vm_okh_v (c := 11) (by decide +kernel) (by decide +kernel)) (show vm_okn 188 1 0 0 0 1 = true by decide +kernel)) ?_
  refine vm_G.mono h ?_
  rintro _ m2 ⟨z2, rfl, h⟩
  show vm_G 274 8 [some (vm_r 96)] [vm_i z2] m2 _
  exact vm_gr (r := some (vm_i z2)) (i := (.ireturn, 1, 0, [])) (len := 1) (by decide +kernel) rfl rfl rfl ⟨_, rfl, h⟩
abbrev ku11_cost_0  (m : vm_M) (Q : Int → vm_M → Prop) : Prop := vm_G 275 0 [some (vm_r 96)] [] m (vm_qi Q)
set_option maxRecDepth 20000 in
theorem ru11_cost_0  {m : vm_M} {Q : Int → vm_M → Prop}  (h :
    (vm_C 186 [vm_r 96] m (vm_qv (fun m1 =>
      ((¬ (m1 96 14) = 0 →
        (vm_C 187 [vm_r 96] m1 (vm_ql (fun z2 m2 =>
          Q (vm_w32 z2) m2)))) ∧ (¬ ¬ (m1 96 14) = 0 →
        Q (-2) m1)))))) : vm_C 275 [vm_r 96] m (vm_qi Q) := by
  show vm_G 275 0 [some (vm_r 96)] [] m (vm_qi Q)
  refine vm_gp [(.aload 0, 0, 0, [])] (pc1 := 1) (ls1 := [some (vm_r 96)]) (st1 := [vm_r 96]) (m1 := m) (ob := true) (by decide +kernel) rfl rfl ?_
  refine vm_gc (g := 186) (na := 1) (av := [vm_r 96]) (rest := []) (i := (.invokevirtual 0, 186, 1, [])) (len := 3) (by decide +kernel) rfl rfl rfl (by decide +kernel) (by decide +kernel) rfl rfl (vm_u (vm_okh_v (c := 11) (by decide +kernel) (by decide +kernel)) (show vm_okn 186 1 0 0 0 1 = true by decide +kernel)) ?_
  refine vm_G.mono h ?_
  rintro _ m1 ⟨rfl, h⟩
  show vm_G 275 4 [some (vm_r 96)] [] m1 _
  refine vm_gp [(.aload 0, 0, 0, []), (.getfield 0, 11, 14, [])] (pc1 := 8) (ls1 := [some (vm_r 96)]) (st1 := [vm_i (m1 96 14)]) (m1 := m1) (ob := (true && vm_is 96 11)) (by decide +kernel) rfl (vm_u rfl (by decide +kernel)) ?_
  refine vm_gj (c := ¬ (m1 96 14) = 0) (t := 16) (e := 11) (i := (.ifCond .ne 0, 16, 0, [])) (len := 3) (st1 := []) (by decide +kernel) rfl rfl (fun c1 => ?_) (fun c1 => ?_)
  · replace h := h.1 c1
    refine vm_gp [(.aload 0, 0, 0, [])] (pc1 := 17) (ls1 := [some (vm_r 96)]) (st1 := [vm_r 96]) (m1 := m1) (ob := true) (by decide +kernel) rfl rfl ?_
    refine vm_gc (g := 187) (na := 1) (av := [vm_r 96]) (rest := []) (i := (.invokevirtual 0, 187, 1, [])) (len := 3) (by decide +kernel) rfl rfl rfl (by decide +kernel) (by decide +kernel) rfl rfl (vm_u (vm_okh_v (c := 11) (by decide +kernel) (by decide +kernel)) (show vm_okn 187 1 0 0 0 1 = true by decide +kernel)) ?_
    refine vm_G.mono h ?_
    rintro _ m2 ⟨z2, rfl, h⟩
    show vm_G 275 20 [some (vm_r 96)] [vm_l z2] m2 _
    refine vm_gp [(.l2i, 0, 0, [])] (pc1 := 21) (ls1 := [some (vm_r 96)]) (st1 := [vm_i (vm_w32 z2)]) (m1 := m2) (ob := true) (by decide +kernel) rfl rfl ?_
    exact vm_gr (r := some (vm_i (vm_w32 z2))) (i := (.ireturn, 1, 0, [])) (len := 1) (by decide +kernel) rfl rfl rfl ⟨_, rfl, h⟩
  · replace h := h.2 c1
    refine vm_gp [(.iconst (-2), 0, 0, []), (.goto 0, 21, 0, [])] (pc1 := 21) (ls1 := [some (vm_r 96)]) (st1 := [vm_i (-2)]) (m1 := m1) (ob := true) (by decide +kernel) rfl rfl ?_
    exact vm_gr (r := some (vm_i (-2))) (i := (.ireturn, 1, 0, [])) (len := 1) (by decide +kernel) rfl rfl rfl ⟨_, rfl, h⟩
abbrev ku11_leastCost_0  (m : vm_M) (Q : Int → vm_M → Prop) : Prop := vm_G 276 0 [some (vm_r 96), none, none] [] m (vm_qi Q)
set_option maxRecDepth 20000 in
theorem ru11_leastCost_0  {m : vm_M} {Q : Int → vm_M → Prop}  (h :
    (vm_C 177 [vm_r 96] m (vm_qv (fun m1 =>
      (vm_C 183 [vm_r 96] m1 (vm_ql (fun z2 m2 =>
        (((m2 100 8) = 0 →
          Q (-2) m2) ∧ (¬ (m2 100 8) = 0 →
          (((if z2 < 1000000000000000 then -1 else if z2 = 1000000000000000 then 0 else 1) < 0 →
            Q (vm_w32 z2) m2) ∧ (¬ (if z2 < 1000000000000000 then -1 else if z2 = 1000000000000000 then 0 else 1) < 0 →
            Q (-2) m2))))))))))) : vm_C 276 [vm_r 96] m (vm_qi Q) := by
  show vm_G 276 0 [some (vm_r 96), none, none] [] m (vm_qi Q)
  refine vm_gp [(.aload 0, 0, 0, [])] (pc1 := 1) (ls1 := [some (vm_r 96), none, none]) (st1 := [vm_r 96]) (m1 := m) (ob := true) (by decide +kernel) rfl rfl ?_
  refine vm_gc (g := 177) (na := 1) (av := [vm_r 96]) (rest := []) (i := (.invokevirtual 0, 177, 1, [])) (len := 3) (by decide +kernel) rfl rfl rfl (by decide +kernel) (by decide +kernel) rfl rfl (vm_u (vm_okh_v (c := 11) (by decide +kernel) (by decide +kernel)) (show vm_okn 177 1 0 0 0 1 = true by decide +kernel)) ?_
  refine vm_G.mono h ?_
  rintro _ m1 ⟨rfl, h⟩
  show vm_G 276 4 [some (vm_r 96), none, none] [] m1 _
  refine vm_gp [(.aload 0, 0, 0, [])] (pc1 := 5) (ls1 := [some (vm_r 96), none, none]) (st1 := [vm_r 96]) (m1 := m1) (ob := true) (by decide +kernel) rfl rfl ?_
  refine vm_gc (g := 183) (na := 1) (av := [vm_r 96]) (rest := []) (i := (.invokevirtual 0, 183, 1, [])) (len := 3) (by decide +kernel) rfl rfl rfl (by decide +kernel) (by decide +kernel) rfl rfl (vm_u (vm_okh_v (c := 11) (by decide +kernel) (by decide +kernel)) (show vm_okn 183 1 0 0 0 1 = true by decide +kernel)) ?_
  refine vm_G.mono h ?_
  rintro _ m2 ⟨z2, rfl, h⟩
  show vm_G 276 8 [some (vm_r 96), none, none] [vm_l z2] m2 _
  refine vm_gp [(.lstore 1, 0, 0, []), (.aload 0, 0, 0, []), (.getfield 2, 11, 7, [(100, 0)]), (.iconst 8, 0, 0, []), (.iaload, 1075, 0, [])] (pc1 := 16) (ls1 := [some (vm_r 96), some (vm_l z2), none]) (st1 := [vm_i (m2 100 8)]) (m1 := m2) (ob := ((((true && vm_is 96 11) && true) && vm_ar 100 100 1075) && decide ((0 : Int) ≤ 8 ∧ (8 : Int) < 1075))) (by decide +kernel) rfl (vm_t (vm_u (vm_u (vm_u rfl (by decide +kernel)) rfl) (by decide +kernel)) (by decide)) ?_
  refine vm_gj (c := (m2 100 8) = 0) (t := 27) (e := 19) (i := (.ifCond .eq 0, 27, 0, [])) (len := 3) (st1 := []) (by decide +kernel) rfl rfl (fun c1 => ?_) (fun c1 => ?_)
  · replace h := h.1 c1
    refine vm_gp [(.iconst (-2), 0, 0, []), (.goto 0, 34, 0, [])] (pc1 := 34) (ls1 := [some (vm_r 96), some (vm_l z2), none]) (st1 := [vm_i (-2)]) (m1 := m2) (ob := true) (by decide +kernel) rfl rfl ?_
    exact vm_gr (r := some (vm_i (-2))) (i := (.ireturn, 1, 0, [])) (len := 1) (by decide +kernel) rfl rfl rfl ⟨_, rfl, h⟩
  · replace h := h.2 c1
    refine vm_gp [(.lload 1, 0, 0, []), (.ldc2_w 0, 0, 0, [(1000000000000000, 0)]), (.lcmp, 0, 0, [])] (pc1 := 24) (ls1 := [some (vm_r 96), some (vm_l z2), none]) (st1 := [vm_i (if z2 < 1000000000000000 then -1 else if z2 = 1000000000000000 then 0 else 1)]) (m1 := m2) (ob := true) (by decide +kernel) rfl rfl ?_
    refine vm_gj (c := (if z2 < 1000000000000000 then -1 else if z2 = 1000000000000000 then 0 else 1) < 0) (t := 32) (e := 27) (i := (.ifCond .lt 0, 32, 0, [])) (len := 3) (st1 := []) (by decide +kernel) rfl rfl (fun c2 => ?_) (fun c2 => ?_)
    · replace h := h.1 c2
      refine vm_gp [(.lload 1, 0, 0, []), (.l2i, 0, 0, [])] (pc1 := 34) (ls1 := [some (vm_r 96), some (vm_l z2), none]) (st1 := [vm_i (vm_w32 z2)]) (m1 := m2) (ob := true) (by decide +kernel) rfl rfl ?_
      exact vm_gr (r := some (vm_i (vm_w32 z2))) (i := (.ireturn, 1, 0, [])) (len := 1) (by decide +kernel) rfl rfl rfl ⟨_, rfl, h⟩
    · replace h := h.2 c2
      refine vm_gp [(.iconst (-2), 0, 0, []), (.goto 0, 34, 0, [])] (pc1 := 34) (ls1 := [some (vm_r 96), some (vm_l z2), none]) (st1 := [vm_i (-2)]) (m1 := m2) (ob := true) (by decide +kernel) rfl rfl ?_
      exact vm_gr (r := some (vm_i (-2))) (i := (.ireturn, 1, 0, [])) (len := 1) (by decide +kernel) rfl rfl rfl ⟨_, rfl, h⟩
abbrev ku11_fillGap_0 (v1 : Int) (m : vm_M) (Q : Int → vm_M → Prop) : Prop := vm_G 277 0 [some (vm_r 96), some (vm_i v1)] [] m (vm_qi Q)
set_option maxRecDepth 20000 in
theorem ru11_fillGap_0 {v1 : Int} {m : vm_M} {Q : Int → vm_M → Prop}  (h :
    (vm_C 186 [vm_r 96] m (vm_qv (fun m1 =>
      ((vm_32 ((m1 96 14) - 1))) ∧
      (vm_C 164 [vm_l v1, vm_l 0, vm_l ((m1 96 14) - 1)] m1 (vm_qi (fun z2 m2 =>
        ((z2 = 0 →
          Q (-1) m2) ∧ (¬ z2 = 0 →
          (vm_C 191 [vm_r 96, vm_i v1] m2 (vm_qi (fun z3 m3 =>
            Q z3 m3)))))))))))) : vm_C 277 [vm_r 96, vm_i v1] m (vm_qi Q) := by
  show vm_G 277 0 [some (vm_r 96), some (vm_i v1)] [] m (vm_qi Q)
  refine vm_gp [(.aload 0, 0, 0, [])] (pc1 := 1) (ls1 := [some (vm_r 96), some (vm_i v1)]) (st1 := [vm_r 96]) (m1 := m) (ob := true) (by decide +kernel) rfl rfl ?_
  refine vm_gc (g := 186) (na := 1) (av := [vm_r 96]) (rest := []) (i := (.invokevirtual 0, 186, 1, [])) (len := 3) (by decide +kernel) rfl rfl rfl (by decide +kernel) (by decide +kernel) rfl rfl (vm_u (vm_okh_v (c := 11) (by decide +kernel) (by decide +kernel)) (show vm_okn 186 1 0 0 0 1 = true by decide +kernel)) ?_
  refine vm_G.mono h ?_
  rintro _ m1 ⟨rfl, h⟩
  show vm_G 277 4 [some (vm_r 96), some (vm_i v1)] [] m1 _
  obtain ⟨o2_0, h⟩ := h
  refine vm_gp [(.iload 1, 0, 0, []), (.i2l, 0, 0, []), (.ldc2_w 0, 0, 0, [(0, 0)]), (.aload 0, 0, 0, []), (.getfield 0, 11, 14, []), (.iconst 1, 0, 0, []), (.isub, 0, 0, []), (.i2l, 0, 0, [])] (pc1 := 14) (ls1 := [some (vm_r 96), some (vm_i v1)]) (st1 := [vm_l ((m1 96 14) - 1), vm_l 0, vm_l v1]) (m1 := m1) (ob := ((true && vm_is 96 11) && decide (vm_32 ((m1 96 14) - 1)))) (by decide +kernel) rfl (vm_t (vm_u rfl (by decide +kernel)) o2_0) ?_
  refine vm_gc (g := 164) (na := 3) (av := [vm_l v1, vm_l 0, vm_l ((m1 96 14) - 1)]) (rest := []) (i := (.invokestatic 0, 164, 3, [])) (len := 3) (by decide +kernel) rfl rfl rfl (by decide +kernel) (by decide +kernel) rfl rfl (vm_u (vm_okh_s (by decide +kernel)) (show vm_okn 164 3 0 0 0 6 = true by decide +kernel)) ?_
  refine vm_G.mono h ?_
  rintro _ m2 ⟨z2, rfl, h⟩
  show vm_G 277 17 [some (vm_r 96), some (vm_i v1)] [vm_i z2] m2 _
  refine vm_gj (c := z2 = 0) (t := 28) (e := 20) (i := (.ifCond .eq 0, 28, 0, [])) (len := 3) (st1 := []) (by decide +kernel) rfl rfl (fun c1 => ?_) (fun c1 => ?_)
  · replace h := h.1 c1
    refine vm_gp [(.iconst (-1), 0, 0, [])] (pc1 := 29) (ls1 := [some (vm_r 96), some (vm_i v1)]) (st1 := [vm_i (-1)]) (m1 := m2) (ob := true) (by decide +kernel) rfl rfl ?_
    exact vm_gr (r := some (vm_i (-1))) (i := (.ireturn, 1, 0, [])) (len := 1) (by decide +kernel) rfl rfl rfl ⟨_, rfl, h⟩
  · replace h := h.2 c1
    refine vm_gp [(.aload 0, 0, 0, []), (.iload 1, 0, 0, [])] (pc1 := 22) (ls1 := [some (vm_r 96), some (vm_i v1)]) (st1 := [vm_i v1, vm_r 96]) (m1 := m2) (ob := true) (by decide +kernel) rfl rfl ?_
    refine vm_gc (g := 191) (na := 2) (av := [vm_r 96, vm_i v1]) (rest := []) (i := (.invokevirtual 0, 191, 2, [])) (len := 3) (by decide +kernel) rfl rfl rfl (by decide +kernel) (by decide +kernel) rfl rfl (vm_u (vm_okh_v (c := 11) (by decide +kernel) (by decide +kernel)) (show vm_okn 191 2 0 0 0 2 = true by decide +kernel)) ?_
    refine vm_G.mono h ?_
    rintro _ m3 ⟨z3, rfl, h⟩
    show vm_G 277 25 [some (vm_r 96), some (vm_i v1)] [vm_i z3] m3 _
    refine vm_gp [(.goto 0, 29, 0, [])] (pc1 := 29) (ls1 := [some (vm_r 96), some (vm_i v1)]) (st1 := [vm_i z3]) (m1 := m3) (ob := true) (by decide +kernel) rfl rfl ?_
    exact vm_gr (r := some (vm_i z3)) (i := (.ireturn, 1, 0, [])) (len := 1) (by decide +kernel) rfl rfl rfl ⟨_, rfl, h⟩
abbrev ku11_exchangesWidths_0 (v1 : Int) (v2 : Int) (m : vm_M) (Q : vm_M → Prop) : Prop := vm_G 278 0 [some (vm_r 96), some (vm_i v1), some (vm_i v2), none] [] m (vm_qv Q)
set_option maxRecDepth 20000 in
theorem ru11_exchangesWidths_0 {v1 : Int} {v2 : Int} {m : vm_M} {Q : vm_M → Prop}  (h :
    ((0 ≤ v1 ∧ v1 < 30) ∧ (0 ≤ v2 ∧ v2 < 30) ∧ (0 ≤ v1 ∧ v1 < 30) ∧ (0 ≤ v2 ∧ v2 < 30)) ∧
    Q (vm_st (vm_st m 104 v1 (m 104 v2)) 104 v2 (m 104 v1))) : vm_C 278 [vm_r 96, vm_i v1, vm_i v2] m (vm_qv Q) := by
  show vm_G 278 0 [some (vm_r 96), some (vm_i v1), some (vm_i v2), none] [] m (vm_qv Q)
  obtain ⟨⟨o1_0, o1_1, o1_2, o1_3⟩, h⟩ := h
  refine vm_gp [(.aload 0, 0, 0, []), (.getfield 2, 11, 12, [(104, 0)]), (.iload 1, 0, 0, []), (.iaload, 30, 0, []), (.istore 3, 0, 0, []), (.aload 0, 0, 0, []), (.getfield 2, 11, 12, [(104, 0)]), (.iload 1, 0, 0, []), (.aload 0, 0, 0, []), (.getfield 2, 11, 12, [(104, 0)]), (.iload 2, 0, 0, []), (.iaload, 30, 0, []), (.iastore, 30, 0, []), (.aload 0, 0, 0, []), (.getfield 2, 11, 12, [(104, 0)]), (.iload 2, 0, 0, []), (.iload 3, 0, 0, []), (.iastore, 30, 0, [])] (pc1 := 26) (ls1 := [some (vm_r 96), some (vm_i v1), some (vm_i v2), some (vm_i (m 104 v1))]) (st1 := []) (m1 := (vm_st (vm_st m 104 v1 (m 104 v2)) 104 v2 (m 104 v1))) (ob := ((((((((((((((((true && vm_is 96 11) && true) && vm_ar 104 100 30) && decide (0 ≤ v1 ∧ v1 < 30)) && vm_is 96 11) && true) && vm_is 96 11) && true) && vm_ar 104 100 30) && decide (0 ≤ v2 ∧ v2 < 30)) && vm_ar 104 100 30) && decide (0 ≤ v1 ∧ v1 < 30)) && vm_is 96 11) && true) && vm_ar 104 100 30) && decide (0 ≤ v2 ∧ v2 < 30))) (by decide +kernel) rfl (vm_t (vm_u (vm_u (vm_u (vm_t (vm_u (vm_t (vm_u (vm_u (vm_u (vm_u (vm_u (vm_t (vm_u (vm_u (vm_u rfl (by decide +kernel)) rfl) (by decide +kernel)) o1_0) (by decide +kernel)) rfl) (by decide +kernel)) rfl) (by decide +kernel)) o1_1) (by decide +kernel)) o1_2) (by decide +kernel)) rfl) (by decide +kernel)) o1_3) ?_
  exact vm_gr (r := none) (i := (.return_, 0, 0, [])) (len := 1) (by decide +kernel) rfl rfl rfl ⟨rfl, h⟩
abbrev ku11_bestSwap_0  (m : vm_M) (Q : Int → vm_M → Prop) : Prop := vm_G 279 0 [some (vm_r 96), none, none, none, none, none, none, none] [] m (vm_qi Q)
abbrev ku11_bestSwap_25 (v1 : Int) (v3 : Int) (v4 : Int) (w5 : Option vm_V) (w6 : Option vm_V) (m : vm_M) (Q : Int → vm_M → Prop) : Prop := vm_G 279 25 [some (vm_r 96), some (vm_l v1), none, some (vm_i v3), some (vm_i v4), w5, w6, none] [] m (vm_qi Q)
abbrev ku11_bestSwap_43 (v1 : Int) (v3 : Int) (v4 : Int) (v5 : Int) (w6 : Option vm_V) (m : vm_M) (Q : Int → vm_M → Prop) : Prop := vm_G 279 43 [some (vm_r 96), some (vm_l v1), none, some (vm_i v3), some (vm_i v4), some (vm_i v5), w6, none] [] m (vm_qi Q)
set_option maxRecDepth 20000 in
theorem ru11_bestSwap_0  {m : vm_M} {Q : Int → vm_M → Prop}  (h :
    (vm_C 186 [vm_r 96] m (vm_qv (fun m1 =>
      ((¬ (m1 96 14) = 0 →
        (vm_C 187 [vm_r 96] m1 (vm_ql (fun z2 m2 =>
          ku11_bestSwap_25 z2 (-2) 0 none none m2 Q)))) ∧ (¬ ¬ (m1 96 14) = 0 →
        Q (-2) m1)))))) : vm_C 279 [vm_r 96] m (vm_qi Q) := by
  show vm_G 279 0 [some (vm_r 96), none, none, none, none, none, none, none] [] m (vm_qi Q)
  refine vm_gp [(.aload 0, 0, 0, [])] (pc1 := 1) (ls1 := [some (vm_r 96), none, none, none, none, none, none, none]) (st1 := [vm_r 96]) (m1 := m) (ob := true) (by decide +kernel) rfl rfl ?_
  refine vm_gc (g := 186) (na := 1) (av := [vm_r 96]) (rest := []) (i := (.invokevirtual 0, 186, 1, [])) (len := 3) (by decide +kernel) rfl rfl rfl (by decide +kernel) (by decide +kernel) rfl rfl (vm_u (vm_okh_v (c := 11) (by decide +kernel) (by decide +kernel)) (show vm_okn 186 1 0 0 0 1 = true by decide +kernel)) ?_
  refine vm_G.mono h ?_
  rintro _ m1 ⟨rfl, h⟩
  show vm_G 279 4 [some (vm_r 96), none, none, none, none, none, none, none] [] m1 _
  refine vm_gp [(.aload 0, 0, 0, []), (.getfield 0, 11, 14, [])] (pc1 := 8) (ls1 := [some (vm_r 96), none, none, none, none, none, none, none]) (st1 := [vm_i (m1 96 14)]) (m1 := m1) (ob := (true && vm_is 96 11)) (by decide +kernel) rfl (vm_u rfl (by decide +kernel)) ?_
  refine vm_gj (c := ¬ (m1 96 14) = 0) (t := 14) (e := 11) (i := (.ifCond .ne 0, 14, 0, [])) (len := 3) (st1 := []) (by decide +kernel) rfl rfl (fun c1 => ?_) (fun c1 => ?_)
  · replace h := h.1 c1
    refine vm_gp [(.aload 0, 0, 0, [])] (pc1 := 15) (ls1 := [some (vm_r 96), none, none, none, none, none, none, none]) (st1 := [vm_r 96]) (m1 := m1) (ob := true) (by decide +kernel) rfl rfl ?_
    refine vm_gc (g := 187) (na := 1) (av := [vm_r 96]) (rest := []) (i := (.invokevirtual 0, 187, 1, [])) (len := 3) (by decide +kernel) rfl rfl rfl (by decide +kernel) (by decide +kernel) rfl rfl (vm_u (vm_okh_v (c := 11) (by decide +kernel) (by decide +kernel)) (show vm_okn 187 1 0 0 0 1 = true by decide +kernel)) ?_
    refine vm_G.mono h ?_
    rintro _ m2 ⟨z2, rfl, h⟩
    show vm_G 279 18 [some (vm_r 96), none, none, none, none, none, none, none] [vm_l z2] m2 _
    refine vm_gp [(.lstore 1, 0, 0, []), (.iconst (-2), 0, 0, []), (.istore 3, 0, 0, []), (.iconst 0, 0, 0, []), (.istore 4, 0, 0, [])] (pc1 := 25) (ls1 := [some (vm_r 96), some (vm_l z2), none, some (vm_i (-2)), some (vm_i 0), none, none, none]) (st1 := []) (m1 := m2) (ob := true) (by decide +kernel) rfl rfl ?_
    exact h
  · replace h := h.2 c1
    refine vm_gp [(.iconst (-2), 0, 0, [])] (pc1 := 13) (ls1 := [some (vm_r 96), none, none, none, none, none, none, none]) (st1 := [vm_i (-2)]) (m1 := m1) (ob := true) (by decide +kernel) rfl rfl ?_
    exact vm_gr (r := some (vm_i (-2))) (i := (.ireturn, 1, 0, [])) (len := 1) (by decide +kernel) rfl rfl rfl ⟨_, rfl, h⟩
set_option maxRecDepth 20000 in
theorem ru11_bestSwap_25 {v1 : Int} {v3 : Int} {v4 : Int} {w5 : Option vm_V} {w6 : Option vm_V} {m : vm_M} {Q : Int → vm_M → Prop}  (h :
    (((m 100 8) ≤ v4 →
      Q v3 m) ∧ (¬ (m 100 8) ≤ v4 →
      ((vm_32 (v4 + 1))) ∧
      ku11_bestSwap_43 v1 v3 v4 (v4 + 1) w6 m Q))) : ku11_bestSwap_25 v1 v3 v4 w5 w6 m Q := by
  show vm_G 279 25 [some (vm_r 96), some (vm_l v1), none, some (vm_i v3), some (vm_i v4), w5, w6, none] [] m (vm_qi Q)
  refine vm_gp [(.iload 4, 0, 0, []), (.aload 0, 0, 0, []), (.getfield 2, 11, 7, [(100, 0)]), (.iconst 8, 0, 0, []), (.iaload, 1075, 0, [])] (pc1 := 34) (ls1 := [some (vm_r 96), some (vm_l v1), none, some (vm_i v3), some (vm_i v4), w5, w6, none]) (st1 := [vm_i (m 100 8), vm_i v4]) (m1 := m) (ob := ((((true && vm_is 96 11) && true) && vm_ar 100 100 1075) && decide ((0 : Int) ≤ 8 ∧ (8 : Int) < 1075))) (by decide +kernel) rfl (vm_t (vm_u (vm_u (vm_u rfl (by decide +kernel)) rfl) (by decide +kernel)) (by decide)) ?_
  refine vm_gj (c := (m 100 8) ≤ v4) (t := 138) (e := 37) (i := (.if_icmp .ge 0, 138, 0, [])) (len := 3) (st1 := []) (by decide +kernel) rfl rfl (fun c1 => ?_) (fun c1 => ?_)
  · replace h := h.1 c1
    refine vm_gp [(.iload 3, 0, 0, [])] (pc1 := 139) (ls1 := [some (vm_r 96), some (vm_l v1), none, some (vm_i v3), some (vm_i v4), w5, w6, none]) (st1 := [vm_i v3]) (m1 := m) (ob := true) (by decide +kernel) rfl rfl ?_
    exact vm_gr (r := some (vm_i v3)) (i := (.ireturn, 1, 0, [])) (len := 1) (by decide +kernel) rfl rfl rfl ⟨_, rfl, h⟩
  · replace h := h.2 c1
    obtain ⟨o3_0, h⟩ := h
    refine vm_gp [(.iload 4, 0, 0, []), (.iconst 1, 0, 0, []), (.iadd, 0, 0, []), (.istore 5, 0, 0, [])] (pc1 := 43) (ls1 := [some (vm_r 96), some (vm_l v1), none, some (vm_i v3), some (vm_i v4), some (vm_i (v4 + 1)), w6, none]) (st1 := []) (m1 := m) (ob := (true && decide (vm_32 (v4 + 1)))) (by decide +kernel) rfl (vm_t rfl o3_0) ?_
    exact h
set_option maxRecDepth 20000 in
theorem ru11_bestSwap_43 {v1 : Int} {v3 : Int} {v4 : Int} {v5 : Int} {w6 : Option vm_V} {m : vm_M} {Q : Int → vm_M → Prop}  (h :
    (((m 100 8) ≤ v5 →
      ((vm_32 (v4 + 1))) ∧
      ku11_bestSwap_25 v1 v3 (v4 + 1) (some (vm_i v5)) w6 m Q) ∧ (¬ (m 100 8) ≤ v5 →
      (vm_C 278 [vm_r 96, vm_i v4, vm_i v5] m (vm_qv (fun m1 =>
        (vm_C 185 [vm_r 96] m1 (vm_qv (fun m2 =>
          ((¬ (m2 96 14) = 0 →
            (vm_C 187 [vm_r 96] m2 (vm_ql (fun z3 m3 =>
              (vm_C 278 [vm_r 96, vm_i v4, vm_i v5] m3 (vm_qv (fun m4 =>
                ((0 ≤ (if z3 < v1 then -1 else if z3 = v1 then 0 else 1) →
                  ((0 ≤ (if z3 < v1 then -1 else if z3 = v1 then 0 else 1) →
                    ((vm_32 (v5 + 1))) ∧
                    ku11_bestSwap_43 v1 v3 v4 (v5 + 1) (some (vm_l z3)) m4 Q) ∧ (¬ 0 ≤ (if z3 < v1 then -1 else if z3 = v1 then 0 else 1) →
                    ((vm_32 (v5 + 1))) ∧
                    ku11_bestSwap_43 z3 v3 v4 (v5 + 1) (some (vm_l z3)) m4 Q))) ∧ (¬ 0 ≤ (if z3 < v1 then -1 else if z3 = v1 then 0 else 1) →
                  ((vm_32 (100 * v4)) ∧ (vm_32 ((100 * v4) + v5))) ∧
                  ((0 ≤ (if z3 < v1 then -1 else if z3 = v1 then 0 else 1) →
                    ((vm_32 (v5 + 1))) ∧
                    ku11_bestSwap_43 v1 ((100 * v4) + v5) v4 (v5 + 1) (some (vm_l z3)) m4 Q) ∧ (¬ 0 ≤ (if z3 < v1 then -1 else if z3 = v1 then 0 else 1) →
                    ((vm_32 (v5 + 1))) ∧
                    ku11_bestSwap_43 z3 ((100 * v4) + v5) v4 (v5 + 1) (some (vm_l z3)) m4 Q))))))))))) ∧ (¬ ¬ (m2 96 14) = 0 →
            (vm_C 278 [vm_r 96, vm_i v4, vm_i v5] m2 (vm_qv (fun m5 =>
              ((0 ≤ (if v1 < v1 then -1 else if v1 = v1 then 0 else 1) →
                ((0 ≤ (if v1 < v1 then -1 else if v1 = v1 then 0 else 1) →
                  ((vm_32 (v5 + 1))) ∧
                  ku11_bestSwap_43 v1 v3 v4 (v5 + 1) (some (vm_l v1)) m5 Q) ∧ (¬ 0 ≤ (if v1 < v1 then -1 else if v1 = v1 then 0 else 1) →
                  ((vm_32 (v5 + 1))) ∧
                  ku11_bestSwap_43 v1 v3 v4 (v5 + 1) (some (vm_l v1)) m5 Q))) ∧ (¬ 0 ≤ (if v1 < v1 then -1 else if v1 = v1 then 0 else 1) →
                ((vm_32 (100 * v4)) ∧ (vm_32 ((100 * v4) + v5))) ∧
                ((0 ≤ (if v1 < v1 then -1 else if v1 = v1 then 0 else 1) →
                  ((vm_32 (v5 + 1))) ∧
                  ku11_bestSwap_43 v1 ((100 * v4) + v5) v4 (v5 + 1) (some (vm_l v1)) m5 Q) ∧ (¬ 0 ≤ (if v1 < v1 then -1 else if v1 = v1 then 0 else 1) →
                  ((vm_32 (v5 + 1))) ∧
                  ku11_bestSwap_43 v1 ((100 * v4) + v5) v4 (v5 + 1) (some (vm_l v1)) m5 Q)))))))))))))))))) : ku11_bestSwap_43 v1 v3 v4 v5 w6 m Q := by
  show vm_G 279 43 [some (vm_r 96), some (vm_l v1), none, some (vm_i v3), some (vm_i v4), some (vm_i v5), w6, none] [] m (vm_qi Q)
  refine vm_gp [(.iload 5, 0, 0, []), (.aload 0, 0, 0, []), (.getfield 2, 11, 7, [(100, 0)]), (.iconst 8, 0, 0, []), (.iaload, 1075, 0, [])] (pc1 := 52) (ls1 := [some (vm_r 96), some (vm_l v1), none, some (vm_i v3), some (vm_i v4), some (vm_i v5), w6, none]) (st1 := [vm_i (m 100 8), vm_i v5]) (m1 := m) (ob := ((((true && vm_is 96 11) && true) && vm_ar 100 100 1075) && decide ((0 : Int) ≤ 8 ∧ (8 : Int) < 1075))) (by decide +kernel) rfl (vm_t (vm_u (vm_u (vm_u rfl (by decide +kernel)) rfl) (by decide +kernel)) (by decide)) ?_
  refine vm_gj (c := (m 100 8) ≤ v5) (t := 132) (e := 55) (i := (.if_icmp .ge 0, 132, 0, [])) (len := 3) (st1 := []) (by decide +kernel) rfl rfl (fun c1 => ?_) (fun c1 => ?_)
  · replace h := h.1 c1
    obtain ⟨o2_0, h⟩ := h
    refine vm_gp [(.iinc 4 1, 0, 0, []), (.goto 0, 25, 0, [])] (pc1 := 25) (ls1 := [some (vm_r 96), some (vm_l v1), none, some (vm_i v3), some (vm_i (v4 + 1)), some (vm_i v5), w6, none]) (st1 := []) (m1 := m) (ob := (true && decide (vm_32 (v4 + 1)))) (by decide +kernel) rfl (vm_t rfl o2_0) ?_
    exact h
  · replace h := h.2 c1
    refine vm_gp [(.aload 0, 0, 0, []), (.iload 4, 0, 0, []), (.iload 5, 0, 0, [])] (pc1 := 60) (ls1 := [some (vm_r 96), some (vm_l v1), none, some (vm_i v3), some (vm_i v4), some (vm_i v5), w6, none]) (st1 := [vm_i v5, vm_i v4, vm_r 96]) (m1 := m) (ob := true) (by decide +kernel) rfl rfl ?_
    refine vm_gc (g := 278) (na := 3) (av := [vm_r 96, vm_i v4, vm_i v5]) (rest := []) (i := (.invokevirtual 0, 278, 3, [])) (len := 3) (by decide +kernel) rfl rfl rfl (by decide +kernel) (by decide +kernel) rfl rfl (vm_u (vm_okh_v (c := 11) (by decide +kernel) (by decide +kernel)) (show vm_okn 278 3 0 0 0 3 = true by decide +kernel)) ?_
    refine vm_G.mono h ?_
    rintro _ m1 ⟨rfl, h⟩
    show vm_G 279 63 [some (vm_r 96), some (vm_l v1), none, some (vm_i v3), some (vm_i v4), some (vm_i v5), w6, none] [] m1 _
    refine vm_gp [(.aload 0, 0, 0, [])] (pc1 := 64) (ls1 := [some (vm_r 96), some (vm_l v1), none, some (vm_i v3), some (vm_i v4), some (vm_i v5), w6, none]) (st1 := [vm_r 96]) (m1 := m1) (ob := true) (by decide +kernel) rfl rfl ?_
    refine vm_gc (g := 185) (na := 1) (av := [vm_r 96]) (rest := []) (i := (.invokevirtual 0, 185, 1, [])) (len := 3) (by decide +kernel) rfl rfl rfl (by decide +kernel) (by decide +kernel) rfl rfl (vm_u (vm_okh_v (c := 11) (by decide +kernel) (by decide +kernel)) (show vm_okn 185 1 0 0 0 1 = true by decide +kernel)) ?_
    refine vm_G.mono h ?_
    rintro _ m2 ⟨rfl, h⟩
    show vm_G 279 67 [some (vm_r 96), some (vm_l v1), none, some (vm_i v3), some (vm_i v4), some (vm_i v5), w6, none] [] m2 _
    refine vm_gp [(.aload 0, 0, 0, []), (.getfield 0, 11, 14, [])] (pc1 := 71) (ls1 := [some (vm_r 96), some (vm_l v1), none, some (vm_i v3), some (vm_i v4), some (vm_i v5), w6, none]) (st1 := [vm_i (m2 96 14)]) (m1 := m2) (ob := (true && vm_is 96 11)) (by decide +kernel) rfl (vm_u rfl (by decide +kernel)) ?_
    refine vm_gj (c := ¬ (m2 96 14) = 0) (t := 78) (e := 74) (i := (.ifCond .ne 0, 78, 0, [])) (len := 3) (st1 := []) (by decide +kernel) rfl rfl (fun c2 => ?_) (fun c2 => ?_)
    · replace h := h.1 c2
      refine vm_gp [(.aload 0, 0, 0, [])] (pc1 := 79) (ls1 := [some (vm_r 96), some (vm_l v1), none, some (vm_i v3), some (vm_i v4), some (vm_i v5), w6, none]) (st1 := [vm_r 96]) (m1 := m2) (ob := true) (by decide +kernel) rfl rfl ?_
      refine vm_gc (g := 187) (na := 1) (av := [vm_r 96]) (rest := []) (i := (.invokevirtual 0, 187, 1, [])) (len := 3) (by decide +kernel) rfl rfl rfl (by decide +kernel) (by decide +kernel) rfl rfl (vm_u (vm_okh_v (c := 11) (by decide +kernel) (by decide +kernel)) (show vm_okn 187 1 0 0 0 1 = true by decide +kernel)) ?_
      refine vm_G.mono h ?_
      rintro _ m3 ⟨z3, rfl, h⟩
      show vm_G 279 82 [some (vm_r 96), some (vm_l v1), none, some (vm_i v3), some (vm_i v4), some (vm_i v5), w6, none] [vm_l z3] m3 _
      refine vm_gp [(.lstore 6, 0, 0, []), (.aload 0, 0, 0, []), (.iload 4, 0, 0, []), (.iload 5, 0, 0, [])] (pc1 := 89) (ls1 := [some (vm_r 96), some (vm_l v1), none, some (vm_i v3), some (vm_i v4), some (vm_i v5), some (vm_l z3), none]) (st1 := [vm_i v5, vm_i v4, vm_r 96]) (m1 := m3) (ob := true) (by decide +kernel) rfl rfl ?_
      refine vm_gc (g := 278) (na := 3) (av := [vm_r 96, vm_i v4, vm_i v5]) (rest := []) (i := (.invokevirtual 0, 278, 3, [])) (len := 3) (by decide +kernel) rfl rfl rfl (by decide +kernel) (by decide +kernel) rfl rfl (vm_u (vm_okh_v (c := 11) (by decide +kernel) (by decide +kernel)) (show vm_okn 278 3 0 0 0 3 = true by decide +kernel)) ?_
      refine vm_G.mono h ?_
      rintro _ m4 ⟨rfl, h⟩
      show vm_G 279 92 [some (vm_r 96), some (vm_l v1), none, some (vm_i v3), some (vm_i v4), some (vm_i v5), some (vm_l z3), none] [] m4 _
      refine vm_gp [(.lload 6, 0, 0, []), (.lload 1, 0, 0, []), (.lcmp, 0, 0, [])] (pc1 := 96) (ls1 := [some (vm_r 96), some (vm_l v1), none, some (vm_i v3), some (vm_i v4), some (vm_i v5), some (vm_l z3), none]) (st1 := [vm_i (if z3 < v1 then -1 else if z3 = v1 then 0 else 1)]) (m1 := m4) (ob := true) (by decide +kernel) rfl rfl ?_
      refine vm_gj (c := 0 ≤ (if z3 < v1 then -1 else if z3 = v1 then 0 else 1)) (t := 110) (e := 99) (i := (.ifCond .ge 0, 110, 0, [])) (len := 3) (st1 := []) (by decide +kernel) rfl rfl (fun c3 => ?_) (fun c3 => ?_)
      · replace h := h.1 c3
        refine vm_gp [(.iload 3, 0, 0, []), (.istore 3, 0, 0, []), (.lload 6, 0, 0, []), (.lload 1, 0, 0, []), (.lcmp, 0, 0, [])] (pc1 := 116) (ls1 := [some (vm_r 96), some (vm_l v1), none, some (vm_i v3), some (vm_i v4), some (vm_i v5), some (vm_l z3), none]) (st1 := [vm_i (if z3 < v1 then -1 else if z3 = v1 then 0 else 1)]) (m1 := m4) (ob := true) (by decide +kernel) rfl rfl ?_
        refine vm_gj (c := 0 ≤ (if z3 < v1 then -1 else if z3 = v1 then 0 else 1)) (t := 124) (e := 119) (i := (.ifCond .ge 0, 124, 0, [])) (len := 3) (st1 := []) (by decide +kernel) rfl rfl (fun c4 => ?_) (fun c4 => ?_)
        · replace h := h.1 c4
          obtain ⟨o10_0, h⟩ := h
          refine vm_gp [(.lload 1, 0, 0, []), (.lstore 1, 0, 0, []), (.iinc 5 1, 0, 0, []), (.goto 0, 43, 0, [])] (pc1 := 43) (ls1 := [some (vm_r 96), some (vm_l v1), none, some (vm_i v3), some (vm_i v4), some (vm_i (v5 + 1)), some (vm_l z3), none]) (st1 := []) (m1 := m4) (ob := (true && decide (vm_32 (v5 + 1)))) (by decide +kernel) rfl (vm_t rfl o10_0) ?_
          exact h
        · replace h := h.2 c4
          obtain ⟨o11_0, h⟩ := h
          refine vm_gp [(.lload 6, 0, 0, []), (.goto 0, 125, 0, []), (.lstore 1, 0, 0, []), (.iinc 5 1, 0, 0, []), (.goto 0, 43, 0, [])] (pc1 := 43) (ls1 := [some (vm_r 96), some (vm_l z3), none, some (vm_i v3), some (vm_i v4), some (vm_i (v5 + 1)), some (vm_l z3), none]) (st1 := []) (m1 := m4) (ob := (true && decide (vm_32 (v5 + 1)))) (by decide +kernel) rfl (vm_t rfl o11_0) ?_
          exact h
      · replace h := h.2 c3
        obtain ⟨⟨o12_0, o12_1⟩, h⟩ := h
        refine vm_gp [(.iconst 100, 0, 0, []), (.iload 4, 0, 0, []), (.imul, 0, 0, []), (.iload 5, 0, 0, []), (.iadd, 0, 0, []), (.goto 0, 111, 0, []), (.istore 3, 0, 0, []), (.lload 6, 0, 0, []), (.lload 1, 0, 0, []), (.lcmp, 0, 0, [])] (pc1 := 116) (ls1 := [some (vm_r 96), some (vm_l v1), none, some (vm_i ((100 * v4) + v5)), some (vm_i v4), some (vm_i v5), some (vm_l z3), none]) (st1 := [vm_i (if z3 < v1 then -1 else if z3 = v1 then 0 else 1)]) (m1 := m4) (ob := ((true && decide (vm_32 (100 * v4))) && decide (vm_32 ((100 * v4) + v5)))) (by decide +kernel) rfl (vm_t (vm_t rfl o12_0) o12_1) ?_
        refine vm_gj (c := 0 ≤ (if z3 < v1 then -1 else if z3 = v1 then 0 else 1)) (t := 124) (e := 119) (i := (.ifCond .ge 0, 124, 0, [])) (len := 3) (st1 := []) (by decide +kernel) rfl rfl (fun c5 => ?_) (fun c5 => ?_)
        · replace h := h.1 c5
          obtain ⟨o13_0, h⟩ := h
          refine vm_gp [(.lload 1, 0, 0, []), (.lstore 1, 0, 0, []), (.iinc 5 1, 0, 0, []), (.goto 0, 43, 0, [])] (pc1 := 43) (ls1 := [some (vm_r 96), some (vm_l v1), none, some (vm_i ((100 * v4) + v5)), some (vm_i v4), some (vm_i (v5 + 1)), some (vm_l z3), none]) (st1 := []) (m1 := m4) (ob := (true && decide (vm_32 (v5 + 1)))) (by decide +kernel) rfl (vm_t rfl o13_0) ?_
          exact h
        · replace h := h.2 c5
          obtain ⟨o14_0, h⟩ := h
          refine vm_gp [(.lload 6, 0, 0, []), (.goto 0, 125, 0, []), (.lstore 1, 0, 0, []), (.iinc 5 1, 0, 0, []), (.goto 0, 43, 0, [])] (pc1 := 43) (ls1 := [some (vm_r 96), some (vm_l z3), none, some (vm_i ((100 * v4) + v5)), some (vm_i v4), some (vm_i (v5 + 1)), some (vm_l z3), none]) (st1 := []) (m1 := m4) (ob := (true && decide (vm_32 (v5 + 1)))) (by decide +kernel) rfl (vm_t rfl o14_0) ?_
          exact h
    · replace h := h.2 c2
      refine vm_gp [(.lload 1, 0, 0, []), (.goto 0, 82, 0, []), (.lstore 6, 0, 0, []), (.aload 0, 0, 0, []), (.iload 4, 0, 0, []), (.iload 5, 0, 0, [])] (pc1 := 89) (ls1 := [some (vm_r 96), some (vm_l v1), none, some (vm_i v3), some (vm_i v4), some (vm_i v5), some (vm_l v1), none]) (st1 := [vm_i v5, vm_i v4, vm_r 96]) (m1 := m2) (ob := true) (by decide +kernel) rfl rfl ?_
      refine vm_gc (g := 278) (na := 3) (av := [vm_r 96, vm_i v4, vm_i v5]) (rest := []) (i := (.invokevirtual 0, 278, 3, [])) (len := 3) (by decide +kernel) rfl rfl rfl (by decide +kernel) (by decide +kernel) rfl rfl (vm_u (vm_okh_v (c := 11) (by decide +kernel) (by decide +kernel)) (show vm_okn 278 3 0 0 0 3 = true by decide +kernel)) ?_
      refine vm_G.mono h ?_
      rintro _ m5 ⟨rfl, h⟩
      show vm_G 279 92 [some (vm_r 96), some (vm_l v1), none, some (vm_i v3), some (vm_i v4), some (vm_i v5), some (vm_l v1), none] [] m5 _
      refine vm_gp [(.lload 6, 0, 0, []), (.lload 1, 0, 0, []), (.lcmp, 0, 0, [])] (pc1 := 96) (ls1 := [some (vm_r 96), some (vm_l v1), none, some (vm_i v3), some (vm_i v4), some (vm_i v5), some (vm_l v1), none]) (st1 := [vm_i (if v1 < v1 then -1 else if v1 = v1 then 0 else 1)]) (m1 := m5) (ob := true) (by decide +kernel) rfl rfl ?_
      refine vm_gj (c := 0 ≤ (if v1 < v1 then -1 else if v1 = v1 then 0 else 1)) (t := 110) (e := 99) (i := (.ifCond .ge 0, 110, 0, [])) (len := 3) (st1 := []) (by decide +kernel) rfl rfl (fun c6 => ?_) (fun c6 => ?_)
      · replace h := h.1 c6
        refine vm_gp [(.iload 3, 0, 0, []), (.istore 3, 0, 0, []), (.lload 6, 0, 0, []), (.lload 1, 0, 0, []), (.lcmp, 0, 0, [])] (pc1 := 116) (ls1 := [some (vm_r 96), some (vm_l v1), none, some (vm_i v3), some (vm_i v4), some (vm_i v5), some (vm_l v1), none]) (st1 := [vm_i (if v1 < v1 then -1 else if v1 = v1 then 0 else 1)]) (m1 := m5) (ob := true) (by decide +kernel) rfl rfl ?_
        refine vm_gj (c := 0 ≤ (if v1 < v1 then -1 else if v1 = v1 then 0 else 1)) (t := 124) (e := 119) (i := (.ifCond .ge 0, 124, 0, [])) (len := 3) (st1 := []) (by decide +kernel) rfl rfl (fun c7 => ?_) (fun c7 => ?_)
        · replace h := h.1 c7
          obtain ⟨o18_0, h⟩ := h
          refine vm_gp [(.lload 1, 0, 0, []), (.lstore 1, 0, 0, []), (.iinc 5 1, 0, 0, []), (.goto 0, 43, 0, [])] (pc1 := 43) (ls1 := [some (vm_r 96), some (vm_l v1), none, some (vm_i v3), some (vm_i v4), some (vm_i (v5 + 1)), some (vm_l v1), none]) (st1 := []) (m1 := m5) (ob := (true && decide (vm_32 (v5 + 1)))) (by decide +kernel) rfl (vm_t rfl o18_0) ?_
          exact h
        · replace h := h.2 c7
          obtain ⟨o19_0, h⟩ := h
          refine vm_gp [(.lload 6, 0, 0, []), (.goto 0, 125, 0, []), (.lstore 1, 0, 0, []), (.iinc 5 1, 0, 0, []), (.goto 0, 43, 0, [])] (pc1 := 43) (ls1 := [some (vm_r 96), some (vm_l v1), none, some (vm_i v3), some (vm_i v4), some (vm_i (v5 + 1)), some (vm_l v1), none]) (st1 := []) (m1 := m5) (ob := (true && decide (vm_32 (v5 + 1)))) (by decide +kernel) rfl (vm_t rfl o19_0) ?_
          exact h
      · replace h := h.2 c6
        obtain ⟨⟨o20_0, o20_1⟩, h⟩ := h
        refine vm_gp [(.iconst 100, 0, 0, []), (.iload 4, 0, 0, []), (.imul, 0, 0, []), (.iload 5, 0, 0, []), (.iadd, 0, 0, []), (.goto 0, 111, 0, []), (.istore 3, 0, 0, []), (.lload 6, 0, 0, []), (.lload 1, 0, 0, []), (.lcmp, 0, 0, [])] (pc1 := 116) (ls1 := [some (vm_r 96), some (vm_l v1), none, some (vm_i ((100 * v4) + v5)), some (vm_i v4), some (vm_i v5), some (vm_l v1), none]) (st1 := [vm_i (if v1 < v1 then -1 else if v1 = v1 then 0 else 1)]) (m1 := m5) (ob := ((true && decide (vm_32 (100 * v4))) && decide (vm_32 ((100 * v4) + v5)))) (by decide +kernel) rfl (vm_t (vm_t rfl o20_0) o20_1) ?_
        refine vm_gj (c := 0 ≤ (if v1 < v1 then -1 else if v1 = v1 then 0 else 1)) (t := 124) (e := 119) (i := (.ifCond .ge 0, 124, 0, [])) (len := 3) (st1 := []) (by decide +kernel) rfl rfl (fun c8 => ?_) (fun c8 => ?_)
        · replace h := h.1 c8
          obtain ⟨o21_0, h⟩ := h
          refine vm_gp [(.lload 1, 0, 0, []), (.lstore 1, 0, 0, []), (.iinc 5 1, 0, 0, []), (.goto 0, 43, 0, [])] (pc1 := 43) (ls1 := [some (vm_r 96), some (vm_l v1), none, some (vm_i ((100 * v4) + v5)), some (vm_i v4), some (vm_i (v5 + 1)), some (vm_l v1), none]) (st1 := []) (m1 := m5) (ob := (true && decide (vm_32 (v5 + 1)))) (by decide +kernel) rfl (vm_t rfl o21_0) ?_
          exact h
        · replace h := h.2 c8
          obtain ⟨o22_0, h⟩ := h
          refine vm_gp [(.lload 6, 0, 0, []), (.goto 0, 125, 0, []), (.lstore 1, 0, 0, []), (.iinc 5 1, 0, 0, []), (.goto 0, 43, 0, [])] (pc1 := 43) (ls1 := [some (vm_r 96), some (vm_l v1), none, some (vm_i ((100 * v4) + v5)), some (vm_i v4), some (vm_i (v5 + 1)), some (vm_l v1), none]) (st1 := []) (m1 := m5) (ob := (true && decide (vm_32 (v5 + 1)))) (by decide +kernel) rfl (vm_t rfl o22_0) ?_
          exact h
abbrev ku11_apart_0 (v0 : Int) (v1 : Int) (m : vm_M) (Q : Int → vm_M → Prop) : Prop := vm_G 280 0 [some (vm_i v0), some (vm_i v1)] [] m (vm_qi Q)
set_option maxRecDepth 20000 in
theorem ru11_apart_0 {v0 : Int} {v1 : Int} {m : vm_M} {Q : Int → vm_M → Prop}  (h :
    ((v1 ≤ v0 →
      ((vm_32 (v0 - v1))) ∧
      Q (v0 - v1) m) ∧ (¬ v1 ≤ v0 →
      ((vm_32 (v1 - v0))) ∧
      Q (v1 - v0) m))) : vm_C 280 [vm_i v0, vm_i v1] m (vm_qi Q) := by
  show vm_G 280 0 [some (vm_i v0), some (vm_i v1)] [] m (vm_qi Q)
  refine vm_gp [(.iload 0, 0, 0, []), (.iload 1, 0, 0, [])] (pc1 := 2) (ls1 := [some (vm_i v0), some (vm_i v1)]) (st1 := [vm_i v1, vm_i v0]) (m1 := m) (ob := true) (by decide +kernel) rfl rfl ?_
  refine vm_gj (c := v1 ≤ v0) (t := 11) (e := 5) (i := (.if_icmp .ge 0, 11, 0, [])) (len := 3) (st1 := []) (by decide +kernel) rfl rfl (fun c1 => ?_) (fun c1 => ?_)
  · replace h := h.1 c1
    obtain ⟨o2_0, h⟩ := h
    refine vm_gp [(.iload 0, 0, 0, []), (.iload 1, 0, 0, []), (.isub, 0, 0, [])] (pc1 := 14) (ls1 := [some (vm_i v0), some (vm_i v1)]) (st1 := [vm_i (v0 - v1)]) (m1 := m) (ob := (true && decide (vm_32 (v0 - v1)))) (by decide +kernel) rfl (vm_t rfl o2_0) ?_
    exact vm_gr (r := some (vm_i (v0 - v1))) (i := (.ireturn, 1, 0, [])) (len := 1) (by decide +kernel) rfl rfl rfl ⟨_, rfl, h⟩
  · replace h := h.2 c1
    obtain ⟨o3_0, h⟩ := h
    refine vm_gp [(.iload 1, 0, 0, []), (.iload 0, 0, 0, []), (.isub, 0, 0, []), (.goto 0, 14, 0, [])] (pc1 := 14) (ls1 := [some (vm_i v0), some (vm_i v1)]) (st1 := [vm_i (v1 - v0)]) (m1 := m) (ob := (true && decide (vm_32 (v1 - v0)))) (by decide +kernel) rfl (vm_t rfl o3_0) ?_
    exact vm_gr (r := some (vm_i (v1 - v0))) (i := (.ireturn, 1, 0, [])) (len := 1) (by decide +kernel) rfl rfl rfl ⟨_, rfl, h⟩
abbrev ku11_bestCorrection_0 (v1 : Int) (v2 : Int) (m : vm_M) (Q : Int → vm_M → Prop) : Prop := vm_G 281 0 [some (vm_r 96), some (vm_i v1), some (vm_i v2), none, none, none, none, none] [] m (vm_qi Q)
abbrev ku11_bestCorrection_53 (v1 : Int) (v2 : Int) (v3 : Int) (v4 : Int) (v5 : Int) (w6 : Option vm_V) (w7 : Option vm_V) (m : vm_M) (Q : Int → vm_M → Prop) : Prop := vm_G 281 53 [some (vm_r 96), some (vm_i v1), some (vm_i v2), some (vm_i v3), some (vm_i v4), some (vm_i v5), w6, w7] [] m (vm_qi Q)
set_option maxRecDepth 20000 in
theorem ru11_bestCorrection_0 {v1 : Int} {v2 : Int} {m : vm_M} {Q : Int → vm_M → Prop}  (h :
    (vm_C 165 [vm_r 96, vm_i v1] m (vm_qi (fun z1 m1 =>
      ((z1 = 0 →
        Q (-1) m1) ∧ (¬ z1 = 0 →
        (vm_C 165 [vm_r 96, vm_i v2] m1 (vm_qi (fun z2 m2 =>
          ((¬ z2 = 0 →
            (vm_C 174 [vm_r 96, vm_i v1, vm_i v2, vm_i (m2 100 3), vm_i 0] m2 (vm_qi (fun z3 m3 =>
              (vm_C 171 [vm_r 96, vm_i v1, vm_i v2, vm_i z3] m3 (vm_qi (fun z4 m4 =>
                (vm_C 280 [vm_i z4, vm_i (m4 100 3)] m4 (vm_qi (fun z5 m5 =>
                  ku11_bestCorrection_53 v1 v2 0 z5 2 none none m5 Q)))))))))) ∧ (¬ ¬ z2 = 0 →
            Q (-1) m2))))))))))) : vm_C 281 [vm_r 96, vm_i v1, vm_i v2] m (vm_qi Q) := by
  show vm_G 281 0 [some (vm_r 96), some (vm_i v1), some (vm_i v2), none, none, none, none, none] [] m (vm_qi Q)
  refine vm_gp [(.aload 0, 0, 0, []), (.iload 1, 0, 0, [])] (pc1 := 2) (ls1 := [some (vm_r 96), some (vm_i v1), some (vm_i v2), none, none, none, none, none]) (st1 := [vm_i v1, vm_r 96]) (m1 := m) (ob := true) (by decide +kernel) rfl rfl ?_
  refine vm_gc (g := 165) (na := 2) (av := [vm_r 96, vm_i v1]) (rest := []) (i := (.invokevirtual 0, 165, 2, [])) (len := 3) (by decide +kernel) rfl rfl rfl (by decide +kernel) (by decide +kernel) rfl rfl (vm_u (vm_okh_v (c := 11) (by decide +kernel) (by decide +kernel)) (show vm_okn 165 2 0 0 0 2 = true by decide +kernel)) ?_
  refine vm_G.mono h ?_
  rintro _ m1 ⟨z1, rfl, h⟩
  show vm_G 281 5 [some (vm_r 96), some (vm_i v1), some (vm_i v2), none, none, none, none, none] [vm_i z1] m1 _
  refine vm_gj (c := z1 = 0) (t := 16) (e := 8) (i := (.ifCond .eq 0, 16, 0, [])) (len := 3) (st1 := []) (by decide +kernel) rfl rfl (fun c1 => ?_) (fun c1 => ?_)
  · replace h := h.1 c1
    refine vm_gp [(.iconst (-1), 0, 0, [])] (pc1 := 17) (ls1 := [some (vm_r 96), some (vm_i v1), some (vm_i v2), none, none, none, none, none]) (st1 := [vm_i (-1)]) (m1 := m1) (ob := true) (by decide +kernel) rfl rfl ?_
    exact vm_gr (r := some (vm_i (-1))) (i := (.ireturn, 1, 0, [])) (len := 1) (by decide +kernel) rfl rfl rfl ⟨_, rfl, h⟩
  · replace h := h.2 c1
    refine vm_gp [(.aload 0, 0, 0, []), (.iload 2, 0, 0, [])] (pc1 := 10) (ls1 := [some (vm_r 96), some (vm_i v1), some (vm_i v2), none, none, none, none, none]) (st1 := [vm_i v2, vm_r 96]) (m1 := m1) (ob := true) (by decide +kernel) rfl rfl ?_
    refine vm_gc (g := 165) (na := 2) (av := [vm_r 96, vm_i v2]) (rest := []) (i := (.invokevirtual 0, 165, 2, [])) (len := 3) (by decide +kernel) rfl rfl rfl (by decide +kernel) (by decide +kernel) rfl rfl (vm_u (vm_okh_v (c := 11) (by decide +kernel) (by decide +kernel)) (show vm_okn 165 2 0 0 0 2 = true by decide +kernel)) ?_
    refine vm_G.mono h ?_
    rintro _ m2 ⟨z2, rfl, h⟩
    show vm_G 281 13 [some (vm_r 96), some (vm_i v1), some (vm_i v2), none, none, none, none, none] [vm_i z2] m2 _
    refine vm_gj (c := ¬ z2 = 0) (t := 18) (e := 16) (i := (.ifCond .ne 0, 18, 0, [])) (len := 3) (st1 := []) (by decide +kernel) rfl rfl (fun c2 => ?_) (fun c2 => ?_)
    · replace h := h.1 c2
      refine vm_gp [(.iconst 0, 0, 0, []), (.istore 3, 0, 0, []), (.aload 0, 0, 0, []), (.iload 1, 0, 0, []), (.iload 2, 0, 0, []), (.aload 0, 0, 0, []), (.iload 1, 0, 0, []), (.iload 2, 0, 0, []), (.aload 0, 0, 0, []), (.getfield 2, 11, 7, [(100, 0)]), (.iconst 3, 0, 0, []), (.iaload, 1075, 0, []), (.iconst 0, 0, 0, [])] (pc1 := 33) (ls1 := [some (vm_r 96), some (vm_i v1), some (vm_i v2), some (vm_i 0), none, none, none, none]) (st1 := [vm_i 0, vm_i (m2 100 3), vm_i v2, vm_i v1, vm_r 96, vm_i v2, vm_i v1, vm_r 96]) (m1 := m2) (ob := ((((true && vm_is 96 11) && true) && vm_ar 100 100 1075) && decide ((0 : Int) ≤ 3 ∧ (3 : Int) < 1075))) (by decide +kernel) rfl (vm_t (vm_u (vm_u (vm_u rfl (by decide +kernel)) rfl) (by decide +kernel)) (by decide)) ?_
      refine vm_gc (g := 174) (na := 5) (av := [vm_r 96, vm_i v1, vm_i v2, vm_i (m2 100 3), vm_i 0]) (rest := [vm_i v2, vm_i v1, vm_r 96]) (i := (.invokevirtual 0, 174, 5, [])) (len := 3) (by decide +kernel) rfl rfl rfl (by decide +kernel) (by decide +kernel) rfl rfl (vm_u (vm_okh_v (c := 11) (by decide +kernel) (by decide +kernel)) (show vm_okn 174 5 3 0 0 5 = true by decide +kernel)) ?_
      refine vm_G.mono h ?_
      rintro _ m3 ⟨z3, rfl, h⟩
      show vm_G 281 36 [some (vm_r 96), some (vm_i v1), some (vm_i v2), some (vm_i 0), none, none, none, none] [vm_i z3, vm_i v2, vm_i v1, vm_r 96] m3 _
      refine vm_gc (g := 171) (na := 4) (av := [vm_r 96, vm_i v1, vm_i v2, vm_i z3]) (rest := []) (i := (.invokevirtual 0, 171, 4, [])) (len := 3) (by decide +kernel) rfl rfl rfl (by decide +kernel) (by decide +kernel) rfl rfl (vm_u (vm_okh_v (c := 11) (by decide +kernel) (by decide +kernel)) (show vm_okn 171 4 0 0 0 4 = true by decide +kernel)) ?_
      refine vm_G.mono h ?_
      rintro _ m4 ⟨z4, rfl, h⟩
      show vm_G 281 39 [some (vm_r 96), some (vm_i v1), some (vm_i v2), some (vm_i 0), none, none, none, none] [vm_i z4] m4 _
      refine vm_gp [(.aload 0, 0, 0, []), (.getfield 2, 11, 7, [(100, 0)]), (.iconst 3, 0, 0, []), (.iaload, 1075, 0, [])] (pc1 := 45) (ls1 := [some (vm_r 96), some (vm_i v1), some (vm_i v2), some (vm_i 0), none, none, none, none]) (st1 := [vm_i (m4 100 3), vm_i z4]) (m1 := m4) (ob := ((((true && vm_is 96 11) && true) && vm_ar 100 100 1075) && decide ((0 : Int) ≤ 3 ∧ (3 : Int) < 1075))) (by decide +kernel) rfl (vm_t (vm_u (vm_u (vm_u rfl (by decide +kernel)) rfl) (by decide +kernel)) (by decide)) ?_
      refine vm_gc (g := 280) (na := 2) (av := [vm_i z4, vm_i (m4 100 3)]) (rest := []) (i := (.invokestatic 0, 280, 2, [])) (len := 3) (by decide +kernel) rfl rfl rfl (by decide +kernel) (by decide +kernel) rfl rfl (vm_u (vm_okh_s (by decide +kernel)) (show vm_okn 280 2 0 0 0 2 = true by decide +kernel)) ?_
      refine vm_G.mono h ?_
      rintro _ m5 ⟨z5, rfl, h⟩
      show vm_G 281 48 [some (vm_r 96), some (vm_i v1), some (vm_i v2), some (vm_i 0), none, none, none, none] [vm_i z5] m5 _
      refine vm_gp [(.istore 4, 0, 0, []), (.iconst 2, 0, 0, []), (.istore 5, 0, 0, [])] (pc1 := 53) (ls1 := [some (vm_r 96), some (vm_i v1), some (vm_i v2), some (vm_i 0), some (vm_i z5), some (vm_i 2), none, none]) (st1 := []) (m1 := m5) (ob := true) (by decide +kernel) rfl rfl ?_
      exact h
    · replace h := h.2 c2
      refine vm_gp [(.iconst (-1), 0, 0, [])] (pc1 := 17) (ls1 := [some (vm_r 96), some (vm_i v1), some (vm_i v2), none, none, none, none, none]) (st1 := [vm_i (-1)]) (m1 := m2) (ob := true) (by decide +kernel) rfl rfl ?_
      exact vm_gr (r := some (vm_i (-1))) (i := (.ireturn, 1, 0, [])) (len := 1) (by decide +kernel) rfl rfl rfl ⟨_, rfl, h⟩
set_option maxRecDepth 20000 in
theorem ru11_bestCorrection_53 {v1 : Int} {v2 : Int} {v3 : Int} {v4 : Int} {v5 : Int} {w6 : Option vm_V} {w7 : Option vm_V} {m : vm_M} {Q : Int → vm_M → Prop}  (h :
    ((20 ≤ v5 →
      ((vm_32 (v3 + 9))) ∧
      Q (v3 + 9) m) ∧ (¬ 20 ≤ v5 →
      ((0 ≤ v5 ∧ (0 : Int) < 2)) ∧
      ((¬ (v5 % 2) = 0 →
        ((0 ≤ v5 ∧ (0 : Int) < 2)) ∧
        (vm_C 174 [vm_r 96, vm_i v1, vm_i v2, vm_i (m 100 3), vm_i (v5 / 2)] m (vm_qi (fun z1 m1 =>
          (vm_C 171 [vm_r 96, vm_i v1, vm_i v2, vm_i z1] m1 (vm_qi (fun z2 m2 =>
            (vm_C 280 [vm_i z2, vm_i (m2 100 3)] m2 (vm_qi (fun z3 m3 =>
              ((v4 ≤ z3 →
                ((v4 ≤ z3 →
                  ((vm_32 (v5 + 1))) ∧
                  ku11_bestCorrection_53 v1 v2 v3 v4 (v5 + 1) (some (vm_i (v5 / 2))) (some (vm_i z3)) m3 Q) ∧ (¬ v4 ≤ z3 →
                  ((vm_32 (v5 + 1))) ∧
                  ku11_bestCorrection_53 v1 v2 v3 z3 (v5 + 1) (some (vm_i (v5 / 2))) (some (vm_i z3)) m3 Q))) ∧ (¬ v4 ≤ z3 →
                ((v4 ≤ z3 →
                  ((vm_32 (v5 + 1))) ∧
                  ku11_bestCorrection_53 v1 v2 (v5 / 2) v4 (v5 + 1) (some (vm_i (v5 / 2))) (some (vm_i z3)) m3 Q) ∧ (¬ v4 ≤ z3 →
                  ((vm_32 (v5 + 1))) ∧
                  ku11_bestCorrection_53 v1 v2 (v5 / 2) z3 (v5 + 1) (some (vm_i (v5 / 2))) (some (vm_i z3)) m3 Q)))))))))))))) ∧ (¬ ¬ (v5 % 2) = 0 →
        ((vm_32 (-v5)) ∧ (¬ (2 : Int) = 0 ∧ vm_32 (Int.tdiv (-v5) 2))) ∧
        (vm_C 174 [vm_r 96, vm_i v1, vm_i v2, vm_i (m 100 3), vm_i (Int.tdiv (-v5) 2)] m (vm_qi (fun z4 m4 =>
          (vm_C 171 [vm_r 96, vm_i v1, vm_i v2, vm_i z4] m4 (vm_qi (fun z5 m5 =>
            (vm_C 280 [vm_i z5, vm_i (m5 100 3)] m5 (vm_qi (fun z6 m6 =>
              ((v4 ≤ z6 →
                ((v4 ≤ z6 →
                  ((vm_32 (v5 + 1))) ∧
                  ku11_bestCorrection_53 v1 v2 v3 v4 (v5 + 1) (some (vm_i (Int.tdiv (-v5) 2))) (some (vm_i z6)) m6 Q) ∧ (¬ v4 ≤ z6 →
                  ((vm_32 (v5 + 1))) ∧
                  ku11_bestCorrection_53 v1 v2 v3 z6 (v5 + 1) (some (vm_i (Int.tdiv (-v5) 2))) (some (vm_i z6)) m6 Q))) ∧ (¬ v4 ≤ z6 →
                ((v4 ≤ z6 →
                  ((vm_32 (v5 + 1))) ∧
                  ku11_bestCorrection_53 v1 v2 (Int.tdiv (-v5) 2) v4 (v5 + 1) (some (vm_i (Int.tdiv (-v5) 2))) (some (vm_i z6)) m6 Q) ∧ (¬ v4 ≤ z6 →
                  ((vm_32 (v5 + 1))) ∧
                  ku11_bestCorrection_53 v1 v2 (Int.tdiv (-v5) 2) z6 (v5 + 1) (some (vm_i (Int.tdiv (-v5) 2))) (some (vm_i z6)) m6 Q)))))))))))))))))) : ku11_bestCorrection_53 v1 v2 v3 v4 v5 w6 w7 m Q := by
  show vm_G 281 53 [some (vm_r 96), some (vm_i v1), some (vm_i v2), some (vm_i v3), some (vm_i v4), some (vm_i v5), w6, w7] [] m (vm_qi Q)
  refine vm_gp [(.iload 5, 0, 0, []), (.iconst 20, 0, 0, [])] (pc1 := 57) (ls1 := [some (vm_r 96), some (vm_i v1), some (vm_i v2), some (vm_i v3), some (vm_i v4), some (vm_i v5), w6, w7]) (st1 := [vm_i 20, vm_i v5]) (m1 := m) (ob := true) (by decide +kernel) rfl rfl ?_
  refine vm_gj (c := 20 ≤ v5) (t := 148) (e := 60) (i := (.if_icmp .ge 0, 148, 0, [])) (len := 3) (st1 := []) (by decide +kernel) rfl rfl (fun c1 => ?_) (fun c1 => ?_)
  · replace h := h.1 c1
    obtain ⟨o2_0, h⟩ := h
    refine vm_gp [(.iload 3, 0, 0, []), (.iconst 9, 0, 0, []), (.iadd, 0, 0, [])] (pc1 := 152) (ls1 := [some (vm_r 96), some (vm_i v1), some (vm_i v2), some (vm_i v3), some (vm_i v4), some (vm_i v5), w6, w7]) (st1 := [vm_i (v3 + 9)]) (m1 := m) (ob := (true && decide (vm_32 (v3 + 9)))) (by decide +kernel) rfl (vm_t rfl o2_0) ?_
    exact vm_gr (r := some (vm_i (v3 + 9))) (i := (.ireturn, 1, 0, [])) (len := 1) (by decide +kernel) rfl rfl rfl ⟨_, rfl, h⟩
  · replace h := h.2 c1
    obtain ⟨o3_0, h⟩ := h
    refine vm_gp [(.iload 5, 0, 0, []), (.iconst 2, 0, 0, []), (.irem, 0, 0, [])] (pc1 := 64) (ls1 := [some (vm_r 96), some (vm_i v1), some (vm_i v2), some (vm_i v3), some (vm_i v4), some (vm_i v5), w6, w7]) (st1 := [vm_i (v5 % 2)]) (m1 := m) (ob := (true && decide (0 ≤ v5 ∧ (0 : Int) < 2))) (by decide +kernel) rfl (vm_t rfl o3_0) ?_
    refine vm_gj (c := ¬ (v5 % 2) = 0) (t := 75) (e := 67) (i := (.ifCond .ne 0, 75, 0, [])) (len := 3) (st1 := []) (by decide +kernel) rfl rfl (fun c2 => ?_) (fun c2 => ?_)
    · replace h := h.1 c2
      obtain ⟨o4_0, h⟩ := h
      refine vm_gp [(.iload 5, 0, 0, []), (.iconst 2, 0, 0, []), (.idiv, 0, 0, []), (.istore 6, 0, 0, []), (.aload 0, 0, 0, []), (.iload 1, 0, 0, []), (.iload 2, 0, 0, []), (.aload 0, 0, 0, []), (.iload 1, 0, 0, []), (.iload 2, 0, 0, []), (.aload 0, 0, 0, []), (.getfield 2, 11, 7, [(100, 0)]), (.iconst 3, 0, 0, []), (.iaload, 1075, 0, []), (.iload 6, 0, 0, [])] (pc1 := 95) (ls1 := [some (vm_r 96), some (vm_i v1), some (vm_i v2), some (vm_i v3), some (vm_i v4), some (vm_i v5), some (vm_i (v5 / 2)), w7]) (st1 := [vm_i (v5 / 2), vm_i (m 100 3), vm_i v2, vm_i v1, vm_r 96, vm_i v2, vm_i v1, vm_r 96]) (m1 := m) (ob := (((((true && decide (0 ≤ v5 ∧ (0 : Int) < 2)) && vm_is 96 11) && true) && vm_ar 100 100 1075) && decide ((0 : Int) ≤ 3 ∧ (3 : Int) < 1075))) (by decide +kernel) rfl (vm_t (vm_u (vm_u (vm_u (vm_t rfl o4_0) (by decide +kernel)) rfl) (by decide +kernel)) (by decide)) ?_
      refine vm_gc (g := 174) (na := 5) (av := [vm_r 96, vm_i v1, vm_i v2, vm_i (m 100 3), vm_i (v5 / 2)]) (rest := [vm_i v2, vm_i v1, vm_r 96]) (i := (.invokevirtual 0, 174, 5, [])) (len := 3) (by decide +kernel) rfl rfl rfl (by decide +kernel) (by decide +kernel) rfl rfl (vm_u (vm_okh_v (c := 11) (by decide +kernel) (by decide +kernel)) (show vm_okn 174 5 3 0 0 5 = true by decide +kernel)) ?_
      refine vm_G.mono h ?_
      rintro _ m1 ⟨z1, rfl, h⟩
      show vm_G 281 98 [some (vm_r 96), some (vm_i v1), some (vm_i v2), some (vm_i v3), some (vm_i v4), some (vm_i v5), some (vm_i (v5 / 2)), w7] [vm_i z1, vm_i v2, vm_i v1, vm_r 96] m1 _
      refine vm_gc (g := 171) (na := 4) (av := [vm_r 96, vm_i v1, vm_i v2, vm_i z1]) (rest := []) (i := (.invokevirtual 0, 171, 4, [])) (len := 3) (by decide +kernel) rfl rfl rfl (by decide +kernel) (by decide +kernel) rfl rfl (vm_u (vm_okh_v (c := 11) (by decide +kernel) (by decide +kernel)) (show vm_okn 171 4 0 0 0 4 = true by decide +kernel)) ?_
      refine vm_G.mono h ?_
      rintro _ m2 ⟨z2, rfl, h⟩
      show vm_G 281 101 [some (vm_r 96), some (vm_i v1), some (vm_i v2), some (vm_i v3), some (vm_i v4), some (vm_i v5), some (vm_i (v5 / 2)), w7] [vm_i z2] m2 _
      refine vm_gp [(.aload 0, 0, 0, []), (.getfield 2, 11, 7, [(100, 0)]), (.iconst 3, 0, 0, []), (.iaload, 1075, 0, [])] (pc1 := 107) (ls1 := [some (vm_r 96), some (vm_i v1), some (vm_i v2), some (vm_i v3), some (vm_i v4), some (vm_i v5), some (vm_i (v5 / 2)), w7]) (st1 := [vm_i (m2 100 3), vm_i z2]) (m1 := m2) (ob := ((((true && vm_is 96 11) && true) && vm_ar 100 100 1075) && decide ((0 : Int) ≤ 3 ∧ (3 : Int) < 1075))) (by decide +kernel) rfl (vm_t (vm_u (vm_u (vm_u rfl (by decide +kernel)) rfl) (by decide +kernel)) (by decide)) ?_
      refine vm_gc (g := 280) (na := 2) (av := [vm_i z2, vm_i (m2 100 3)]) (rest := []) (i := (.invokestatic 0, 280, 2, [])) (len := 3) (by decide +kernel) rfl rfl rfl (by decide +kernel) (by decide +kernel) rfl rfl (vm_u (vm_okh_s (by decide +kernel)) (show vm_okn 280 2 0 0 0 2 = true by decide +kernel)) ?_
      refine vm_G.mono h ?_
      rintro _ m3 ⟨z3, rfl, h⟩
      show vm_G 281 110 [some (vm_r 96), some (vm_i v1), some (vm_i v2), some (vm_i v3), some (vm_i v4), some (vm_i v5), some (vm_i (v5 / 2)), w7] [vm_i z3] m3 _
      refine vm_gp [(.istore 7, 0, 0, []), (.iload 7, 0, 0, []), (.iload 4, 0, 0, [])] (pc1 := 116) (ls1 := [some (vm_r 96), some (vm_i v1), some (vm_i v2), some (vm_i v3), some (vm_i v4), some (vm_i v5), some (vm_i (v5 / 2)), some (vm_i z3)]) (st1 := [vm_i v4, vm_i z3]) (m1 := m3) (ob := true) (by decide +kernel) rfl rfl ?_
      refine vm_gj (c := v4 ≤ z3) (t := 124) (e := 119) (i := (.if_icmp .ge 0, 124, 0, [])) (len := 3) (st1 := []) (by decide +kernel) rfl rfl (fun c3 => ?_) (fun c3 => ?_)
      · replace h := h.1 c3
        refine vm_gp [(.iload 3, 0, 0, []), (.istore 3, 0, 0, []), (.iload 7, 0, 0, []), (.iload 4, 0, 0, [])] (pc1 := 130) (ls1 := [some (vm_r 96), some (vm_i v1), some (vm_i v2), some (vm_i v3), some (vm_i v4), some (vm_i v5), some (vm_i (v5 / 2)), some (vm_i z3)]) (st1 := [vm_i v4, vm_i z3]) (m1 := m3) (ob := true) (by decide +kernel) rfl rfl ?_
        refine vm_gj (c := v4 ≤ z3) (t := 138) (e := 133) (i := (.if_icmp .ge 0, 138, 0, [])) (len := 3) (st1 := []) (by decide +kernel) rfl rfl (fun c4 => ?_) (fun c4 => ?_)
        · replace h := h.1 c4
          obtain ⟨o9_0, h⟩ := h
          refine vm_gp [(.iload 4, 0, 0, []), (.istore 4, 0, 0, []), (.iinc 5 1, 0, 0, []), (.goto 0, 53, 0, [])] (pc1 := 53) (ls1 := [some (vm_r 96), some (vm_i v1), some (vm_i v2), some (vm_i v3), some (vm_i v4), some (vm_i (v5 + 1)), some (vm_i (v5 / 2)), some (vm_i z3)]) (st1 := []) (m1 := m3) (ob := (true && decide (vm_32 (v5 + 1)))) (by decide +kernel) rfl (vm_t rfl o9_0) ?_
          exact h
        · replace h := h.2 c4
          obtain ⟨o10_0, h⟩ := h
          refine vm_gp [(.iload 7, 0, 0, []), (.goto 0, 140, 0, []), (.istore 4, 0, 0, []), (.iinc 5 1, 0, 0, []), (.goto 0, 53, 0, [])] (pc1 := 53) (ls1 := [some (vm_r 96), some (vm_i v1), some (vm_i v2), some (vm_i v3), some (vm_i z3), some (vm_i (v5 + 1)), some (vm_i (v5 / 2)), some (vm_i z3)]) (st1 := []) (m1 := m3) (ob := (true && decide (vm_32 (v5 + 1)))) (by decide +kernel) rfl (vm_t rfl o10_0) ?_
          exact h
      · replace h := h.2 c3
        refine vm_gp [(.iload 6, 0, 0, []), (.goto 0, 125, 0, []), (.istore 3, 0, 0, []), (.iload 7, 0, 0, []), (.iload 4, 0, 0, [])] (pc1 := 130) (ls1 := [some (vm_r 96), some (vm_i v1), some (vm_i v2), some (vm_i (v5 / 2)), some (vm_i v4), some (vm_i v5), some (vm_i (v5 / 2)), some (vm_i z3)]) (st1 := [vm_i v4, vm_i z3]) (m1 := m3) (ob := true) (by decide +kernel) rfl rfl ?_
        refine vm_gj (c := v4 ≤ z3) (t := 138) (e := 133) (i := (.if_icmp .ge 0, 138, 0, [])) (len := 3) (st1 := []) (by decide +kernel) rfl rfl (fun c5 => ?_) (fun c5 => ?_)
        · replace h := h.1 c5
          obtain ⟨o12_0, h⟩ := h
          refine vm_gp [(.iload 4, 0, 0, []), (.istore 4, 0, 0, []), (.iinc 5 1, 0, 0, []), (.goto 0, 53, 0, [])] (pc1 := 53) (ls1 := [some (vm_r 96), some (vm_i v1), some (vm_i v2), some (vm_i (v5 / 2)), some (vm_i v4), some (vm_i (v5 + 1)), some (vm_i (v5 / 2)), some (vm_i z3)]) (st1 := []) (m1 := m3) (ob := (true && decide (vm_32 (v5 + 1)))) (by decide +kernel) rfl (vm_t rfl o12_0) ?_
          exact h
        · replace h := h.2 c5
          obtain ⟨o13_0, h⟩ := h
          refine vm_gp [(.iload 7, 0, 0, []), (.goto 0, 140, 0, []), (.istore 4, 0, 0, []), (.iinc 5 1, 0, 0, []), (.goto 0, 53, 0, [])] (pc1 := 53) (ls1 := [some (vm_r 96), some (vm_i v1), some (vm_i v2), some (vm_i (v5 / 2)), some (vm_i z3), some (vm_i (v5 + 1)), some (vm_i (v5 / 2)), some (vm_i z3)]) (st1 := []) (m1 := m3) (ob := (true && decide (vm_32 (v5 + 1)))) (by decide +kernel) rfl (vm_t rfl o13_0) ?_
          exact h
    · replace h := h.2 c2
      obtain ⟨⟨o14_0, o14_1⟩, h⟩ := h
      refine vm_gp [(.iload 5, 0, 0, []), (.ineg, 0, 0, []), (.iconst 2, 0, 0, []), (.idiv, 1, 0, []), (.goto 0, 79, 0, []), (.istore 6, 0, 0, []), (.aload 0, 0, 0, []), (.iload 1, 0, 0, []), (.iload 2, 0, 0, []), (.aload 0, 0, 0, []), (.iload 1, 0, 0, []), (.iload 2, 0, 0, []), (.aload 0, 0, 0, []), (.getfield 2, 11, 7, [(100, 0)]), (.iconst 3, 0, 0, []), (.iaload, 1075, 0, []), (.iload 6, 0, 0, [])] (pc1 := 95) (ls1 := [some (vm_r 96), some (vm_i v1), some (vm_i v2), some (vm_i v3), some (vm_i v4), some (vm_i v5), some (vm_i (Int.tdiv (-v5) 2)), w7]) (st1 := [vm_i (Int.tdiv (-v5) 2), vm_i (m 100 3), vm_i v2, vm_i v1, vm_r 96, vm_i v2, vm_i v1, vm_r 96]) (m1 := m) (ob := ((((((true && decide (vm_32 (-v5))) && decide (¬ (2 : Int) = 0 ∧ vm_32 (Int.tdiv (-v5) 2))) && vm_is 96 11) && true) && vm_ar 100 100 1075) && decide ((0 : Int) ≤ 3 ∧ (3 : Int) < 1075))) (by decide +kernel) rfl (vm_t (vm_u (vm_u (vm_u (vm_t (vm_t rfl o14_0) o14_1) (by decide +kernel)) rfl) (by decide +kernel)) (by decide)) ?_
      refine vm_gc (g := 174) (na := 5) (av := [vm_r 96, vm_i v1, vm_i v2, vm_i (m 100 3), vm_i (Int.tdiv (-v5) 2)]) (rest := [vm_i v2, vm_i v1, vm_r 96]) (i := (.invokevirtual 0, 174, 5, [])) (len := 3) (by decide +kernel) rfl rfl rfl (by decide +kernel) (by decide +kernel) rfl rfl (vm_u (vm_okh_v (c := 11) (by decide +kernel) (by decide +kernel)) (show vm_okn 174 5 3 0 0 5 = true by decide +kernel)) ?_
      refine vm_G.mono h ?_
      rintro _ m4 ⟨z4, rfl, h⟩
      show vm_G 281 98 [some (vm_r 96), some (vm_i v1), some (vm_i v2), some (vm_i v3), some (vm_i v4), some (vm_i v5), some (vm_i (Int.tdiv (-v5) 2)), w7] [vm_i z4, vm_i v2, vm_i v1, vm_r 96] m4 _
      refine vm_gc (g := 171) (na := 4) (av := [vm_r 96, vm_i v1, vm_i v2, vm_i z4]) (rest := []) (i := (.invokevirtual 0, 171, 4, [])) (len := 3) (by decide +kernel) rfl rfl rfl (by decide +kernel) (by decide +kernel) rfl rfl (vm_u (vm_okh_v (c := 11) (by decide +kernel) (by decide +kernel)) (show vm_okn 171 4 0 0 0 4 = true by decide +kernel)) ?_
      refine vm_G.mono h ?_
      rintro _ m5 ⟨z5, rfl, h⟩
      show vm_G 281 101 [some (vm_r 96), some (vm_i v1), some (vm_i v2), some (vm_i v3), some (vm_i v4), some (vm_i v5), some (vm_i (Int.tdiv (-v5) 2)), w7] [vm_i z5] m5 _
      refine vm_gp [(.aload 0, 0, 0, []), (.getfield 2, 11, 7, [(100, 0)]), (.iconst 3, 0, 0, []), (.iaload, 1075, 0, [])] (pc1 := 107) (ls1 := [some (vm_r 96), some (vm_i v1), some (vm_i v2), some (vm_i v3), some (vm_i v4), some (vm_i v5), some (vm_i (Int.tdiv (-v5) 2)), w7]) (st1 := [vm_i (m5 100 3), vm_i z5]) (m1 := m5) (ob := ((((true && vm_is 96 11) && true) && vm_ar 100 100 1075) && decide ((0 : Int) ≤ 3 ∧ (3 : Int) < 1075))) (by decide +kernel) rfl (vm_t (vm_u (vm_u (vm_u rfl (by decide +kernel)) rfl) (by decide +kernel)) (by decide)) ?_
      refine vm_gc (g := 280) (na := 2) (av := [vm_i z5, vm_i (m5 100 3)]) (rest := []) (i := (.invokestatic 0, 280, 2, [])) (len := 3) (by decide +kernel) rfl rfl rfl (by decide +kernel) (by decide +kernel) rfl rfl (vm_u (vm_okh_s (by decide +kernel)) (show vm_okn 280 2 0 0 0 2 = true by decide +kernel)) ?_
      refine vm_G.mono h ?_
      rintro _ m6 ⟨z6, rfl, h⟩
      show vm_G 281 110 [some (vm_r 96), some (vm_i v1), some (vm_i v2), some (vm_i v3), some (vm_i v4), some (vm_i v5), some (vm_i (Int.tdiv (-v5) 2)), w7] [vm_i z6] m6 _
      refine vm_gp [(.istore 7, 0, 0, []), (.iload 7, 0, 0, []), (.iload 4, 0, 0, [])] (pc1 := 116) (ls1 := [some (vm_r 96), some (vm_i v1), some (vm_i v2), some (vm_i v3), some (vm_i v4), some (vm_i v5), some (vm_i (Int.tdiv (-v5) 2)), some (vm_i z6)]) (st1 := [vm_i v4, vm_i z6]) (m1 := m6) (ob := true) (by decide +kernel) rfl rfl ?_
      refine vm_gj (c := v4 ≤ z6) (t := 124) (e := 119) (i := (.if_icmp .ge 0, 124, 0, [])) (len := 3) (st1 := []) (by decide +kernel) rfl rfl (fun c6 => ?_) (fun c6 => ?_)
      · replace h := h.1 c6
        refine vm_gp [(.iload 3, 0, 0, []), (.istore 3, 0, 0, []), (.iload 7, 0, 0, []), (.iload 4, 0, 0, [])] (pc1 := 130) (ls1 := [some (vm_r 96), some (vm_i v1), some (vm_i v2), some (vm_i v3), some (vm_i v4), some (vm_i v5), some (vm_i (Int.tdiv (-v5) 2)), some (vm_i z6)]) (st1 := [vm_i v4, vm_i z6]) (m1 := m6) (ob := true) (by decide +kernel) rfl rfl ?_
        refine vm_gj (c := v4 ≤ z6) (t := 138) (e := 133) (i := (.if_icmp .ge 0, 138, 0, [])) (len := 3) (st1 := []) (by decide +kernel) rfl rfl (fun c7 => ?_) (fun c7 => ?_)
        · replace h := h.1 c7
          obtain ⟨o19_0, h⟩ := h
          refine vm_gp [(.iload 4, 0, 0, []), (.istore 4, 0, 0, []), (.iinc 5 1, 0, 0, []), (.goto 0, 53, 0, [])] (pc1 := 53) (ls1 := [some (vm_r 96), some (vm_i v1), some (vm_i v2), some (vm_i v3), some (vm_i v4), some (vm_i (v5 + 1)), some (vm_i (Int.tdiv (-v5) 2)), some (vm_i z6)]) (st1 := []) (m1 := m6) (ob := (true && decide (vm_32 (v5 + 1)))) (by decide +kernel) rfl (vm_t rfl o19_0) ?_
          exact h
        · replace h := h.2 c7
          obtain ⟨o20_0, h⟩ := h
          refine vm_gp [(.iload 7, 0, 0, []), (.goto 0, 140, 0, []), (.istore 4, 0, 0, []), (.iinc 5 1, 0, 0, []), (.goto 0, 53, 0, [])] (pc1 := 53) (ls1 := [some (vm_r 96), some (vm_i v1), some (vm_i v2), some (vm_i v3), some (vm_i z6), some (vm_i (v5 + 1)), some (vm_i (Int.tdiv (-v5) 2)), some (vm_i z6)]) (st1 := []) (m1 := m6) (ob := (true && decide (vm_32 (v5 + 1)))) (by decide +kernel) rfl (vm_t rfl o20_0) ?_
          exact h
      · replace h := h.2 c6
        refine vm_gp [(.iload 6, 0, 0, []), (.goto 0, 125, 0, []), (.istore 3, 0, 0, []), (.iload 7, 0, 0, []), (.iload 4, 0, 0, [])] (pc1 := 130) (ls1 := [some (vm_r 96), some (vm_i v1), some (vm_i v2), some (vm_i (Int.tdiv (-v5) 2)), some (vm_i v4), some (vm_i v5), some (vm_i (Int.tdiv (-v5) 2)), some (vm_i z6)]) (st1 := [vm_i v4, vm_i z6]) (m1 := m6) (ob := true) (by decide +kernel) rfl rfl ?_
        refine vm_gj (c := v4 ≤ z6) (t := 138) (e := 133) (i := (.if_icmp .ge 0, 138, 0, [])) (len := 3) (st1 := []) (by decide +kernel) rfl rfl (fun c8 => ?_) (fun c8 => ?_)
        · replace h := h.1 c8
          obtain ⟨o22_0, h⟩ := h
          refine vm_gp [(.iload 4, 0, 0, []), (.istore 4, 0, 0, []), (.iinc 5 1, 0, 0, []), (.goto 0, 53, 0, [])] (pc1 := 53) (ls1 := [some (vm_r 96), some (vm_i v1), some (vm_i v2), some (vm_i (Int.tdiv (-v5) 2)), some (vm_i v4), some (vm_i (v5 + 1)), some (vm_i (Int.tdiv (-v5) 2)), some (vm_i z6)]) (st1 := []) (m1 := m6) (ob := (true && decide (vm_32 (v5 + 1)))) (by decide +kernel) rfl (vm_t rfl o22_0) ?_
          exact h
        · replace h := h.2 c8
          obtain ⟨o23_0, h⟩ := h
          refine vm_gp [(.iload 7, 0, 0, []), (.goto 0, 140, 0, []), (.istore 4, 0, 0, []), (.iinc 5 1, 0, 0, []), (.goto 0, 53, 0, [])] (pc1 := 53) (ls1 := [some (vm_r 96), some (vm_i v1), some (vm_i v2), some (vm_i (Int.tdiv (-v5) 2)), some (vm_i z6), some (vm_i (v5 + 1)), some (vm_i (Int.tdiv (-v5) 2)), some (vm_i z6)]) (st1 := []) (m1 := m6) (ob := (true && decide (vm_32 (v5 + 1)))) (by decide +kernel) rfl (vm_t rfl o23_0) ?_
          exact h
abbrev ku11_full_0 (v1 : Int) (m : vm_M) (Q : UInt32 → vm_M → Prop) : Prop := vm_G 282 0 [some (vm_r 96), some (vm_i v1)] [] m (vm_qf Q)
set_option maxRecDepth 20000 in
theorem ru11_full_0 {v1 : Int} {m : vm_M} {Q : UInt32 → vm_M → Prop}  (h :
    (vm_C 196 [vm_r 96, vm_i v1] m (vm_qi (fun z1 m1 =>
      ((z1 = 0 →
        Q (UInt32.ofNat 3212836864) m1) ∧ (¬ z1 = 0 →
        (((FP.fdiv (FP.i2f (Int32.ofInt (m1 96 18))) (FP.i2f (Int32.ofInt (m1 100 0)))) &&& 0x7fffffff ≤ 0x7f800000)) ∧
        Q (FP.fdiv (FP.i2f (Int32.ofInt (m1 96 18))) (FP.i2f (Int32.ofInt (m1 100 0)))) m1)))))) : vm_C 282 [vm_r 96, vm_i v1] m (vm_qf Q) := by
  show vm_G 282 0 [some (vm_r 96), some (vm_i v1)] [] m (vm_qf Q)
  refine vm_gp [(.aload 0, 0, 0, []), (.iload 1, 0, 0, [])] (pc1 := 2) (ls1 := [some (vm_r 96), some (vm_i v1)]) (st1 := [vm_i v1, vm_r 96]) (m1 := m) (ob := true) (by decide +kernel) rfl rfl ?_
  refine vm_gc (g := 196) (na := 2) (av := [vm_r 96, vm_i v1]) (rest := []) (i := (.invokevirtual 0, 196, 2, [])) (len := 3) (by decide +kernel) rfl rfl rfl (by decide +kernel) (by decide +kernel) rfl rfl (vm_u (vm_okh_v (c := 11) (by decide +kernel) (by decide +kernel)) (show vm_okn 196 2 0 0 0 2 = true by decide +kernel)) ?_
  refine vm_G.mono h ?_
  rintro _ m1 ⟨z1, rfl, h⟩
  show vm_G 282 5 [some (vm_r 96), some (vm_i v1)] [vm_i z1] m1 _
  refine vm_gj (c := z1 = 0) (t := 24) (e := 8) (i := (.ifCond .eq 0, 24, 0, [])) (len := 3) (st1 := []) (by decide +kernel) rfl rfl (fun c1 => ?_) (fun c1 => ?_)
  · replace h := h.1 c1
    refine vm_gp [(.fconst 0, 3212836864, 0, [])] (pc1 := 27) (ls1 := [some (vm_r 96), some (vm_i v1)]) (st1 := [vm_f (UInt32.ofNat 3212836864)]) (m1 := m1) (ob := true) (by decide +kernel) rfl rfl ?_
    exact vm_gr (r := some (vm_f (UInt32.ofNat 3212836864))) (i := (.freturn, 4, 0, [])) (len := 1) (by decide +kernel) rfl rfl rfl ⟨_, rfl, h⟩
  · replace h := h.2 c1
    obtain ⟨o4_0, h⟩ := h
    refine vm_gp [(.aload 0, 0, 0, []), (.getfield 0, 11, 18, []), (.i2f, 0, 0, []), (.aload 0, 0, 0, []), (.getfield 2, 11, 7, [(100, 0)]), (.iconst 0, 0, 0, []), (.iaload, 1075, 0, []), (.i2f, 0, 0, []), (.fdiv, 0, 0, []), (.goto 0, 27, 0, [])] (pc1 := 27) (ls1 := [some (vm_r 96), some (vm_i v1)]) (st1 := [vm_f (FP.fdiv (FP.i2f (Int32.ofInt (m1 96 18))) (FP.i2f (Int32.ofInt (m1 100 0))))]) (m1 := m1) (ob := ((((((true && vm_is 96 11) && vm_is 96 11) && true) && vm_ar 100 100 1075) && decide ((0 : Int) ≤ 0 ∧ (0 : Int) < 1075)) && decide ((FP.fdiv (FP.i2f (Int32.ofInt (m1 96 18))) (FP.i2f (Int32.ofInt (m1 100 0)))) &&& 0x7fffffff ≤ 0x7f800000))) (by decide +kernel) rfl (vm_t (vm_t (vm_u (vm_u (vm_u (vm_u rfl (by decide +kernel)) (by decide +kernel)) rfl) (by decide +kernel)) (by decide)) o4_0) ?_
    exact vm_gr (r := some (vm_f (FP.fdiv (FP.i2f (Int32.ofInt (m1 96 18))) (FP.i2f (Int32.ofInt (m1 100 0)))))) (i := (.freturn, 4, 0, [])) (len := 1) (by decide +kernel) rfl rfl rfl ⟨_, rfl, h⟩
abbrev ku11_meanGap_0  (m : vm_M) (Q : UInt64 → vm_M → Prop) : Prop := vm_G 283 0 [some (vm_r 96), none, none, none, none] [] m (vm_qd Q)
abbrev ku11_meanGap_10 (v1 : Int) (v2 : Int) (v3 : Int) (w4 : Option vm_V) (m : vm_M) (Q : UInt64 → vm_M → Prop) : Prop := vm_G 283 10 [some (vm_r 96), some (vm_i v1), some (vm_i v2), some (vm_i v3), w4] [] m (vm_qd Q)
abbrev ku11_meanGap_26 (v1 : Int) (v2 : Int) (v3 : Int) (v4 : Int) (m : vm_M) (Q : UInt64 → vm_M → Prop) : Prop := vm_G 283 26 [some (vm_r 96), some (vm_i v1), some (vm_i v2), some (vm_i v3), some (vm_i v4)] [] m (vm_qd Q)
set_option maxRecDepth 20000 in
theorem ru11_meanGap_0  {m : vm_M} {Q : UInt64 → vm_M → Prop}  (h :
    (vm_C 186 [vm_r 96] m (vm_qv (fun m1 =>
      ku11_meanGap_10 0 0 0 none m1 Q)))) : vm_C 283 [vm_r 96] m (vm_qd Q) := by
  show vm_G 283 0 [some (vm_r 96), none, none, none, none] [] m (vm_qd Q)
  refine vm_gp [(.aload 0, 0, 0, [])] (pc1 := 1) (ls1 := [some (vm_r 96), none, none, none, none]) (st1 := [vm_r 96]) (m1 := m) (ob := true) (by decide +kernel) rfl rfl ?_
  refine vm_gc (g := 186) (na := 1) (av := [vm_r 96]) (rest := []) (i := (.invokevirtual 0, 186, 1, [])) (len := 3) (by decide +kernel) rfl rfl rfl (by decide +kernel) (by decide +kernel) rfl rfl (vm_u (vm_okh_v (c := 11) (by decide +kernel) (by decide +kernel)) (show vm_okn 186 1 0 0 0 1 = true by decide +kernel)) ?_
  refine vm_G.mono h ?_
  rintro _ m1 ⟨rfl, h⟩
  show vm_G 283 4 [some (vm_r 96), none, none, none, none] [] m1 _
  refine vm_gp [(.iconst 0, 0, 0, []), (.istore 1, 0, 0, []), (.iconst 0, 0, 0, []), (.istore 2, 0, 0, []), (.iconst 0, 0, 0, []), (.istore 3, 0, 0, [])] (pc1 := 10) (ls1 := [some (vm_r 96), some (vm_i 0), some (vm_i 0), some (vm_i 0), none]) (st1 := []) (m1 := m1) (ob := true) (by decide +kernel) rfl rfl ?_
  exact h
set_option maxRecDepth 20000 in
theorem ru11_meanGap_10 {v1 : Int} {v2 : Int} {v3 : Int} {w4 : Option vm_V} {m : vm_M} {Q : UInt64 → vm_M → Prop}  (h :
    (((m 96 14) ≤ v3 →
      ((¬ v2 = 0 →
        (((FP.ddiv (FP.i2d (Int32.ofInt v1)) (FP.i2d (Int32.ofInt v2))) &&& 0x7fffffffffffffff ≤ 0x7ff0000000000000)) ∧
        Q (FP.ddiv (FP.i2d (Int32.ofInt v1)) (FP.i2d (Int32.ofInt v2))) m) ∧ (¬ ¬ v2 = 0 →
        Q 0 m))) ∧ (¬ (m 96 14) ≤ v3 →
      (vm_C 193 [vm_r 96, vm_i v3] m (vm_qv (fun m1 =>
        ku11_meanGap_26 v1 v2 v3 0 m1 Q)))))) : ku11_meanGap_10 v1 v2 v3 w4 m Q := by
  show vm_G 283 10 [some (vm_r 96), some (vm_i v1), some (vm_i v2), some (vm_i v3), w4] [] m (vm_qd Q)
  refine vm_gp [(.iload 3, 0, 0, []), (.aload 0, 0, 0, []), (.getfield 0, 11, 14, [])] (pc1 := 15) (ls1 := [some (vm_r 96), some (vm_i v1), some (vm_i v2), some (vm_i v3), w4]) (st1 := [vm_i (m 96 14), vm_i v3]) (m1 := m) (ob := (true && vm_is 96 11)) (by decide +kernel) rfl (vm_u rfl (by decide +kernel)) ?_
  refine vm_gj (c := (m 96 14) ≤ v3) (t := 86) (e := 18) (i := (.if_icmp .ge 0, 86, 0, [])) (len := 3) (st1 := []) (by decide +kernel) rfl rfl (fun c1 => ?_) (fun c1 => ?_)
  · replace h := h.1 c1
    refine vm_gp [(.iload 2, 0, 0, [])] (pc1 := 87) (ls1 := [some (vm_r 96), some (vm_i v1), some (vm_i v2), some (vm_i v3), w4]) (st1 := [vm_i v2]) (m1 := m) (ob := true) (by decide +kernel) rfl rfl ?_
    refine vm_gj (c := ¬ v2 = 0) (t := 94) (e := 90) (i := (.ifCond .ne 0, 94, 0, [])) (len := 3) (st1 := []) (by decide +kernel) rfl rfl (fun c2 => ?_) (fun c2 => ?_)
    · replace h := h.1 c2
      obtain ⟨o3_0, h⟩ := h
      refine vm_gp [(.iload 1, 0, 0, []), (.i2d, 0, 0, []), (.iload 2, 0, 0, []), (.i2d, 0, 0, []), (.ddiv, 0, 0, [])] (pc1 := 99) (ls1 := [some (vm_r 96), some (vm_i v1), some (vm_i v2), some (vm_i v3), w4]) (st1 := [vm_d (FP.ddiv (FP.i2d (Int32.ofInt v1)) (FP.i2d (Int32.ofInt v2)))]) (m1 := m) (ob := (true && decide ((FP.ddiv (FP.i2d (Int32.ofInt v1)) (FP.i2d (Int32.ofInt v2))) &&& 0x7fffffffffffffff ≤ 0x7ff0000000000000))) (by decide +kernel) rfl (vm_t rfl o3_0) ?_
      exact vm_gr (r := some (vm_d (FP.ddiv (FP.i2d (Int32.ofInt v1)) (FP.i2d (Int32.ofInt v2))))) (i := (.dreturn, 5, 0, [])) (len := 1) (by decide +kernel) rfl rfl rfl ⟨_, rfl, h⟩
    · replace h := h.2 c2
      refine vm_gp [(.dconst 0, 0, 0, []), (.goto 0, 99, 0, [])] (pc1 := 99) (ls1 := [some (vm_r 96), some (vm_i v1), some (vm_i v2), some (vm_i v3), w4]) (st1 := [vm_d 0]) (m1 := m) (ob := true) (by decide +kernel) rfl rfl ?_
      exact vm_gr (r := some (vm_d 0)) (i := (.dreturn, 5, 0, [])) (len := 1) (by decide +kernel) rfl rfl rfl ⟨_, rfl, h⟩
  · replace h := h.2 c1
    refine vm_gp [(.aload 0, 0, 0, []), (.iload 3, 0, 0, [])] (pc1 := 20) (ls1 := [some (vm_r 96), some (vm_i v1), some (vm_i v2), some (vm_i v3), w4]) (st1 := [vm_i v3, vm_r 96]) (m1 := m) (ob := true) (by decide +kernel) rfl rfl ?_
    refine vm_gc (g := 193) (na := 2) (av := [vm_r 96, vm_i v3]) (rest := []) (i := (.invokevirtual 0, 193, 2, [])) (len := 3) (by decide +kernel) rfl rfl rfl (by decide +kernel) (by decide +kernel) rfl rfl (vm_u (vm_okh_v (c := 11) (by decide +kernel) (by decide +kernel)) (show vm_okn 193 2 0 0 0 2 = true by decide +kernel)) ?_
    refine vm_G.mono h ?_
    rintro _ m1 ⟨rfl, h⟩
    show vm_G 283 23 [some (vm_r 96), some (vm_i v1), some (vm_i v2), some (vm_i v3), w4] [] m1 _
    refine vm_gp [(.iconst 0, 0, 0, []), (.istore 4, 0, 0, [])] (pc1 := 26) (ls1 := [some (vm_r 96), some (vm_i v1), some (vm_i v2), some (vm_i v3), some (vm_i 0)]) (st1 := []) (m1 := m1) (ob := true) (by decide +kernel) rfl rfl ?_
    exact h
set_option maxRecDepth 20000 in
theorem ru11_meanGap_26 {v1 : Int} {v2 : Int} {v3 : Int} {v4 : Int} {m : vm_M} {Q : UInt64 → vm_M → Prop}  (h :
    (((m 96 22) ≤ v4 →
      ((vm_32 (v3 + 1))) ∧
      ku11_meanGap_10 v1 v2 (v3 + 1) (some (vm_i v4)) m Q) ∧ (¬ (m 96 22) ≤ v4 →
      (vm_C 258 [vm_r 96, vm_i v4] m (vm_qi (fun z1 m1 =>
        ((z1 = 0 →
          ((vm_32 (v1 + 0))) ∧
          (vm_C 258 [vm_r 96, vm_i v4] m1 (vm_qi (fun z2 m2 =>
            ((z2 = 0 →
              ((vm_32 (v2 + 0)) ∧ (vm_32 (v4 + 1))) ∧
              ku11_meanGap_26 (v1 + 0) (v2 + 0) v3 (v4 + 1) m2 Q) ∧ (¬ z2 = 0 →
              ((vm_32 (v2 + 1)) ∧ (vm_32 (v4 + 1))) ∧
              ku11_meanGap_26 (v1 + 0) (v2 + 1) v3 (v4 + 1) m2 Q)))))) ∧ (¬ z1 = 0 →
          (vm_C 259 [vm_r 96, vm_i v4] m1 (vm_qi (fun z3 m3 =>
            ((vm_32 (v1 + z3))) ∧
            (vm_C 258 [vm_r 96, vm_i v4] m3 (vm_qi (fun z4 m4 =>
              ((z4 = 0 →
                ((vm_32 (v2 + 0)) ∧ (vm_32 (v4 + 1))) ∧
                ku11_meanGap_26 (v1 + z3) (v2 + 0) v3 (v4 + 1) m4 Q) ∧ (¬ z4 = 0 →
                ((vm_32 (v2 + 1)) ∧ (vm_32 (v4 + 1))) ∧
                ku11_meanGap_26 (v1 + z3) (v2 + 1) v3 (v4 + 1) m4 Q)))))))))))))))) : ku11_meanGap_26 v1 v2 v3 v4 m Q := by
  show vm_G 283 26 [some (vm_r 96), some (vm_i v1), some (vm_i v2), some (vm_i v3), some (vm_i v4)] [] m (vm_qd Q)
  refine vm_gp [(.iload 4, 0, 0, []), (.aload 0, 0, 0, []), (.getfield 0, 11, 22, [])] (pc1 := 32) (ls1 := [some (vm_r 96), some (vm_i v1), some (vm_i v2), some (vm_i v3), some (vm_i v4)]) (st1 := [vm_i (m 96 22), vm_i v4]) (m1 := m) (ob := (true && vm_is 96 11)) (by decide +kernel) rfl (vm_u rfl (by decide +kernel)) ?_
  refine vm_gj (c := (m 96 22) ≤ v4) (t := 80) (e := 35) (i := (.if_icmp .ge 0, 80, 0, [])) (len := 3) (st1 := []) (by decide +kernel) rfl rfl (fun c1 => ?_) (fun c1 => ?_)
  · replace h := h.1 c1
    obtain ⟨o2_0, h⟩ := h
    refine vm_gp [(.iinc 3 1, 0, 0, []), (.goto 0, 10, 0, [])] (pc1 := 10) (ls1 := [some (vm_r 96), some (vm_i v1), some (vm_i v2), some (vm_i (v3 + 1)), some (vm_i v4)]) (st1 := []) (m1 := m) (ob := (true && decide (vm_32 (v3 + 1)))) (by decide +kernel) rfl (vm_t rfl o2_0) ?_
    exact h
  · replace h := h.2 c1
    refine vm_gp [(.iload 1, 0, 0, []), (.aload 0, 0, 0, []), (.iload 4, 0, 0, [])] (pc1 := 39) (ls1 := [some (vm_r 96), some (vm_i v1), some (vm_i v2), some (vm_i v3), some (vm_i v4)]) (st1 := [vm_i v4, vm_r 96, vm_i v1]) (m1 := m) (ob := true) (by decide +kernel) rfl rfl ?_
    refine vm_gc (g := 258) (na := 2) (av := [vm_r 96, vm_i v4]) (rest := [vm_i v1]) (i := (.invokevirtual 0, 258, 2, [])) (len := 3) (by decide +kernel) rfl rfl rfl (by decide +kernel) (by decide +kernel) rfl rfl (vm_u (vm_okh_v (c := 11) (by decide +kernel) (by decide +kernel)) (show vm_okn 258 2 1 0 0 2 = true by decide +kernel)) ?_
    refine vm_G.mono h ?_
    rintro _ m1 ⟨z1, rfl, h⟩
    show vm_G 283 42 [some (vm_r 96), some (vm_i v1), some (vm_i v2), some (vm_i v3), some (vm_i v4)] [vm_i z1, vm_i v1] m1 _
    refine vm_gj (c := z1 = 0) (t := 54) (e := 45) (i := (.ifCond .eq 0, 54, 0, [])) (len := 3) (st1 := [vm_i v1]) (by decide +kernel) rfl rfl (fun c2 => ?_) (fun c2 => ?_)
    · replace h := h.1 c2
      obtain ⟨o5_0, h⟩ := h
      refine vm_gp [(.iconst 0, 0, 0, []), (.iadd, 0, 0, []), (.istore 1, 0, 0, []), (.iload 2, 0, 0, []), (.aload 0, 0, 0, []), (.iload 4, 0, 0, [])] (pc1 := 61) (ls1 := [some (vm_r 96), some (vm_i (v1 + 0)), some (vm_i v2), some (vm_i v3), some (vm_i v4)]) (st1 := [vm_i v4, vm_r 96, vm_i v2]) (m1 := m1) (ob := (true && decide (vm_32 (v1 + 0)))) (by decide +kernel) rfl (vm_t rfl o5_0) ?_
      refine vm_gc (g := 258) (na := 2) (av := [vm_r 96, vm_i v4]) (rest := [vm_i v2]) (i := (.invokevirtual 0, 258, 2, [])) (len := 3) (by decide +kernel) rfl rfl rfl (by decide +kernel) (by decide +kernel) rfl rfl (vm_u (vm_okh_v (c := 11) (by decide +kernel) (by decide +kernel)) (show vm_okn 258 2 1 0 0 2 = true by decide +kernel)) ?_
      refine vm_G.mono h ?_
      rintro _ m2 ⟨z2, rfl, h⟩
      show vm_G 283 64 [some (vm_r 96), some (vm_i (v1 + 0)), some (vm_i v2), some (vm_i v3), some (vm_i v4)] [vm_i z2, vm_i v2] m2 _
      refine vm_gj (c := z2 = 0) (t := 71) (e := 67) (i := (.ifCond .eq 0, 71, 0, [])) (len := 3) (st1 := [vm_i v2]) (by decide +kernel) rfl rfl (fun c3 => ?_) (fun c3 => ?_)
      · replace h := h.1 c3
        obtain ⟨⟨o7_0, o7_1⟩, h⟩ := h
        refine vm_gp [(.iconst 0, 0, 0, []), (.iadd, 0, 0, []), (.istore 2, 0, 0, []), (.iinc 4 1, 0, 0, []), (.goto 0, 26, 0, [])] (pc1 := 26) (ls1 := [some (vm_r 96), some (vm_i (v1 + 0)), some (vm_i (v2 + 0)), some (vm_i v3), some (vm_i (v4 + 1))]) (st1 := []) (m1 := m2) (ob := ((true && decide (vm_32 (v2 + 0))) && decide (vm_32 (v4 + 1)))) (by decide +kernel) rfl (vm_t (vm_t rfl o7_0) o7_1) ?_
        exact h
      · replace h := h.2 c3
        obtain ⟨⟨o8_0, o8_1⟩, h⟩ := h
        refine vm_gp [(.iconst 1, 0, 0, []), (.goto 0, 72, 0, []), (.iadd, 0, 0, []), (.istore 2, 0, 0, []), (.iinc 4 1, 0, 0, []), (.goto 0, 26, 0, [])] (pc1 := 26) (ls1 := [some (vm_r 96), some (vm_i (v1 + 0)), some (vm_i (v2 + 1)), some (vm_i v3), some (vm_i (v4 + 1))]) (st1 := []) (m1 := m2) (ob := ((true && decide (vm_32 (v2 + 1))) && decide (vm_32 (v4 + 1)))) (by decide +kernel) rfl (vm_t (vm_t rfl o8_0) o8_1) ?_
        exact h
    · replace h := h.2 c2
      refine vm_gp [(.aload 0, 0, 0, []), (.iload 4, 0, 0, [])] (pc1 := 48) (ls1 := [some (vm_r 96), some (vm_i v1), some (vm_i v2), some (vm_i v3), some (vm_i v4)]) (st1 := [vm_i v4, vm_r 96, vm_i v1]) (m1 := m1) (ob := true) (by decide +kernel) rfl rfl ?_
      refine vm_gc (g := 259) (na := 2) (av := [vm_r 96, vm_i v4]) (rest := [vm_i v1]) (i := (.invokevirtual 0, 259, 2, [])) (len := 3) (by decide +kernel) rfl rfl rfl (by decide +kernel) (by decide +kernel) rfl rfl (vm_u (vm_okh_v (c := 11) (by decide +kernel) (by decide +kernel)) (show vm_okn 259 2 1 0 0 2 = true by decide +kernel)) ?_
      refine vm_G.mono h ?_
      rintro _ m3 ⟨z3, rfl, h⟩
      show vm_G 283 51 [some (vm_r 96), some (vm_i v1), some (vm_i v2), some (vm_i v3), some (vm_i v4)] [vm_i z3, vm_i v1] m3 _
      obtain ⟨o10_0, h⟩ := h
      refine vm_gp [(.goto 0, 55, 0, []), (.iadd, 0, 0, []), (.istore 1, 0, 0, []), (.iload 2, 0, 0, []), (.aload 0, 0, 0, []), (.iload 4, 0, 0, [])] (pc1 := 61) (ls1 := [some (vm_r 96), some (vm_i (v1 + z3)), some (vm_i v2), some (vm_i v3), some (vm_i v4)]) (st1 := [vm_i v4, vm_r 96, vm_i v2]) (m1 := m3) (ob := (true && decide (vm_32 (v1 + z3)))) (by decide +kernel) rfl (vm_t rfl o10_0) ?_
      refine vm_gc (g := 258) (na := 2) (av := [vm_r 96, vm_i v4]) (rest := [vm_i v2]) (i := (.invokevirtual 0, 258, 2, [])) (len := 3) (by decide +kernel) rfl rfl rfl (by decide +kernel) (by decide +kernel) rfl rfl (vm_u (vm_okh_v (c := 11) (by decide +kernel) (by decide +kernel)) (show vm_okn 258 2 1 0 0 2 = true by decide +kernel)) ?_
      refine vm_G.mono h ?_
      rintro _ m4 ⟨z4, rfl, h⟩
      show vm_G 283 64 [some (vm_r 96), some (vm_i (v1 + z3)), some (vm_i v2), some (vm_i v3), some (vm_i v4)] [vm_i z4, vm_i v2] m4 _
      refine vm_gj (c := z4 = 0) (t := 71) (e := 67) (i := (.ifCond .eq 0, 71, 0, [])) (len := 3) (st1 := [vm_i v2]) (by decide +kernel) rfl rfl (fun c4 => ?_) (fun c4 => ?_)
      · replace h := h.1 c4
        obtain ⟨⟨o12_0, o12_1⟩, h⟩ := h
        refine vm_gp [(.iconst 0, 0, 0, []), (.iadd, 0, 0, []), (.istore 2, 0, 0, []), (.iinc 4 1, 0, 0, []), (.goto 0, 26, 0, [])] (pc1 := 26) (ls1 := [some (vm_r 96), some (vm_i (v1 + z3)), some (vm_i (v2 + 0)), some (vm_i v3), some (vm_i (v4 + 1))]) (st1 := []) (m1 := m4) (ob := ((true && decide (vm_32 (v2 + 0))) && decide (vm_32 (v4 + 1)))) (by decide +kernel) rfl (vm_t (vm_t rfl o12_0) o12_1) ?_
        exact h
      · replace h := h.2 c4
        obtain ⟨⟨o13_0, o13_1⟩, h⟩ := h
        refine vm_gp [(.iconst 1, 0, 0, []), (.goto 0, 72, 0, []), (.iadd, 0, 0, []), (.istore 2, 0, 0, []), (.iinc 4 1, 0, 0, []), (.goto 0, 26, 0, [])] (pc1 := 26) (ls1 := [some (vm_r 96), some (vm_i (v1 + z3)), some (vm_i (v2 + 1)), some (vm_i v3), some (vm_i (v4 + 1))]) (st1 := []) (m1 := m4) (ob := ((true && decide (vm_32 (v2 + 1))) && decide (vm_32 (v4 + 1)))) (by decide +kernel) rfl (vm_t (vm_t rfl o13_0) o13_1) ?_
        exact h
abbrev ku11_startsText_0 (v1 : Int) (m : vm_M) (Q : vm_M → Prop) : Prop := vm_G 284 0 [some (vm_r 96), some (vm_i v1)] [] m (vm_qv Q)
set_option maxRecDepth 20000 in
theorem ru11_startsText_0 {v1 : Int} {m : vm_M} {Q : vm_M → Prop}  (h :
    Q (vm_st (vm_st (vm_st m 96 41 0) 96 42 v1) 96 43 (-2))) : vm_C 284 [vm_r 96, vm_i v1] m (vm_qv Q) := by
  show vm_G 284 0 [some (vm_r 96), some (vm_i v1)] [] m (vm_qv Q)
  refine vm_gp [(.aload 0, 0, 0, []), (.iconst 0, 0, 0, []), (.putfield 0, 11, 41, []), (.aload 0, 0, 0, []), (.iload 1, 0, 0, []), (.putfield 0, 11, 42, []), (.aload 0, 0, 0, []), (.iconst (-2), 0, 0, []), (.putfield 0, 11, 43, [])] (pc1 := 16) (ls1 := [some (vm_r 96), some (vm_i v1)]) (st1 := []) (m1 := (vm_st (vm_st (vm_st m 96 41 0) 96 42 v1) 96 43 (-2))) (ob := (((true && vm_is 96 11) && vm_is 96 11) && vm_is 96 11)) (by decide +kernel) rfl (vm_u (vm_u (vm_u rfl (by decide +kernel)) (by decide +kernel)) (by decide +kernel)) ?_
  exact vm_gr (r := none) (i := (.return_, 0, 0, [])) (len := 1) (by decide +kernel) rfl rfl rfl ⟨rfl, h⟩
abbrev ku11_says_0 (v1 : Int) (m : vm_M) (Q : vm_M → Prop) : Prop := vm_G 285 0 [some (vm_r 96), some (vm_i v1)] [] m (vm_qv Q)
set_option maxRecDepth 20000 in
theorem ru11_says_0 {v1 : Int} {m : vm_M} {Q : vm_M → Prop}  (h :
    ((¬ (m 96 41) = (m 96 42) →
      ((vm_32 (((vm_st m 96 43 (m 96 43)) 96 41) + 1))) ∧
      Q (vm_st (vm_st m 96 43 (m 96 43)) 96 41 (((vm_st m 96 43 (m 96 43)) 96 41) + 1))) ∧ (¬ ¬ (m 96 41) = (m 96 42) →
      ((vm_32 (((vm_st m 96 43 v1) 96 41) + 1))) ∧
      Q (vm_st (vm_st m 96 43 v1) 96 41 (((vm_st m 96 43 v1) 96 41) + 1))))) : vm_C 285 [vm_r 96, vm_i v1] m (vm_qv Q) := by
  show vm_G 285 0 [some (vm_r 96), some (vm_i v1)] [] m (vm_qv Q)
  refine vm_gp [(.aload 0, 0, 0, []), (.aload 0, 0, 0, []), (.getfield 0, 11, 41, []), (.aload 0, 0, 0, []), (.getfield 0, 11, 42, [])] (pc1 := 9) (ls1 := [some (vm_r 96), some (vm_i v1)]) (st1 := [vm_i (m 96 42), vm_i (m 96 41), vm_r 96]) (m1 := m) (ob := ((true && vm_is 96 11) && vm_is 96 11)) (by decide +kernel) rfl (vm_u (vm_u rfl (by decide +kernel)) (by decide +kernel)) ?_
  refine vm_gj (c := ¬ (m 96 41) = (m 96 42)) (t := 16) (e := 12) (i := (.if_icmp .ne 0, 16, 0, [])) (len := 3) (st1 := [vm_r 96]) (by decide +kernel) rfl rfl (fun c1 => ?_) (fun c1 => ?_)
  · replace h := h.1 c1
    obtain ⟨o2_0, h⟩ := h
    refine vm_gp [(.aload 0, 0, 0, []), (.getfield 0, 11, 43, []), (.putfield 0, 11, 43, []), (.aload 0, 0, 0, []), (.dup, 0, 0, []), (.getfield 0, 11, 41, []), (.iconst 1, 0, 0, []), (.iadd, 0, 0, []), (.putfield 0, 11, 41, [])] (pc1 := 33) (ls1 := [some (vm_r 96), some (vm_i v1)]) (st1 := []) (m1 := (vm_st (vm_st m 96 43 (m 96 43)) 96 41 (((vm_st m 96 43 (m 96 43)) 96 41) + 1))) (ob := (((((true && vm_is 96 11) && vm_is 96 11) && vm_is 96 11) && decide (vm_32 (((vm_st m 96 43 (m 96 43)) 96 41) + 1))) && vm_is 96 11)) (by decide +kernel) rfl (vm_u (vm_t (vm_u (vm_u (vm_u rfl (by decide +kernel)) (by decide +kernel)) (by decide +kernel)) o2_0) (by decide +kernel)) ?_
    exact vm_gr (r := none) (i := (.return_, 0, 0, [])) (len := 1) (by decide +kernel) rfl rfl rfl ⟨rfl, h⟩
  · replace h := h.2 c1
    obtain ⟨o3_0, h⟩ := h
    refine vm_gp [(.iload 1, 0, 0, []), (.goto 0, 20, 0, []), (.putfield 0, 11, 43, []), (.aload 0, 0, 0, []), (.dup, 0, 0, []), (.getfield 0, 11, 41, []), (.iconst 1, 0, 0, []), (.iadd, 0, 0, []), (.putfield 0, 11, 41, [])] (pc1 := 33) (ls1 := [some (vm_r 96), some (vm_i v1)]) (st1 := []) (m1 := (vm_st (vm_st m 96 43 v1) 96 41 (((vm_st m 96 43 v1) 96 41) + 1))) (ob := ((((true && vm_is 96 11) && vm_is 96 11) && decide (vm_32 (((vm_st m 96 43 v1) 96 41) + 1))) && vm_is 96 11)) (by decide +kernel) rfl (vm_u (vm_t (vm_u (vm_u rfl (by decide +kernel)) (by decide +kernel)) o3_0) (by decide +kernel)) ?_
    exact vm_gr (r := none) (i := (.return_, 0, 0, [])) (len := 1) (by decide +kernel) rfl rfl rfl ⟨rfl, h⟩
abbrev ku11_saysWord_0 (v1 : Int) (m : vm_M) (Q : vm_M → Prop) : Prop := vm_G 286 0 [some (vm_r 96), some (vm_l v1), none, none, none] [] m (vm_qv Q)
abbrev ku11_saysWord_3 (v1 : Int) (v3 : Int) (w4 : Option vm_V) (m : vm_M) (Q : vm_M → Prop) : Prop := vm_G 286 3 [some (vm_r 96), some (vm_l v1), none, some (vm_i v3), w4] [] m (vm_qv Q)
set_option maxRecDepth 20000 in
theorem ru11_saysWord_0 {v1 : Int} {m : vm_M} {Q : vm_M → Prop}  (h :
    ku11_saysWord_3 v1 35 none m Q) : vm_C 286 [vm_r 96, vm_l v1] m (vm_qv Q) := by
  show vm_G 286 0 [some (vm_r 96), some (vm_l v1), none, none, none] [] m (vm_qv Q)
  refine vm_gp [(.iconst 35, 0, 0, []), (.istore 3, 0, 0, [])] (pc1 := 3) (ls1 := [some (vm_r 96), some (vm_l v1), none, some (vm_i 35), none]) (st1 := []) (m1 := m) (ob := true) (by decide +kernel) rfl rfl ?_
  exact h
set_option maxRecDepth 20000 in
theorem ru11_saysWord_3 {v1 : Int} {v3 : Int} {w4 : Option vm_V} {m : vm_M} {Q : vm_M → Prop}  (h :
    ((v3 < 0 →
      Q m) ∧ (¬ v3 < 0 →
      (((vm_w32 (vm_land (vm_lshr v1 v3) 31)) ≤ 0 →
        ((vm_32 (v3 + (-5)))) ∧
        ku11_saysWord_3 v1 (v3 + (-5)) (some (vm_i (vm_w32 (vm_land (vm_lshr v1 v3) 31)))) m Q) ∧ (¬ (vm_w32 (vm_land (vm_lshr v1 v3) 31)) ≤ 0 →
        ((vm_32 (96 + (vm_w32 (vm_land (vm_lshr v1 v3) 31))))) ∧
        (vm_C 285 [vm_r 96, vm_i (96 + (vm_w32 (vm_land (vm_lshr v1 v3) 31)))] m (vm_qv (fun m1 =>
          ((vm_32 (v3 + (-5)))) ∧
          ku11_saysWord_3 v1 (v3 + (-5)) (some (vm_i (vm_w32 (vm_land (vm_lshr v1 v3) 31)))) m1 Q)))))))) : ku11_saysWord_3 v1 v3 w4 m Q := by
  show vm_G 286 3 [some (vm_r 96), some (vm_l v1), none, some (vm_i v3), w4] [] m (vm_qv Q)
  refine vm_gp [(.iload 3, 0, 0, [])] (pc1 := 4) (ls1 := [some (vm_r 96), some (vm_l v1), none, some (vm_i v3), w4]) (st1 := [vm_i v3]) (m1 := m) (ob := true) (by decide +kernel) rfl rfl ?_
  refine vm_gj (c := v3 < 0) (t := 37) (e := 7) (i := (.ifCond .lt 0, 37, 0, [])) (len := 3) (st1 := []) (by decide +kernel) rfl rfl (fun c1 => ?_) (fun c1 => ?_)
  · replace h := h.1 c1
    exact vm_gr (r := none) (i := (.return_, 0, 0, [])) (len := 1) (by decide +kernel) rfl rfl rfl ⟨rfl, h⟩
  · replace h := h.2 c1
    refine vm_gp [(.lload 1, 0, 0, []), (.iload 3, 0, 0, []), (.lshr, 0, 0, []), (.ldc2_w 0, 0, 0, [(31, 0)]), (.land, 0, 0, []), (.l2i, 0, 0, []), (.istore 4, 0, 0, []), (.iload 4, 0, 0, [])] (pc1 := 19) (ls1 := [some (vm_r 96), some (vm_l v1), none, some (vm_i v3), some (vm_i (vm_w32 (vm_land (vm_lshr v1 v3) 31)))]) (st1 := [vm_i (vm_w32 (vm_land (vm_lshr v1 v3) 31))]) (m1 := m) (ob := true) (by decide +kernel) rfl rfl ?_
    refine vm_gj (c := (vm_w32 (vm_land (vm_lshr v1 v3) 31)) ≤ 0) (t := 31) (e := 22) (i := (.ifCond .le 0, 31, 0, [])) (len := 3) (st1 := []) (by decide +kernel) rfl rfl (fun c2 => ?_) (fun c2 => ?_)
    · replace h := h.1 c2
      obtain ⟨o4_0, h⟩ := h
      refine vm_gp [(.iinc 3 (-5), 0, 0, []), (.goto 0, 3, 0, [])] (pc1 := 3) (ls1 := [some (vm_r 96), some (vm_l v1), none, some (vm_i (v3 + (-5))), some (vm_i (vm_w32 (vm_land (vm_lshr v1 v3) 31)))]) (st1 := []) (m1 := m) (ob := (true && decide (vm_32 (v3 + (-5))))) (by decide +kernel) rfl (vm_t rfl o4_0) ?_
      exact h
    · replace h := h.2 c2
      obtain ⟨o5_0, h⟩ := h
      refine vm_gp [(.aload 0, 0, 0, []), (.iconst 96, 0, 0, []), (.iload 4, 0, 0, []), (.iadd, 0, 0, [])] (pc1 := 28) (ls1 := [some (vm_r 96), some (vm_l v1), none, some (vm_i v3), some (vm_i (vm_w32 (vm_land (vm_lshr v1 v3) 31)))]) (st1 := [vm_i (96 + (vm_w32 (vm_land (vm_lshr v1 v3) 31))), vm_r 96]) (m1 := m) (ob := (true && decide (vm_32 (96 + (vm_w32 (vm_land (vm_lshr v1 v3) 31)))))) (by decide +kernel) rfl (vm_t rfl o5_0) ?_
      refine vm_gc (g := 285) (na := 2) (av := [vm_r 96, vm_i (96 + (vm_w32 (vm_land (vm_lshr v1 v3) 31)))]) (rest := []) (i := (.invokevirtual 0, 285, 2, [])) (len := 3) (by decide +kernel) rfl rfl rfl (by decide +kernel) (by decide +kernel) rfl rfl (vm_u (vm_okh_v (c := 11) (by decide +kernel) (by decide +kernel)) (show vm_okn 285 2 0 0 0 2 = true by decide +kernel)) ?_
      refine vm_G.mono h ?_
      rintro _ m1 ⟨rfl, h⟩
      show vm_G 286 31 [some (vm_r 96), some (vm_l v1), none, some (vm_i v3), some (vm_i (vm_w32 (vm_land (vm_lshr v1 v3) 31)))] [] m1 _
      obtain ⟨o6_0, h⟩ := h
      refine vm_gp [(.iinc 3 (-5), 0, 0, []), (.goto 0, 3, 0, [])] (pc1 := 3) (ls1 := [some (vm_r 96), some (vm_l v1), none, some (vm_i (v3 + (-5))), some (vm_i (vm_w32 (vm_land (vm_lshr v1 v3) 31)))]) (st1 := []) (m1 := m1) (ob := (true && decide (vm_32 (v3 + (-5))))) (by decide +kernel) rfl (vm_t rfl o6_0) ?_
      exact h
abbrev ku11_saysNumber_0 (v1 : Int) (m : vm_M) (Q : vm_M → Prop) : Prop := vm_G 287 0 [some (vm_r 96), some (vm_i v1), none] [] m (vm_qv Q)
abbrev ku11_saysNumber_2 (v1 : Int) (v2 : Int) (m : vm_M) (Q : vm_M → Prop) : Prop := vm_G 287 2 [some (vm_r 96), some (vm_i v1), some (vm_i v2)] [] m (vm_qv Q)
abbrev ku11_saysNumber_18 (v1 : Int) (v2 : Int) (m : vm_M) (Q : vm_M → Prop) : Prop := vm_G 287 18 [some (vm_r 96), some (vm_i v1), some (vm_i v2)] [] m (vm_qv Q)
set_option maxRecDepth 20000 in
theorem ru11_saysNumber_0 {v1 : Int} {m : vm_M} {Q : vm_M → Prop}  (h :
    ku11_saysNumber_2 v1 1 m Q) : vm_C 287 [vm_r 96, vm_i v1] m (vm_qv Q) := by
  show vm_G 287 0 [some (vm_r 96), some (vm_i v1), none] [] m (vm_qv Q)
  refine vm_gp [(.iconst 1, 0, 0, []), (.istore 2, 0, 0, [])] (pc1 := 2) (ls1 := [some (vm_r 96), some (vm_i v1), some (vm_i 1)]) (st1 := []) (m1 := m) (ob := true) (by decide +kernel) rfl rfl ?_
  exact h
set_option maxRecDepth 20000 in
theorem ru11_saysNumber_2 {v1 : Int} {v2 : Int} {m : vm_M} {Q : vm_M → Prop}  (h :
    ((0 ≤ v1 ∧ (0 : Int) < v2)) ∧
    (((v1 / v2) ≤ 9 →
      ku11_saysNumber_18 v1 v2 m Q) ∧ (¬ (v1 / v2) ≤ 9 →
      ((vm_32 (v2 * 10))) ∧
      ku11_saysNumber_2 v1 (v2 * 10) m Q))) : ku11_saysNumber_2 v1 v2 m Q := by
  show vm_G 287 2 [some (vm_r 96), some (vm_i v1), some (vm_i v2)] [] m (vm_qv Q)
  obtain ⟨o1_0, h⟩ := h
  refine vm_gp [(.iload 1, 0, 0, []), (.iload 2, 0, 0, []), (.idiv, 0, 0, []), (.iconst 9, 0, 0, [])] (pc1 := 7) (ls1 := [some (vm_r 96), some (vm_i v1), some (vm_i v2)]) (st1 := [vm_i 9, vm_i (v1 / v2)]) (m1 := m) (ob := (true && decide (0 ≤ v1 ∧ (0 : Int) < v2))) (by decide +kernel) rfl (vm_t rfl o1_0) ?_
  refine vm_gj (c := (v1 / v2) ≤ 9) (t := 18) (e := 10) (i := (.if_icmp .le 0, 18, 0, [])) (len := 3) (st1 := []) (by decide +kernel) rfl rfl (fun c1 => ?_) (fun c1 => ?_)
  · replace h := h.1 c1
    exact h
  · replace h := h.2 c1
    obtain ⟨o3_0, h⟩ := h
    refine vm_gp [(.iload 2, 0, 0, []), (.iconst 10, 0, 0, []), (.imul, 0, 0, []), (.istore 2, 0, 0, []), (.goto 0, 2, 0, [])] (pc1 := 2) (ls1 := [some (vm_r 96), some (vm_i v1), some (vm_i (v2 * 10))]) (st1 := []) (m1 := m) (ob := (true && decide (vm_32 (v2 * 10)))) (by decide +kernel) rfl (vm_t rfl o3_0) ?_
    exact h
set_option maxRecDepth 20000 in
theorem ru11_saysNumber_18 {v1 : Int} {v2 : Int} {m : vm_M} {Q : vm_M → Prop}  (h :
    ((v2 ≤ 0 →
      Q m) ∧ (¬ v2 ≤ 0 →
      ((0 ≤ v1 ∧ (0 : Int) < v2) ∧ (0 ≤ (v1 / v2) ∧ (0 : Int) < 10) ∧ (vm_32 (48 + ((v1 / v2) % 10)))) ∧
      (vm_C 285 [vm_r 96, vm_i (48 + ((v1 / v2) % 10))] m (vm_qv (fun m1 =>
        ((0 ≤ v2 ∧ (0 : Int) < 10)) ∧
        ku11_saysNumber_18 v1 (v2 / 10) m1 Q)))))) : ku11_saysNumber_18 v1 v2 m Q := by
  show vm_G 287 18 [some (vm_r 96), some (vm_i v1), some (vm_i v2)] [] m (vm_qv Q)
  refine vm_gp [(.iload 2, 0, 0, [])] (pc1 := 19) (ls1 := [some (vm_r 96), some (vm_i v1), some (vm_i v2)]) (st1 := [vm_i v2]) (m1 := m) (ob := true) (by decide +kernel) rfl rfl ?_
  refine vm_gj (c := v2 ≤ 0) (t := 43) (e := 22) (i := (.ifCond .le 0, 43, 0, [])) (len := 3) (st1 := []) (by decide +kernel) rfl rfl (fun c1 => ?_) (fun c1 => ?_)
  · replace h := h.1 c1
    exact vm_gr (r := none) (i := (.return_, 0, 0, [])) (len := 1) (by decide +kernel) rfl rfl rfl ⟨rfl, h⟩
  · replace h := h.2 c1
    obtain ⟨⟨o3_0, o3_1, o3_2⟩, h⟩ := h
    refine vm_gp [(.aload 0, 0, 0, []), (.iconst 48, 0, 0, []), (.iload 1, 0, 0, []), (.iload 2, 0, 0, []), (.idiv, 0, 0, []), (.iconst 10, 0, 0, []), (.irem, 0, 0, []), (.iadd, 0, 0, [])] (pc1 := 32) (ls1 := [some (vm_r 96), some (vm_i v1), some (vm_i v2)]) (st1 := [vm_i (48 + ((v1 / v2) % 10)), vm_r 96]) (m1 := m) (ob := (((true && decide (0 ≤ v1 ∧ (0 : Int) < v2)) && decide (0 ≤ (v1 / v2) ∧ (0 : Int) < 10)) && decide (vm_32 (48 + ((v1 / v2) % 10))))) (by decide +kernel) rfl (vm_t (vm_t (vm_t rfl o3_0) o3_1) o3_2) ?_
    refine vm_gc (g := 285) (na := 2) (av := [vm_r 96, vm_i (48 + ((v1 / v2) % 10))]) (rest := []) (i := (.invokevirtual 0, 285, 2, [])) (len := 3) (by decide +kernel) rfl rfl rfl (by decide +kernel) (by decide +kernel) rfl rfl (vm_u (vm_okh_v (c := 11) (by decide +kernel) (by decide +kernel)) (show vm_okn 285 2 0 0 0 2 = true by decide +kernel)) ?_
    refine vm_G.mono h ?_
    rintro _ m1 ⟨rfl, h⟩
    show vm_G 287 35 [some (vm_r 96), some (vm_i v1), some (vm_i v2)] [] m1 _
    obtain ⟨o4_0, h⟩ := h
    refine vm_gp [(.iload 2, 0, 0, []), (.iconst 10, 0, 0, []), (.idiv, 0, 0, []), (.istore 2, 0, 0, []), (.goto 0, 18, 0, [])] (pc1 := 18) (ls1 := [some (vm_r 96), some (vm_i v1), some (vm_i (v2 / 10))]) (st1 := []) (m1 := m1) (ob := (true && decide (0 ≤ v2 ∧ (0 : Int) < 10))) (by decide +kernel) rfl (vm_t rfl o4_0) ?_
    exact h
abbrev ku11_saysRow_0 (v1 : Int) (m : vm_M) (Q : vm_M → Prop) : Prop := vm_G 288 0 [some (vm_r 96), some (vm_i v1), none, none] [] m (vm_qv Q)
abbrev ku11_saysRow_26 (v1 : Int) (v2 : Int) (w3 : Option vm_V) (m : vm_M) (Q : vm_M → Prop) : Prop := vm_G 288 26 [some (vm_r 96), some (vm_i v1), some (vm_i v2), w3] [] m (vm_qv Q)
abbrev ku11_saysRow_40 (v1 : Int) (v2 : Int) (v3 : Int) (m : vm_M) (Q : vm_M → Prop) : Prop := vm_G 288 40 [some (vm_r 96), some (vm_i v1), some (vm_i v2), some (vm_i v3)] [] m (vm_qv Q)
set_option maxRecDepth 20000 in
theorem ru11_saysRow_0 {v1 : Int} {m : vm_M} {Q : vm_M → Prop}  (h :
    (vm_C 193 [vm_r 96, vm_i v1] m (vm_qv (fun m1 =>
      (vm_C 287 [vm_r 96, vm_i (m1 96 21)] m1 (vm_qv (fun m2 =>
        (vm_C 285 [vm_r 96, vm_i 58] m2 (vm_qv (fun m3 =>
          ((0 ≤ v1 ∧ v1 < 14)) ∧
          ku11_saysRow_26 v1 (m3 105 v1) none m3 Q)))))))))) : vm_C 288 [vm_r 96, vm_i v1] m (vm_qv Q) := by
  show vm_G 288 0 [some (vm_r 96), some (vm_i v1), none, none] [] m (vm_qv Q)
  refine vm_gp [(.aload 0, 0, 0, []), (.iload 1, 0, 0, [])] (pc1 := 2) (ls1 := [some (vm_r 96), some (vm_i v1), none, none]) (st1 := [vm_i v1, vm_r 96]) (m1 := m) (ob := true) (by decide +kernel) rfl rfl ?_
  refine vm_gc (g := 193) (na := 2) (av := [vm_r 96, vm_i v1]) (rest := []) (i := (.invokevirtual 0, 193, 2, [])) (len := 3) (by decide +kernel) rfl rfl rfl (by decide +kernel) (by decide +kernel) rfl rfl (vm_u (vm_okh_v (c := 11) (by decide +kernel) (by decide +kernel)) (show vm_okn 193 2 0 0 0 2 = true by decide +kernel)) ?_
  refine vm_G.mono h ?_
  rintro _ m1 ⟨rfl, h⟩
  show vm_G 288 5 [some (vm_r 96), some (vm_i v1), none, none] [] m1 _
  refine vm_gp [(.aload 0, 0, 0, []), (.aload 0, 0, 0, []), (.getfield 0, 11, 21, [])] (pc1 := 10) (ls1 := [some (vm_r 96), some (vm_i v1), none, none]) (st1 := [vm_i (m1 96 21), vm_r 96]) (m1 := m1) (ob := (true && vm_is 96 11)) (by decide +kernel) rfl (vm_u rfl (by decide +kernel)) ?_
  refine vm_gc (g := 287) (na := 2) (av := [vm_r 96, vm_i (m1 96 21)]) (rest := []) (i := (.invokevirtual 0, 287, 2, [])) (len := 3) (by decide +kernel) rfl rfl rfl (by decide +kernel) (by decide +kernel) rfl rfl (vm_u (vm_okh_v (c := 11) (by decide +kernel) (by decide +kernel)) (show vm_okn 287 2 0 0 0 2 = true by decide +kernel)) ?_
  refine vm_G.mono h ?_
  rintro _ m2 ⟨rfl, h⟩
  show vm_G 288 13 [some (vm_r 96), some (vm_i v1), none, none] [] m2 _
  refine vm_gp [(.aload 0, 0, 0, []), (.iconst 58, 0, 0, [])] (pc1 := 16) (ls1 := [some (vm_r 96), some (vm_i v1), none, none]) (st1 := [vm_i 58, vm_r 96]) (m1 := m2) (ob := true) (by decide +kernel) rfl rfl ?_
  refine vm_gc (g := 285) (na := 2) (av := [vm_r 96, vm_i 58]) (rest := []) (i := (.invokevirtual 0, 285, 2, [])) (len := 3) (by decide +kernel) rfl rfl rfl (by decide +kernel) (by decide +kernel) rfl rfl (vm_u (vm_okh_v (c := 11) (by decide +kernel) (by decide +kernel)) (show vm_okn 285 2 0 0 0 2 = true by decide +kernel)) ?_
  refine vm_G.mono h ?_
  rintro _ m3 ⟨rfl, h⟩
  show vm_G 288 19 [some (vm_r 96), some (vm_i v1), none, none] [] m3 _
  obtain ⟨o4_0, h⟩ := h
  refine vm_gp [(.aload 0, 0, 0, []), (.getfield 2, 11, 13, [(105, 0)]), (.iload 1, 0, 0, []), (.iaload, 14, 0, []), (.istore 2, 0, 0, [])] (pc1 := 26) (ls1 := [some (vm_r 96), some (vm_i v1), some (vm_i (m3 105 v1)), none]) (st1 := []) (m1 := m3) (ob := ((((true && vm_is 96 11) && true) && vm_ar 105 100 14) && decide (0 ≤ v1 ∧ v1 < 14))) (by decide +kernel) rfl (vm_t (vm_u (vm_u (vm_u rfl (by decide +kernel)) rfl) (by decide +kernel)) o4_0) ?_
  exact h
set_option maxRecDepth 20000 in
theorem ru11_saysRow_26 {v1 : Int} {v2 : Int} {w3 : Option vm_V} {m : vm_M} {Q : vm_M → Prop}  (h :
    ((vm_32 (v1 + 1)) ∧ (0 ≤ (v1 + 1) ∧ (v1 + 1) < 14)) ∧
    (((m 105 (v1 + 1)) ≤ v2 →
      (vm_C 287 [vm_r 96, vm_i (m 96 17)] m (vm_qv (fun m1 =>
        (vm_C 285 [vm_r 96, vm_i 10] m1 (vm_qv (fun m2 =>
          Q m2))))))) ∧ (¬ (m 105 (v1 + 1)) ≤ v2 →
      ku11_saysRow_40 v1 v2 0 m Q))) : ku11_saysRow_26 v1 v2 w3 m Q := by
  show vm_G 288 26 [some (vm_r 96), some (vm_i v1), some (vm_i v2), w3] [] m (vm_qv Q)
  obtain ⟨⟨o1_0, o1_1⟩, h⟩ := h
  refine vm_gp [(.iload 2, 0, 0, []), (.aload 0, 0, 0, []), (.getfield 2, 11, 13, [(105, 0)]), (.iload 1, 0, 0, []), (.iconst 1, 0, 0, []), (.iadd, 0, 0, []), (.iaload, 14, 0, [])] (pc1 := 35) (ls1 := [some (vm_r 96), some (vm_i v1), some (vm_i v2), w3]) (st1 := [vm_i (m 105 (v1 + 1)), vm_i v2]) (m1 := m) (ob := (((((true && vm_is 96 11) && true) && decide (vm_32 (v1 + 1))) && vm_ar 105 100 14) && decide (0 ≤ (v1 + 1) ∧ (v1 + 1) < 14))) (by decide +kernel) rfl (vm_t (vm_u (vm_t (vm_u (vm_u rfl (by decide +kernel)) rfl) o1_0) (by decide +kernel)) o1_1) ?_
  refine vm_gj (c := (m 105 (v1 + 1)) ≤ v2) (t := 80) (e := 38) (i := (.if_icmp .ge 0, 80, 0, [])) (len := 3) (st1 := []) (by decide +kernel) rfl rfl (fun c1 => ?_) (fun c1 => ?_)
  · replace h := h.1 c1
    refine vm_gp [(.aload 0, 0, 0, []), (.aload 0, 0, 0, []), (.getfield 0, 11, 17, [])] (pc1 := 85) (ls1 := [some (vm_r 96), some (vm_i v1), some (vm_i v2), w3]) (st1 := [vm_i (m 96 17), vm_r 96]) (m1 := m) (ob := (true && vm_is 96 11)) (by decide +kernel) rfl (vm_u rfl (by decide +kernel)) ?_
    refine vm_gc (g := 287) (na := 2) (av := [vm_r 96, vm_i (m 96 17)]) (rest := []) (i := (.invokevirtual 0, 287, 2, [])) (len := 3) (by decide +kernel) rfl rfl rfl (by decide +kernel) (by decide +kernel) rfl rfl (vm_u (vm_okh_v (c := 11) (by decide +kernel) (by decide +kernel)) (show vm_okn 287 2 0 0 0 2 = true by decide +kernel)) ?_
    refine vm_G.mono h ?_
    rintro _ m1 ⟨rfl, h⟩
    show vm_G 288 88 [some (vm_r 96), some (vm_i v1), some (vm_i v2), w3] [] m1 _
    refine vm_gp [(.aload 0, 0, 0, []), (.iconst 10, 0, 0, [])] (pc1 := 91) (ls1 := [some (vm_r 96), some (vm_i v1), some (vm_i v2), w3]) (st1 := [vm_i 10, vm_r 96]) (m1 := m1) (ob := true) (by decide +kernel) rfl rfl ?_
    refine vm_gc (g := 285) (na := 2) (av := [vm_r 96, vm_i 10]) (rest := []) (i := (.invokevirtual 0, 285, 2, [])) (len := 3) (by decide +kernel) rfl rfl rfl (by decide +kernel) (by decide +kernel) rfl rfl (vm_u (vm_okh_v (c := 11) (by decide +kernel) (by decide +kernel)) (show vm_okn 285 2 0 0 0 2 = true by decide +kernel)) ?_
    refine vm_G.mono h ?_
    rintro _ m2 ⟨rfl, h⟩
    show vm_G 288 94 [some (vm_r 96), some (vm_i v1), some (vm_i v2), w3] [] m2 _
    exact vm_gr (r := none) (i := (.return_, 0, 0, [])) (len := 1) (by decide +kernel) rfl rfl rfl ⟨rfl, h⟩
  · replace h := h.2 c1
    refine vm_gp [(.iconst 0, 0, 0, []), (.istore 3, 0, 0, [])] (pc1 := 40) (ls1 := [some (vm_r 96), some (vm_i v1), some (vm_i v2), some (vm_i 0)]) (st1 := []) (m1 := m) (ob := true) (by decide +kernel) rfl rfl ?_
    exact h
set_option maxRecDepth 20000 in
theorem ru11_saysRow_40 {v1 : Int} {v2 : Int} {v3 : Int} {m : vm_M} {Q : vm_M → Prop}  (h :
    (vm_C 167 [vm_r 96, vm_i v2] m (vm_qi (fun z1 m1 =>
      ((z1 ≤ v3 →
        (vm_C 285 [vm_r 96, vm_i 32] m1 (vm_qv (fun m2 =>
          ((vm_32 (v2 + 1))) ∧
          ku11_saysRow_26 v1 (v2 + 1) (some (vm_i v3)) m2 Q)))) ∧ (¬ z1 ≤ v3 →
        (vm_C 168 [vm_r 96, vm_i v2, vm_i v3] m1 (vm_qi (fun z3 m3 =>
          ((vm_32 (97 + z3))) ∧
          (vm_C 285 [vm_r 96, vm_i (97 + z3)] m3 (vm_qv (fun m4 =>
            ((vm_32 (v3 + 1))) ∧
            ku11_saysRow_40 v1 v2 (v3 + 1) m4 Q)))))))))))) : ku11_saysRow_40 v1 v2 v3 m Q := by
  show vm_G 288 40 [some (vm_r 96), some (vm_i v1), some (vm_i v2), some (vm_i v3)] [] m (vm_qv Q)
  refine vm_gp [(.iload 3, 0, 0, []), (.aload 0, 0, 0, []), (.iload 2, 0, 0, [])] (pc1 := 43) (ls1 := [some (vm_r 96), some (vm_i v1), some (vm_i v2), some (vm_i v3)]) (st1 := [vm_i v2, vm_r 96, vm_i v3]) (m1 := m) (ob := true) (by decide +kernel) rfl rfl ?_
  refine vm_gc (g := 167) (na := 2) (av := [vm_r 96, vm_i v2]) (rest := [vm_i v3]) (i := (.invokevirtual 0, 167, 2, [])) (len := 3) (by decide +kernel) rfl rfl rfl (by decide +kernel) (by decide +kernel) rfl rfl (vm_u (vm_okh_v (c := 11) (by decide +kernel) (by decide +kernel)) (show vm_okn 167 2 1 0 0 2 = true by decide +kernel)) ?_
  refine vm_G.mono h ?_
  rintro _ m1 ⟨z1, rfl, h⟩
  show vm_G 288 46 [some (vm_r 96), some (vm_i v1), some (vm_i v2), some (vm_i v3)] [vm_i z1, vm_i v3] m1 _
  refine vm_gj (c := z1 ≤ v3) (t := 68) (e := 49) (i := (.if_icmp .ge 0, 68, 0, [])) (len := 3) (st1 := []) (by decide +kernel) rfl rfl (fun c1 => ?_) (fun c1 => ?_)
  · replace h := h.1 c1
    refine vm_gp [(.aload 0, 0, 0, []), (.iconst 32, 0, 0, [])] (pc1 := 71) (ls1 := [some (vm_r 96), some (vm_i v1), some (vm_i v2), some (vm_i v3)]) (st1 := [vm_i 32, vm_r 96]) (m1 := m1) (ob := true) (by decide +kernel) rfl rfl ?_
    refine vm_gc (g := 285) (na := 2) (av := [vm_r 96, vm_i 32]) (rest := []) (i := (.invokevirtual 0, 285, 2, [])) (len := 3) (by decide +kernel) rfl rfl rfl (by decide +kernel) (by decide +kernel) rfl rfl (vm_u (vm_okh_v (c := 11) (by decide +kernel) (by decide +kernel)) (show vm_okn 285 2 0 0 0 2 = true by decide +kernel)) ?_
    refine vm_G.mono h ?_
    rintro _ m2 ⟨rfl, h⟩
    show vm_G 288 74 [some (vm_r 96), some (vm_i v1), some (vm_i v2), some (vm_i v3)] [] m2 _
    obtain ⟨o4_0, h⟩ := h
    refine vm_gp [(.iinc 2 1, 0, 0, []), (.goto 0, 26, 0, [])] (pc1 := 26) (ls1 := [some (vm_r 96), some (vm_i v1), some (vm_i (v2 + 1)), some (vm_i v3)]) (st1 := []) (m1 := m2) (ob := (true && decide (vm_32 (v2 + 1)))) (by decide +kernel) rfl (vm_t rfl o4_0) ?_
    exact h
  · replace h := h.2 c1
    refine vm_gp [(.aload 0, 0, 0, []), (.iconst 97, 0, 0, []), (.aload 0, 0, 0, []), (.iload 2, 0, 0, []), (.iload 3, 0, 0, [])] (pc1 := 55) (ls1 := [some (vm_r 96), some (vm_i v1), some (vm_i v2), some (vm_i v3)]) (st1 := [vm_i v3, vm_i v2, vm_r 96, vm_i 97, vm_r 96]) (m1 := m1) (ob := true) (by decide +kernel) rfl rfl ?_
    refine vm_gc (g := 168) (na := 3) (av := [vm_r 96, vm_i v2, vm_i v3]) (rest := [vm_i 97, vm_r 96]) (i := (.invokevirtual 0, 168, 3, [])) (len := 3) (by decide +kernel) rfl rfl rfl (by decide +kernel) (by decide +kernel) rfl rfl (vm_u (vm_okh_v (c := 11) (by decide +kernel) (by decide +kernel)) (show vm_okn 168 3 2 0 0 3 = true by decide +kernel)) ?_
    refine vm_G.mono h ?_
    rintro _ m3 ⟨z3, rfl, h⟩
    show vm_G 288 58 [some (vm_r 96), some (vm_i v1), some (vm_i v2), some (vm_i v3)] [vm_i z3, vm_i 97, vm_r 96] m3 _
    obtain ⟨o6_0, h⟩ := h
    refine vm_gp [(.iadd, 0, 0, [])] (pc1 := 59) (ls1 := [some (vm_r 96), some (vm_i v1), some (vm_i v2), some (vm_i v3)]) (st1 := [vm_i (97 + z3), vm_r 96]) (m1 := m3) (ob := (true && decide (vm_32 (97 + z3)))) (by decide +kernel) rfl (vm_t rfl o6_0) ?_
    refine vm_gc (g := 285) (na := 2) (av := [vm_r 96, vm_i (97 + z3)]) (rest := []) (i := (.invokevirtual 0, 285, 2, [])) (len := 3) (by decide +kernel) rfl rfl rfl (by decide +kernel) (by decide +kernel) rfl rfl (vm_u (vm_okh_v (c := 11) (by decide +kernel) (by decide +kernel)) (show vm_okn 285 2 0 0 0 2 = true by decide +kernel)) ?_
    refine vm_G.mono h ?_
    rintro _ m4 ⟨rfl, h⟩
    show vm_G 288 62 [some (vm_r 96), some (vm_i v1), some (vm_i v2), some (vm_i v3)] [] m4 _
    obtain ⟨o7_0, h⟩ := h
    refine vm_gp [(.iinc 3 1, 0, 0, []), (.goto 0, 40, 0, [])] (pc1 := 40) (ls1 := [some (vm_r 96), some (vm_i v1), some (vm_i v2), some (vm_i (v3 + 1))]) (st1 := []) (m1 := m4) (ob := (true && decide (vm_32 (v3 + 1)))) (by decide +kernel) rfl (vm_t rfl o7_0) ?_
    exact h
abbrev ku11_saysView_0 (v1 : Int) (m : vm_M) (Q : vm_M → Prop) : Prop := vm_G 289 0 [some (vm_r 96), some (vm_i v1), none] [] m (vm_qv Q)
abbrev ku11_saysView_11 (v1 : Int) (v2 : Int) (m : vm_M) (Q : vm_M → Prop) : Prop := vm_G 289 11 [some (vm_r 96), some (vm_i v1), some (vm_i v2)] [] m (vm_qv Q)
set_option maxRecDepth 20000 in
theorem ru11_saysView_0 {v1 : Int} {m : vm_M} {Q : vm_M → Prop}  (h :
    (vm_C 284 [vm_r 96, vm_i v1] m (vm_qv (fun m1 =>
      (vm_C 186 [vm_r 96] m1 (vm_qv (fun m2 =>
        ku11_saysView_11 v1 0 m2 Q))))))) : vm_C 289 [vm_r 96, vm_i v1] m (vm_qv Q) := by
  show vm_G 289 0 [some (vm_r 96), some (vm_i v1), none] [] m (vm_qv Q)
  refine vm_gp [(.aload 0, 0, 0, []), (.iload 1, 0, 0, [])] (pc1 := 2) (ls1 := [some (vm_r 96), some (vm_i v1), none]) (st1 := [vm_i v1, vm_r 96]) (m1 := m) (ob := true) (by decide +kernel) rfl rfl ?_
  refine vm_gc (g := 284) (na := 2) (av := [vm_r 96, vm_i v1]) (rest := []) (i := (.invokevirtual 0, 284, 2, [])) (len := 3) (by decide +kernel) rfl rfl rfl (by decide +kernel) (by decide +kernel) rfl rfl (vm_u (vm_okh_v (c := 11) (by decide +kernel) (by decide +kernel)) (show vm_okn 284 2 0 0 0 2 = true by decide +kernel)) ?_
  refine vm_G.mono h ?_
  rintro _ m1 ⟨rfl, h⟩
  show vm_G 289 5 [some (vm_r 96), some (vm_i v1), none] [] m1 _
  refine vm_gp [(.aload 0, 0, 0, [])] (pc1 := 6) (ls1 := [some (vm_r 96), some (vm_i v1), none]) (st1 := [vm_r 96]) (m1 := m1) (ob := true) (by decide +kernel) rfl rfl ?_
  refine vm_gc (g := 186) (na := 1) (av := [vm_r 96]) (rest := []) (i := (.invokevirtual 0, 186, 1, [])) (len := 3) (by decide +kernel) rfl rfl rfl (by decide +kernel) (by decide +kernel) rfl rfl (vm_u (vm_okh_v (c := 11) (by decide +kernel) (by decide +kernel)) (show vm_okn 186 1 0 0 0 1 = true by decide +kernel)) ?_
  refine vm_G.mono h ?_
  rintro _ m2 ⟨rfl, h⟩
  show vm_G 289 9 [some (vm_r 96), some (vm_i v1), none] [] m2 _
  refine vm_gp [(.iconst 0, 0, 0, []), (.istore 2, 0, 0, [])] (pc1 := 11) (ls1 := [some (vm_r 96), some (vm_i v1), some (vm_i 0)]) (st1 := []) (m1 := m2) (ob := true) (by decide +kernel) rfl rfl ?_
  exact h
set_option maxRecDepth 20000 in
theorem ru11_saysView_11 {v1 : Int} {v2 : Int} {m : vm_M} {Q : vm_M → Prop}  (h :
    (((m 96 14) ≤ v2 →
      Q m) ∧ (¬ (m 96 14) ≤ v2 →
      (vm_C 288 [vm_r 96, vm_i v2] m (vm_qv (fun m1 =>
        ((vm_32 (v2 + 1))) ∧
        ku11_saysView_11 v1 (v2 + 1) m1 Q)))))) : ku11_saysView_11 v1 v2 m Q := by
  show vm_G 289 11 [some (vm_r 96), some (vm_i v1), some (vm_i v2)] [] m (vm_qv Q)
  refine vm_gp [(.iload 2, 0, 0, []), (.aload 0, 0, 0, []), (.getfield 0, 11, 14, [])] (pc1 := 16) (ls1 := [some (vm_r 96), some (vm_i v1), some (vm_i v2)]) (st1 := [vm_i (m 96 14), vm_i v2]) (m1 := m) (ob := (true && vm_is 96 11)) (by decide +kernel) rfl (vm_u rfl (by decide +kernel)) ?_
  refine vm_gj (c := (m 96 14) ≤ v2) (t := 30) (e := 19) (i := (.if_icmp .ge 0, 30, 0, [])) (len := 3) (st1 := []) (by decide +kernel) rfl rfl (fun c1 => ?_) (fun c1 => ?_)
  · replace h := h.1 c1
    exact vm_gr (r := none) (i := (.return_, 0, 0, [])) (len := 1) (by decide +kernel) rfl rfl rfl ⟨rfl, h⟩
  · replace h := h.2 c1
    refine vm_gp [(.aload 0, 0, 0, []), (.iload 2, 0, 0, [])] (pc1 := 21) (ls1 := [some (vm_r 96), some (vm_i v1), some (vm_i v2)]) (st1 := [vm_i v2, vm_r 96]) (m1 := m) (ob := true) (by decide +kernel) rfl rfl ?_
    refine vm_gc (g := 288) (na := 2) (av := [vm_r 96, vm_i v2]) (rest := []) (i := (.invokevirtual 0, 288, 2, [])) (len := 3) (by decide +kernel) rfl rfl rfl (by decide +kernel) (by decide +kernel) rfl rfl (vm_u (vm_okh_v (c := 11) (by decide +kernel) (by decide +kernel)) (show vm_okn 288 2 0 0 0 2 = true by decide +kernel)) ?_
    refine vm_G.mono h ?_
    rintro _ m1 ⟨rfl, h⟩
    show vm_G 289 24 [some (vm_r 96), some (vm_i v1), some (vm_i v2)] [] m1 _
    obtain ⟨o4_0, h⟩ := h
    refine vm_gp [(.iinc 2 1, 0, 0, []), (.goto 0, 11, 0, [])] (pc1 := 11) (ls1 := [some (vm_r 96), some (vm_i v1), some (vm_i (v2 + 1))]) (st1 := []) (m1 := m1) (ob := (true && decide (vm_32 (v2 + 1)))) (by decide +kernel) rfl (vm_t rfl o4_0) ?_
    exact h
abbrev ku11_viewLength_0  (m : vm_M) (Q : Int → vm_M → Prop) : Prop := vm_G 290 0 [some (vm_r 96)] [] m (vm_qi Q)
set_option maxRecDepth 20000 in
theorem ru11_viewLength_0  {m : vm_M} {Q : Int → vm_M → Prop}  (h :
    (vm_C 289 [vm_r 96, vm_i (-1)] m (vm_qv (fun m1 =>
      Q (m1 96 41) m1)))) : vm_C 290 [vm_r 96] m (vm_qi Q) := by
  show vm_G 290 0 [some (vm_r 96)] [] m (vm_qi Q)
  refine vm_gp [(.aload 0, 0, 0, []), (.iconst (-1), 0, 0, [])] (pc1 := 2) (ls1 := [some (vm_r 96)]) (st1 := [vm_i (-1), vm_r 96]) (m1 := m) (ob := true) (by decide +kernel) rfl rfl ?_
  refine vm_gc (g := 289) (na := 2) (av := [vm_r 96, vm_i (-1)]) (rest := []) (i := (.invokevirtual 0, 289, 2, [])) (len := 3) (by decide +kernel) rfl rfl rfl (by decide +kernel) (by decide +kernel) rfl rfl (vm_u (vm_okh_v (c := 11) (by decide +kernel) (by decide +kernel)) (show vm_okn 289 2 0 0 0 2 = true by decide +kernel)) ?_
  refine vm_G.mono h ?_
  rintro _ m1 ⟨rfl, h⟩
  show vm_G 290 5 [some (vm_r 96)] [] m1 _
  refine vm_gp [(.aload 0, 0, 0, []), (.getfield 0, 11, 41, [])] (pc1 := 9) (ls1 := [some (vm_r 96)]) (st1 := [vm_i (m1 96 41)]) (m1 := m1) (ob := (true && vm_is 96 11)) (by decide +kernel) rfl (vm_u rfl (by decide +kernel)) ?_
  exact vm_gr (r := some (vm_i (m1 96 41))) (i := (.ireturn, 1, 0, [])) (len := 1) (by decide +kernel) rfl rfl rfl ⟨_, rfl, h⟩
abbrev ku11_viewByte_0 (v1 : Int) (m : vm_M) (Q : Int → vm_M → Prop) : Prop := vm_G 291 0 [some (vm_r 96), some (vm_i v1)] [] m (vm_qi Q)
set_option maxRecDepth 20000 in
theorem ru11_viewByte_0 {v1 : Int} {m : vm_M} {Q : Int → vm_M → Prop}  (h :
    ((0 ≤ v1 →
      (vm_C 289 [vm_r 96, vm_i v1] m (vm_qv (fun m1 =>
        Q (m1 96 43) m1)))) ∧ (¬ 0 ≤ v1 →
      Q (-1) m))) : vm_C 291 [vm_r 96, vm_i v1] m (vm_qi Q) := by
  show vm_G 291 0 [some (vm_r 96), some (vm_i v1)] [] m (vm_qi Q)
  refine vm_gp [(.iload 1, 0, 0, [])] (pc1 := 1) (ls1 := [some (vm_r 96), some (vm_i v1)]) (st1 := [vm_i v1]) (m1 := m) (ob := true) (by decide +kernel) rfl rfl ?_
  refine vm_gj (c := 0 ≤ v1) (t := 6) (e := 4) (i := (.ifCond .ge 0, 6, 0, [])) (len := 3) (st1 := []) (by decide +kernel) rfl rfl (fun c1 => ?_) (fun c1 => ?_)
  · replace h := h.1 c1
    refine vm_gp [(.aload 0, 0, 0, []), (.iload 1, 0, 0, [])] (pc1 := 8) (ls1 := [some (vm_r 96), some (vm_i v1)]) (st1 := [vm_i v1, vm_r 96]) (m1 := m) (ob := true) (by decide +kernel) rfl rfl ?_
    refine vm_gc (g := 289) (na := 2) (av := [vm_r 96, vm_i v1]) (rest := []) (i := (.invokevirtual 0, 289, 2, [])) (len := 3) (by decide +kernel) rfl rfl rfl (by decide +kernel) (by decide +kernel) rfl rfl (vm_u (vm_okh_v (c := 11) (by decide +kernel) (by decide +kernel)) (show vm_okn 289 2 0 0 0 2 = true by decide +kernel)) ?_
    refine vm_G.mono h ?_
    rintro _ m1 ⟨rfl, h⟩
    show vm_G 291 11 [some (vm_r 96), some (vm_i v1)] [] m1 _
    refine vm_gp [(.aload 0, 0, 0, []), (.getfield 0, 11, 43, [])] (pc1 := 15) (ls1 := [some (vm_r 96), some (vm_i v1)]) (st1 := [vm_i (m1 96 43)]) (m1 := m1) (ob := (true && vm_is 96 11)) (by decide +kernel) rfl (vm_u rfl (by decide +kernel)) ?_
    exact vm_gr (r := some (vm_i (m1 96 43))) (i := (.ireturn, 1, 0, [])) (len := 1) (by decide +kernel) rfl rfl rfl ⟨_, rfl, h⟩
  · replace h := h.2 c1
    refine vm_gp [(.iconst (-1), 0, 0, [])] (pc1 := 5) (ls1 := [some (vm_r 96), some (vm_i v1)]) (st1 := [vm_i (-1)]) (m1 := m) (ob := true) (by decide +kernel) rfl rfl ?_
    exact vm_gr (r := some (vm_i (-1))) (i := (.ireturn, 1, 0, [])) (len := 1) (by decide +kernel) rfl rfl rfl ⟨_, rfl, h⟩
abbrev ku11_saysPair_0 (v1 : Int) (v3 : Int) (v4 : Int) (m : vm_M) (Q : vm_M → Prop) : Prop := vm_G 292 0 [some (vm_r 96), some (vm_l v1), none, some (vm_i v3), some (vm_i v4)] [] m (vm_qv Q)
set_option maxRecDepth 20000 in
theorem ru11_saysPair_0 {v1 : Int} {v3 : Int} {v4 : Int} {m : vm_M} {Q : vm_M → Prop}  (h :
    (vm_C 286 [vm_r 96, vm_l v1] m (vm_qv (fun m1 =>
      (vm_C 285 [vm_r 96, vm_i 32] m1 (vm_qv (fun m2 =>
        (vm_C 287 [vm_r 96, vm_i v3] m2 (vm_qv (fun m3 =>
          (vm_C 285 [vm_r 96, vm_i v4] m3 (vm_qv (fun m4 =>
            Q m4))))))))))))) : vm_C 292 [vm_r 96, vm_l v1, vm_i v3, vm_i v4] m (vm_qv Q) := by
  show vm_G 292 0 [some (vm_r 96), some (vm_l v1), none, some (vm_i v3), some (vm_i v4)] [] m (vm_qv Q)
  refine vm_gp [(.aload 0, 0, 0, []), (.lload 1, 0, 0, [])] (pc1 := 2) (ls1 := [some (vm_r 96), some (vm_l v1), none, some (vm_i v3), some (vm_i v4)]) (st1 := [vm_l v1, vm_r 96]) (m1 := m) (ob := true) (by decide +kernel) rfl rfl ?_
  refine vm_gc (g := 286) (na := 2) (av := [vm_r 96, vm_l v1]) (rest := []) (i := (.invokevirtual 0, 286, 2, [])) (len := 3) (by decide +kernel) rfl rfl rfl (by decide +kernel) (by decide +kernel) rfl rfl (vm_u (vm_okh_v (c := 11) (by decide +kernel) (by decide +kernel)) (show vm_okn 286 2 0 0 0 3 = true by decide +kernel)) ?_
  refine vm_G.mono h ?_
  rintro _ m1 ⟨rfl, h⟩
  show vm_G 292 5 [some (vm_r 96), some (vm_l v1), none, some (vm_i v3), some (vm_i v4)] [] m1 _
  refine vm_gp [(.aload 0, 0, 0, []), (.iconst 32, 0, 0, [])] (pc1 := 8) (ls1 := [some (vm_r 96), some (vm_l v1), none, some (vm_i v3), some (vm_i v4)]) (st1 := [vm_i 32, vm_r 96]) (m1 := m1) (ob := true) (by decide +kernel) rfl rfl ?_
  refine vm_gc (g := 285) (na := 2) (av := [vm_r 96, vm_i 32]) (rest := []) (i := (.invokevirtual 0, 285, 2, [])) (len := 3) (by decide +kernel) rfl rfl rfl (by decide +kernel) (by decide +kernel) rfl rfl (vm_u (vm_okh_v (c := 11) (by decide +kernel) (by decide +kernel)) (show vm_okn 285 2 0 0 0 2 = true by decide +kernel)) ?_
  refine vm_G.mono h ?_
  rintro _ m2 ⟨rfl, h⟩
  show vm_G 292 11 [some (vm_r 96), some (vm_l v1), none, some (vm_i v3), some (vm_i v4)] [] m2 _
  refine vm_gp [(.aload 0, 0, 0, []), (.iload 3, 0, 0, [])] (pc1 := 13) (ls1 := [some (vm_r 96), some (vm_l v1), none, some (vm_i v3), some (vm_i v4)]) (st1 := [vm_i v3, vm_r 96]) (m1 := m2) (ob := true) (by decide +kernel) rfl rfl ?_
  refine vm_gc (g := 287) (na := 2) (av := [vm_r 96, vm_i v3]) (rest := []) (i := (.invokevirtual 0, 287, 2, [])) (len := 3) (by decide +kernel) rfl rfl rfl (by decide +kernel) (by decide +kernel) rfl rfl (vm_u (vm_okh_v (c := 11) (by decide +kernel) (by decide +kernel)) (show vm_okn 287 2 0 0 0 2 = true by decide +kernel)) ?_
  refine vm_G.mono h ?_
  rintro _ m3 ⟨rfl, h⟩
  show vm_G 292 16 [some (vm_r 96), some (vm_l v1), none, some (vm_i v3), some (vm_i v4)] [] m3 _
  refine vm_gp [(.aload 0, 0, 0, []), (.iload 4, 0, 0, [])] (pc1 := 19) (ls1 := [some (vm_r 96), some (vm_l v1), none, some (vm_i v3), some (vm_i v4)]) (st1 := [vm_i v4, vm_r 96]) (m1 := m3) (ob := true) (by decide +kernel) rfl rfl ?_
  refine vm_gc (g := 285) (na := 2) (av := [vm_r 96, vm_i v4]) (rest := []) (i := (.invokevirtual 0, 285, 2, [])) (len := 3) (by decide +kernel) rfl rfl rfl (by decide +kernel) (by decide +kernel) rfl rfl (vm_u (vm_okh_v (c := 11) (by decide +kernel) (by decide +kernel)) (show vm_okn 285 2 0 0 0 2 = true by decide +kernel)) ?_
  refine vm_G.mono h ?_
  rintro _ m4 ⟨rfl, h⟩
  show vm_G 292 22 [some (vm_r 96), some (vm_l v1), none, some (vm_i v3), some (vm_i v4)] [] m4 _
  exact vm_gr (r := none) (i := (.return_, 0, 0, [])) (len := 1) (by decide +kernel) rfl rfl rfl ⟨rfl, h⟩
abbrev ku11_saysSide_0 (v1 : Int) (v2 : Int) (m : vm_M) (Q : vm_M → Prop) : Prop := vm_G 293 0 [some (vm_r 96), some (vm_i v1), some (vm_i v2), none, none] [] m (vm_qv Q)
abbrev ku11_saysSide_2 (v1 : Int) (v2 : Int) (v3 : Int) (w4 : Option vm_V) (m : vm_M) (Q : vm_M → Prop) : Prop := vm_G 293 2 [some (vm_r 96), some (vm_i v1), some (vm_i v2), some (vm_i v3), w4] [] m (vm_qv Q)
set_option maxRecDepth 20000 in
theorem ru11_saysSide_0 {v1 : Int} {v2 : Int} {m : vm_M} {Q : vm_M → Prop}  (h :
    ku11_saysSide_2 v1 v2 0 none m Q) : vm_C 293 [vm_r 96, vm_i v1, vm_i v2] m (vm_qv Q) := by
  show vm_G 293 0 [some (vm_r 96), some (vm_i v1), some (vm_i v2), none, none] [] m (vm_qv Q)
  refine vm_gp [(.iconst 0, 0, 0, []), (.istore 3, 0, 0, [])] (pc1 := 2) (ls1 := [some (vm_r 96), some (vm_i v1), some (vm_i v2), some (vm_i 0), none]) (st1 := []) (m1 := m) (ob := true) (by decide +kernel) rfl rfl ?_
  exact h
set_option maxRecDepth 20000 in
theorem ru11_saysSide_2 {v1 : Int} {v2 : Int} {v3 : Int} {w4 : Option vm_V} {m : vm_M} {Q : vm_M → Prop}  (h :
    ((6 ≤ v3 →
      Q m) ∧ (¬ 6 ≤ v3 →
      (vm_C 285 [vm_r 96, vm_i 32] m (vm_qv (fun m1 =>
        (vm_C 166 [vm_r 96, vm_i v1, vm_i v2, vm_i v3] m1 (vm_qi (fun z2 m2 =>
          ((¬ z2 = (-1) →
            (vm_C 287 [vm_r 96, vm_i z2] m2 (vm_qv (fun m3 =>
              ((vm_32 (v3 + 1))) ∧
              ku11_saysSide_2 v1 v2 (v3 + 1) (some (vm_i z2)) m3 Q)))) ∧ (¬ ¬ z2 = (-1) →
            (vm_C 286 [vm_r 96, vm_l 508078] m2 (vm_qv (fun m4 =>
              ((vm_32 (v3 + 1))) ∧
              ku11_saysSide_2 v1 v2 (v3 + 1) (some (vm_i z2)) m4 Q)))))))))))))) : ku11_saysSide_2 v1 v2 v3 w4 m Q := by
  show vm_G 293 2 [some (vm_r 96), some (vm_i v1), some (vm_i v2), some (vm_i v3), w4] [] m (vm_qv Q)
  refine vm_gp [(.iload 3, 0, 0, []), (.iconst 6, 0, 0, [])] (pc1 := 5) (ls1 := [some (vm_r 96), some (vm_i v1), some (vm_i v2), some (vm_i v3), w4]) (st1 := [vm_i 6, vm_i v3]) (m1 := m) (ob := true) (by decide +kernel) rfl rfl ?_
  refine vm_gj (c := 6 ≤ v3) (t := 51) (e := 8) (i := (.if_icmp .ge 0, 51, 0, [])) (len := 3) (st1 := []) (by decide +kernel) rfl rfl (fun c1 => ?_) (fun c1 => ?_)
  · replace h := h.1 c1
    exact vm_gr (r := none) (i := (.return_, 0, 0, [])) (len := 1) (by decide +kernel) rfl rfl rfl ⟨rfl, h⟩
  · replace h := h.2 c1
    refine vm_gp [(.aload 0, 0, 0, []), (.iconst 32, 0, 0, [])] (pc1 := 11) (ls1 := [some (vm_r 96), some (vm_i v1), some (vm_i v2), some (vm_i v3), w4]) (st1 := [vm_i 32, vm_r 96]) (m1 := m) (ob := true) (by decide +kernel) rfl rfl ?_
    refine vm_gc (g := 285) (na := 2) (av := [vm_r 96, vm_i 32]) (rest := []) (i := (.invokevirtual 0, 285, 2, [])) (len := 3) (by decide +kernel) rfl rfl rfl (by decide +kernel) (by decide +kernel) rfl rfl (vm_u (vm_okh_v (c := 11) (by decide +kernel) (by decide +kernel)) (show vm_okn 285 2 0 0 0 2 = true by decide +kernel)) ?_
    refine vm_G.mono h ?_
    rintro _ m1 ⟨rfl, h⟩
    show vm_G 293 14 [some (vm_r 96), some (vm_i v1), some (vm_i v2), some (vm_i v3), w4] [] m1 _
    refine vm_gp [(.aload 0, 0, 0, []), (.iload 1, 0, 0, []), (.iload 2, 0, 0, []), (.iload 3, 0, 0, [])] (pc1 := 18) (ls1 := [some (vm_r 96), some (vm_i v1), some (vm_i v2), some (vm_i v3), w4]) (st1 := [vm_i v3, vm_i v2, vm_i v1, vm_r 96]) (m1 := m1) (ob := true) (by decide +kernel) rfl rfl ?_
    refine vm_gc (g := 166) (na := 4) (av := [vm_r 96, vm_i v1, vm_i v2, vm_i v3]) (rest := []) (i := (.invokevirtual 0, 166, 4, [])) (len := 3) (by decide +kernel) rfl rfl rfl (by decide +kernel) (by decide +kernel) rfl rfl (vm_u (vm_okh_v (c := 11) (by decide +kernel) (by decide +kernel)) (show vm_okn 166 4 0 0 0 4 = true by decide +kernel)) ?_
    refine vm_G.mono h ?_
    rintro _ m2 ⟨z2, rfl, h⟩
    show vm_G 293 21 [some (vm_r 96), some (vm_i v1), some (vm_i v2), some (vm_i v3), w4] [vm_i z2] m2 _
    refine vm_gp [(.istore 4, 0, 0, []), (.iload 4, 0, 0, []), (.iconst (-1), 0, 0, [])] (pc1 := 26) (ls1 := [some (vm_r 96), some (vm_i v1), some (vm_i v2), some (vm_i v3), some (vm_i z2)]) (st1 := [vm_i (-1), vm_i z2]) (m1 := m2) (ob := true) (by decide +kernel) rfl rfl ?_
    refine vm_gj (c := ¬ z2 = (-1)) (t := 39) (e := 29) (i := (.if_icmp .ne 0, 39, 0, [])) (len := 3) (st1 := []) (by decide +kernel) rfl rfl (fun c2 => ?_) (fun c2 => ?_)
    · replace h := h.1 c2
      refine vm_gp [(.aload 0, 0, 0, []), (.iload 4, 0, 0, [])] (pc1 := 42) (ls1 := [some (vm_r 96), some (vm_i v1), some (vm_i v2), some (vm_i v3), some (vm_i z2)]) (st1 := [vm_i z2, vm_r 96]) (m1 := m2) (ob := true) (by decide +kernel) rfl rfl ?_
      refine vm_gc (g := 287) (na := 2) (av := [vm_r 96, vm_i z2]) (rest := []) (i := (.invokevirtual 0, 287, 2, [])) (len := 3) (by decide +kernel) rfl rfl rfl (by decide +kernel) (by decide +kernel) rfl rfl (vm_u (vm_okh_v (c := 11) (by decide +kernel) (by decide +kernel)) (show vm_okn 287 2 0 0 0 2 = true by decide +kernel)) ?_
      refine vm_G.mono h ?_
      rintro _ m3 ⟨rfl, h⟩
      show vm_G 293 45 [some (vm_r 96), some (vm_i v1), some (vm_i v2), some (vm_i v3), some (vm_i z2)] [] m3 _
      obtain ⟨o7_0, h⟩ := h
      refine vm_gp [(.iinc 3 1, 0, 0, []), (.goto 0, 2, 0, [])] (pc1 := 2) (ls1 := [some (vm_r 96), some (vm_i v1), some (vm_i v2), some (vm_i (v3 + 1)), some (vm_i z2)]) (st1 := []) (m1 := m3) (ob := (true && decide (vm_32 (v3 + 1)))) (by decide +kernel) rfl (vm_t rfl o7_0) ?_
      exact h
    · replace h := h.2 c2
      refine vm_gp [(.aload 0, 0, 0, []), (.ldc2_w 0, 0, 0, [(508078, 0)])] (pc1 := 33) (ls1 := [some (vm_r 96), some (vm_i v1), some (vm_i v2), some (vm_i v3), some (vm_i z2)]) (st1 := [vm_l 508078, vm_r 96]) (m1 := m2) (ob := true) (by decide +kernel) rfl rfl ?_
      refine vm_gc (g := 286) (na := 2) (av := [vm_r 96, vm_l 508078]) (rest := []) (i := (.invokevirtual 0, 286, 2, [])) (len := 3) (by decide +kernel) rfl rfl rfl (by decide +kernel) (by decide +kernel) rfl rfl (vm_u (vm_okh_v (c := 11) (by decide +kernel) (by decide +kernel)) (show vm_okn 286 2 0 0 0 3 = true by decide +kernel)) ?_
      refine vm_G.mono h ?_
      rintro _ m4 ⟨rfl, h⟩
      show vm_G 293 36 [some (vm_r 96), some (vm_i v1), some (vm_i v2), some (vm_i v3), some (vm_i z2)] [] m4 _
      obtain ⟨o9_0, h⟩ := h
      refine vm_gp [(.goto 0, 45, 0, []), (.iinc 3 1, 0, 0, []), (.goto 0, 2, 0, [])] (pc1 := 2) (ls1 := [some (vm_r 96), some (vm_i v1), some (vm_i v2), some (vm_i (v3 + 1)), some (vm_i z2)]) (st1 := []) (m1 := m4) (ob := (true && decide (vm_32 (v3 + 1)))) (by decide +kernel) rfl (vm_t rfl o9_0) ?_
      exact h
abbrev ku11_saysLetter_0 (v1 : Int) (m : vm_M) (Q : vm_M → Prop) : Prop := vm_G 294 0 [some (vm_r 96), some (vm_i v1)] [] m (vm_qv Q)
set_option maxRecDepth 20000 in
theorem ru11_saysLetter_0 {v1 : Int} {m : vm_M} {Q : vm_M → Prop}  (h :
    (vm_C 286 [vm_r 96, vm_l 408572082] m (vm_qv (fun m1 =>
      (vm_C 285 [vm_r 96, vm_i 32] m1 (vm_qv (fun m2 =>
        ((vm_32 (97 + v1))) ∧
        (vm_C 285 [vm_r 96, vm_i (97 + v1)] m2 (vm_qv (fun m3 =>
          (vm_C 285 [vm_r 96, vm_i 32] m3 (vm_qv (fun m4 =>
            ((0 ≤ v1 ∧ v1 < 26)) ∧
            (vm_C 292 [vm_r 96, vm_l 763013, vm_i (m4 98 v1), vm_i 32] m4 (vm_qv (fun m5 =>
              (vm_C 286 [vm_r 96, vm_l 398548] m5 (vm_qv (fun m6 =>
                (vm_C 293 [vm_r 96, vm_i v1, vm_i 0] m6 (vm_qv (fun m7 =>
                  (vm_C 285 [vm_r 96, vm_i 32] m7 (vm_qv (fun m8 =>
                    (vm_C 286 [vm_r 96, vm_l 19176724] m8 (vm_qv (fun m9 =>
                      (vm_C 293 [vm_r 96, vm_i v1, vm_i 1] m9 (vm_qv (fun m10 =>
                        (vm_C 285 [vm_r 96, vm_i 59] m10 (vm_qv (fun m11 =>
                          Q m11)))))))))))))))))))))))))))))))))) : vm_C 294 [vm_r 96, vm_i v1] m (vm_qv Q) := by
  show vm_G 294 0 [some (vm_r 96), some (vm_i v1)] [] m (vm_qv Q)
  refine vm_gp [(.aload 0, 0, 0, []), (.ldc2_w 0, 0, 0, [(408572082, 0)])] (pc1 := 4) (ls1 := [some (vm_r 96), some (vm_i v1)]) (st1 := [vm_l 408572082, vm_r 96]) (m1 := m) (ob := true) (by decide +kernel) rfl rfl ?_
  refine vm_gc (g := 286) (na := 2) (av := [vm_r 96, vm_l 408572082]) (rest := []) (i := (.invokevirtual 0, 286, 2, [])) (len := 3) (by decide +kernel) rfl rfl rfl (by decide +kernel) (by decide +kernel) rfl rfl (vm_u (vm_okh_v (c := 11) (by decide +kernel) (by decide +kernel)) (show vm_okn 286 2 0 0 0 3 = true by decide +kernel)) ?_
  refine vm_G.mono h ?_
  rintro _ m1 ⟨rfl, h⟩
  show vm_G 294 7 [some (vm_r 96), some (vm_i v1)] [] m1 _
  refine vm_gp [(.aload 0, 0, 0, []), (.iconst 32, 0, 0, [])] (pc1 := 10) (ls1 := [some (vm_r 96), some (vm_i v1)]) (st1 := [vm_i 32, vm_r 96]) (m1 := m1) (ob := true) (by decide +kernel) rfl rfl ?_
  refine vm_gc (g := 285) (na := 2) (av := [vm_r 96, vm_i 32]) (rest := []) (i := (.invokevirtual 0, 285, 2, [])) (len := 3) (by decide +kernel) rfl rfl rfl (by decide +kernel) (by decide +kernel) rfl rfl (vm_u (vm_okh_v (c := 11) (by decide +kernel) (by decide +kernel)) (show vm_okn 285 2 0 0 0 2 = true by decide +kernel)) ?_
  refine vm_G.mono h ?_
  rintro _ m2 ⟨rfl, h⟩
  show vm_G 294 13 [some (vm_r 96), some (vm_i v1)] [] m2 _
  obtain ⟨o3_0, h⟩ := h
  refine vm_gp [(.aload 0, 0, 0, []), (.iconst 97, 0, 0, []), (.iload 1, 0, 0, []), (.iadd, 0, 0, [])] (pc1 := 18) (ls1 := [some (vm_r 96), some (vm_i v1)]) (st1 := [vm_i (97 + v1), vm_r 96]) (m1 := m2) (ob := (true && decide (vm_32 (97 + v1)))) (by decide +kernel) rfl (vm_t rfl o3_0) ?_
  refine vm_gc (g := 285) (na := 2) (av := [vm_r 96, vm_i (97 + v1)]) (rest := []) (i := (.invokevirtual 0, 285, 2, [])) (len := 3) (by decide +kernel) rfl rfl rfl (by decide +kernel) (by decide +kernel) rfl rfl (vm_u (vm_okh_v (c := 11) (by decide +kernel) (by decide +kernel)) (show vm_okn 285 2 0 0 0 2 = true by decide +kernel)) ?_
  refine vm_G.mono h ?_
  rintro _ m3 ⟨rfl, h⟩
  show vm_G 294 21 [some (vm_r 96), some (vm_i v1)] [] m3 _
  refine vm_gp [(.aload 0, 0, 0, []), (.iconst 32, 0, 0, [])] (pc1 := 24) (ls1 := [some (vm_r 96), some (vm_i v1)]) (st1 := [vm_i 32, vm_r 96]) (m1 := m3) (ob := true) (by decide +kernel) rfl rfl ?_
  refine vm_gc (g := 285) (na := 2) (av := [vm_r 96, vm_i 32]) (rest := []) (i := (.invokevirtual 0, 285, 2, [])) (len := 3) (by decide +kernel) rfl rfl rfl (by decide +kernel) (by decide +kernel) rfl rfl (vm_u (vm_okh_v (c := 11) (by decide +kernel) (by decide +kernel)) (show vm_okn 285 2 0 0 0 2 = true by decide +kernel)) ?_
  refine vm_G.mono h ?_
  rintro _ m4 ⟨rfl, h⟩
  show vm_G 294 27 [some (vm_r 96), some (vm_i v1)] [] m4 _
  obtain ⟨o5_0, h⟩ := h
  refine vm_gp [(.aload 0, 0, 0, []), (.ldc2_w 0, 0, 0, [(763013, 0)]), (.aload 0, 0, 0, []), (.getfield 2, 11, 5, [(98, 0)]), (.iload 1, 0, 0, []), (.iaload, 26, 0, []), (.iconst 32, 0, 0, [])] (pc1 := 39) (ls1 := [some (vm_r 96), some (vm_i v1)]) (st1 := [vm_i 32, vm_i (m4 98 v1), vm_l 763013, vm_r 96]) (m1 := m4) (ob := ((((true && vm_is 96 11) && true) && vm_ar 98 100 26) && decide (0 ≤ v1 ∧ v1 < 26))) (by decide +kernel) rfl (vm_t (vm_u (vm_u (vm_u rfl (by decide +kernel)) rfl) (by decide +kernel)) o5_0) ?_
  refine vm_gc (g := 292) (na := 4) (av := [vm_r 96, vm_l 763013, vm_i (m4 98 v1), vm_i 32]) (rest := []) (i := (.invokevirtual 0, 292, 4, [])) (len := 3) (by decide +kernel) rfl rfl rfl (by decide +kernel) (by decide +kernel) rfl rfl (vm_u (vm_okh_v (c := 11) (by decide +kernel) (by decide +kernel)) (show vm_okn 292 4 0 0 0 5 = true by decide +kernel)) ?_
  refine vm_G.mono h ?_
  rintro _ m5 ⟨rfl, h⟩
  show vm_G 294 42 [some (vm_r 96), some (vm_i v1)] [] m5 _
  refine vm_gp [(.aload 0, 0, 0, []), (.ldc2_w 0, 0, 0, [(398548, 0)])] (pc1 := 46) (ls1 := [some (vm_r 96), some (vm_i v1)]) (st1 := [vm_l 398548, vm_r 96]) (m1 := m5) (ob := true) (by decide +kernel) rfl rfl ?_
  refine vm_gc (g := 286) (na := 2) (av := [vm_r 96, vm_l 398548]) (rest := []) (i := (.invokevirtual 0, 286, 2, [])) (len := 3) (by decide +kernel) rfl rfl rfl (by decide +kernel) (by decide +kernel) rfl rfl (vm_u (vm_okh_v (c := 11) (by decide +kernel) (by decide +kernel)) (show vm_okn 286 2 0 0 0 3 = true by decide +kernel)) ?_
  refine vm_G.mono h ?_
  rintro _ m6 ⟨rfl, h⟩
  show vm_G 294 49 [some (vm_r 96), some (vm_i v1)] [] m6 _
  refine vm_gp [(.aload 0, 0, 0, []), (.iload 1, 0, 0, []), (.iconst 0, 0, 0, [])] (pc1 := 52) (ls1 := [some (vm_r 96), some (vm_i v1)]) (st1 := [vm_i 0, vm_i v1, vm_r 96]) (m1 := m6) (ob := true) (by decide +kernel) rfl rfl ?_
  refine vm_gc (g := 293) (na := 3) (av := [vm_r 96, vm_i v1, vm_i 0]) (rest := []) (i := (.invokevirtual 0, 293, 3, [])) (len := 3) (by decide +kernel) rfl rfl rfl (by decide +kernel) (by decide +kernel) rfl rfl (vm_u (vm_okh_v (c := 11) (by decide +kernel) (by decide +kernel)) (show vm_okn 293 3 0 0 0 3 = true by decide +kernel)) ?_
  refine vm_G.mono h ?_
  rintro _ m7 ⟨rfl, h⟩
  show vm_G 294 55 [some (vm_r 96), some (vm_i v1)] [] m7 _
  refine vm_gp [(.aload 0, 0, 0, []), (.iconst 32, 0, 0, [])] (pc1 := 58) (ls1 := [some (vm_r 96), some (vm_i v1)]) (st1 := [vm_i 32, vm_r 96]) (m1 := m7) (ob := true) (by decide +kernel) rfl rfl ?_
  refine vm_gc (g := 285) (na := 2) (av := [vm_r 96, vm_i 32]) (rest := []) (i := (.invokevirtual 0, 285, 2, [])) (len := 3) (by decide +kernel) rfl rfl rfl (by decide +kernel) (by decide +kernel) rfl rfl (vm_u (vm_okh_v (c := 11) (by decide +kernel) (by decide +kernel)) (show vm_okn 285 2 0 0 0 2 = true by decide +kernel)) ?_
  refine vm_G.mono h ?_
  rintro _ m8 ⟨rfl, h⟩
  show vm_G 294 61 [some (vm_r 96), some (vm_i v1)] [] m8 _
  refine vm_gp [(.aload 0, 0, 0, []), (.ldc2_w 0, 0, 0, [(19176724, 0)])] (pc1 := 65) (ls1 := [some (vm_r 96), some (vm_i v1)]) (st1 := [vm_l 19176724, vm_r 96]) (m1 := m8) (ob := true) (by decide +kernel) rfl rfl ?_
  refine vm_gc (g := 286) (na := 2) (av := [vm_r 96, vm_l 19176724]) (rest := []) (i := (.invokevirtual 0, 286, 2, [])) (len := 3) (by decide +kernel) rfl rfl rfl (by decide +kernel) (by decide +kernel) rfl rfl (vm_u (vm_okh_v (c := 11) (by decide +kernel) (by decide +kernel)) (show vm_okn 286 2 0 0 0 3 = true by decide +kernel)) ?_
  refine vm_G.mono h ?_
  rintro _ m9 ⟨rfl, h⟩
  show vm_G 294 68 [some (vm_r 96), some (vm_i v1)] [] m9 _
  refine vm_gp [(.aload 0, 0, 0, []), (.iload 1, 0, 0, []), (.iconst 1, 0, 0, [])] (pc1 := 71) (ls1 := [some (vm_r 96), some (vm_i v1)]) (st1 := [vm_i 1, vm_i v1, vm_r 96]) (m1 := m9) (ob := true) (by decide +kernel) rfl rfl ?_
  refine vm_gc (g := 293) (na := 3) (av := [vm_r 96, vm_i v1, vm_i 1]) (rest := []) (i := (.invokevirtual 0, 293, 3, [])) (len := 3) (by decide +kernel) rfl rfl rfl (by decide +kernel) (by decide +kernel) rfl rfl (vm_u (vm_okh_v (c := 11) (by decide +kernel) (by decide +kernel)) (show vm_okn 293 3 0 0 0 3 = true by decide +kernel)) ?_
  refine vm_G.mono h ?_
  rintro _ m10 ⟨rfl, h⟩
  show vm_G 294 74 [some (vm_r 96), some (vm_i v1)] [] m10 _
  refine vm_gp [(.aload 0, 0, 0, []), (.iconst 59, 0, 0, [])] (pc1 := 77) (ls1 := [some (vm_r 96), some (vm_i v1)]) (st1 := [vm_i 59, vm_r 96]) (m1 := m10) (ob := true) (by decide +kernel) rfl rfl ?_
  refine vm_gc (g := 285) (na := 2) (av := [vm_r 96, vm_i 59]) (rest := []) (i := (.invokevirtual 0, 285, 2, [])) (len := 3) (by decide +kernel) rfl rfl rfl (by decide +kernel) (by decide +kernel) rfl rfl (vm_u (vm_okh_v (c := 11) (by decide +kernel) (by decide +kernel)) (show vm_okn 285 2 0 0 0 2 = true by decide +kernel)) ?_
  refine vm_G.mono h ?_
  rintro _ m11 ⟨rfl, h⟩
  show vm_G 294 80 [some (vm_r 96), some (vm_i v1)] [] m11 _
  exact vm_gr (r := none) (i := (.return_, 0, 0, [])) (len := 1) (by decide +kernel) rfl rfl rfl ⟨rfl, h⟩
abbrev ku11_saysCorrection_0 (v1 : Int) (v2 : Int) (m : vm_M) (Q : vm_M → Prop) : Prop := vm_G 295 0 [some (vm_r 96), some (vm_i v1), some (vm_i v2), none] [] m (vm_qv Q)
set_option maxRecDepth 20000 in
theorem ru11_saysCorrection_0 {v1 : Int} {v2 : Int} {m : vm_M} {Q : vm_M → Prop}  (h :
    (vm_C 172 [vm_r 96, vm_i v1, vm_i v2] m (vm_qi (fun z1 m1 =>
      (vm_C 286 [vm_r 96, vm_l 525618] m1 (vm_qv (fun m2 =>
        (vm_C 285 [vm_r 96, vm_i 32] m2 (vm_qv (fun m3 =>
          ((vm_32 (97 + v1))) ∧
          (vm_C 285 [vm_r 96, vm_i (97 + v1)] m3 (vm_qv (fun m4 =>
            (vm_C 285 [vm_r 96, vm_i 32] m4 (vm_qv (fun m5 =>
              ((vm_32 (97 + v2))) ∧
              (vm_C 285 [vm_r 96, vm_i (97 + v2)] m5 (vm_qv (fun m6 =>
                (vm_C 285 [vm_r 96, vm_i 32] m6 (vm_qv (fun m7 =>
                  ((0 ≤ z1 →
                    ((0 ≤ z1 →
                      (vm_C 292 [vm_r 96, vm_l 24416434, vm_i z1, vm_i 59] m7 (vm_qv (fun m8 =>
                        Q m8)))) ∧ (¬ 0 ≤ z1 →
                      ((vm_32 (-z1))) ∧
                      (vm_C 292 [vm_r 96, vm_l 24416434, vm_i (-z1), vm_i 59] m7 (vm_qv (fun m9 =>
                        Q m9)))))) ∧ (¬ 0 ≤ z1 →
                    ((0 ≤ z1 →
                      (vm_C 292 [vm_r 96, vm_l 113757362, vm_i z1, vm_i 59] m7 (vm_qv (fun m10 =>
                        Q m10)))) ∧ (¬ 0 ≤ z1 →
                      ((vm_32 (-z1))) ∧
                      (vm_C 292 [vm_r 96, vm_l 113757362, vm_i (-z1), vm_i 59] m7 (vm_qv (fun m11 =>
                        Q m11))))))))))))))))))))))))))))) : vm_C 295 [vm_r 96, vm_i v1, vm_i v2] m (vm_qv Q) := by
  show vm_G 295 0 [some (vm_r 96), some (vm_i v1), some (vm_i v2), none] [] m (vm_qv Q)
  refine vm_gp [(.aload 0, 0, 0, []), (.iload 1, 0, 0, []), (.iload 2, 0, 0, [])] (pc1 := 3) (ls1 := [some (vm_r 96), some (vm_i v1), some (vm_i v2), none]) (st1 := [vm_i v2, vm_i v1, vm_r 96]) (m1 := m) (ob := true) (by decide +kernel) rfl rfl ?_
  refine vm_gc (g := 172) (na := 3) (av := [vm_r 96, vm_i v1, vm_i v2]) (rest := []) (i := (.invokevirtual 0, 172, 3, [])) (len := 3) (by decide +kernel) rfl rfl rfl (by decide +kernel) (by decide +kernel) rfl rfl (vm_u (vm_okh_v (c := 11) (by decide +kernel) (by decide +kernel)) (show vm_okn 172 3 0 0 0 3 = true by decide +kernel)) ?_
  refine vm_G.mono h ?_
  rintro _ m1 ⟨z1, rfl, h⟩
  show vm_G 295 6 [some (vm_r 96), some (vm_i v1), some (vm_i v2), none] [vm_i z1] m1 _
  refine vm_gp [(.istore 3, 0, 0, []), (.aload 0, 0, 0, []), (.ldc2_w 0, 0, 0, [(525618, 0)])] (pc1 := 11) (ls1 := [some (vm_r 96), some (vm_i v1), some (vm_i v2), some (vm_i z1)]) (st1 := [vm_l 525618, vm_r 96]) (m1 := m1) (ob := true) (by decide +kernel) rfl rfl ?_
  refine vm_gc (g := 286) (na := 2) (av := [vm_r 96, vm_l 525618]) (rest := []) (i := (.invokevirtual 0, 286, 2, [])) (len := 3) (by decide +kernel) rfl rfl rfl (by decide +kernel) (by decide +kernel) rfl rfl (vm_u (vm_okh_v (c := 11) (by decide +kernel) (by decide +kernel)) (show vm_okn 286 2 0 0 0 3 = true by decide +kernel)) ?_
  refine vm_G.mono h ?_
  rintro _ m2 ⟨rfl, h⟩
  show vm_G 295 14 [some (vm_r 96), some (vm_i v1), some (vm_i v2), some (vm_i z1)] [] m2 _
  refine vm_gp [(.aload 0, 0, 0, []), (.iconst 32, 0, 0, [])] (pc1 := 17) (ls1 := [some (vm_r 96), some (vm_i v1), some (vm_i v2), some (vm_i z1)]) (st1 := [vm_i 32, vm_r 96]) (m1 := m2) (ob := true) (by decide +kernel) rfl rfl ?_
  refine vm_gc (g := 285) (na := 2) (av := [vm_r 96, vm_i 32]) (rest := []) (i := (.invokevirtual 0, 285, 2, [])) (len := 3) (by decide +kernel) rfl rfl rfl (by decide +kernel) (by decide +kernel) rfl rfl (vm_u (vm_okh_v (c := 11) (by decide +kernel) (by decide +kernel)) (show vm_okn 285 2 0 0 0 2 = true by decide +kernel)) ?_
  refine vm_G.mono h ?_
  rintro _ m3 ⟨rfl, h⟩
  show vm_G 295 20 [some (vm_r 96), some (vm_i v1), some (vm_i v2), some (vm_i z1)] [] m3 _
  obtain ⟨o4_0, h⟩ := h
  refine vm_gp [(.aload 0, 0, 0, []), (.iconst 97, 0, 0, []), (.iload 1, 0, 0, []), (.iadd, 0, 0, [])] (pc1 := 25) (ls1 := [some (vm_r 96), some (vm_i v1), some (vm_i v2), some (vm_i z1)]) (st1 := [vm_i (97 + v1), vm_r 96]) (m1 := m3) (ob := (true && decide (vm_32 (97 + v1)))) (by decide +kernel) rfl (vm_t rfl o4_0) ?_
  refine vm_gc (g := 285) (na := 2) (av := [vm_r 96, vm_i (97 + v1)]) (rest := []) (i := (.invokevirtual 0, 285, 2, [])) (len := 3) (by decide +kernel) rfl rfl rfl (by decide +kernel) (by decide +kernel) rfl rfl (vm_u (vm_okh_v (c := 11) (by decide +kernel) (by decide +kernel)) (show vm_okn 285 2 0 0 0 2 = true by decide +kernel)) ?_
  refine vm_G.mono h ?_
  rintro _ m4 ⟨rfl, h⟩
  show vm_G 295 28 [some (vm_r 96), some (vm_i v1), some (vm_i v2), some (vm_i z1)] [] m4 _
  refine vm_gp [(.aload 0, 0, 0, []), (.iconst 32, 0, 0, [])] (pc1 := 31) (ls1 := [some (vm_r 96), some (vm_i v1), some (vm_i v2), some (vm_i z1)]) (st1 := [vm_i 32, vm_r 96]) (m1 := m4) (ob := true) (by decide +kernel) rfl rfl ?_
  refine vm_gc (g := 285) (na := 2) (av := [vm_r 96, vm_i 32]) (rest := []) (i := (.invokevirtual 0, 285, 2, [])) (len := 3) (by decide +kernel) rfl rfl rfl (by decide +kernel) (by decide +kernel) rfl rfl (vm_u (vm_okh_v (c := 11) (by decide +kernel) (by decide +kernel)) (show vm_okn 285 2 0 0 0 2 = true by decide +kernel)) ?_
  refine vm_G.mono h ?_
  rintro _ m5 ⟨rfl, h⟩
  show vm_G 295 34 [some (vm_r 96), some (vm_i v1), some (vm_i v2), some (vm_i z1)] [] m5 _
  obtain ⟨o6_0, h⟩ := h
  refine vm_gp [(.aload 0, 0, 0, []), (.iconst 97, 0, 0, []), (.iload 2, 0, 0, []), (.iadd, 0, 0, [])] (pc1 := 39) (ls1 := [some (vm_r 96), some (vm_i v1), some (vm_i v2), some (vm_i z1)]) (st1 := [vm_i (97 + v2), vm_r 96]) (m1 := m5) (ob := (true && decide (vm_32 (97 + v2)))) (by decide +kernel) rfl (vm_t rfl o6_0) ?_
  refine vm_gc (g := 285) (na := 2) (av := [vm_r 96, vm_i (97 + v2)]) (rest := []) (i := (.invokevirtual 0, 285, 2, [])) (len := 3) (by decide +kernel) rfl rfl rfl (by decide +kernel) (by decide +kernel) rfl rfl (vm_u (vm_okh_v (c := 11) (by decide +kernel) (by decide +kernel)) (show vm_okn 285 2 0 0 0 2 = true by decide +kernel)) ?_
  refine vm_G.mono h ?_
  rintro _ m6 ⟨rfl, h⟩
  show vm_G 295 42 [some (vm_r 96), some (vm_i v1), some (vm_i v2), some (vm_i z1)] [] m6 _
  refine vm_gp [(.aload 0, 0, 0, []), (.iconst 32, 0, 0, [])] (pc1 := 45) (ls1 := [some (vm_r 96), some (vm_i v1), some (vm_i v2), some (vm_i z1)]) (st1 := [vm_i 32, vm_r 96]) (m1 := m6) (ob := true) (by decide +kernel) rfl rfl ?_
  refine vm_gc (g := 285) (na := 2) (av := [vm_r 96, vm_i 32]) (rest := []) (i := (.invokevirtual 0, 285, 2, [])) (len := 3) (by decide +kernel) rfl rfl rfl (by decide +kernel) (by decide +kernel) rfl rfl (vm_u (vm_okh_v (c := 11) (by decide +kernel) (by decide +kernel)) (show vm_okn 285 2 0 0 0 2 = true by decide +kernel)) ?_
  refine vm_G.mono h ?_
  rintro _ m7 ⟨rfl, h⟩
  show vm_G 295 48 [some (vm_r 96), some (vm_i v1), some (vm_i v2), some (vm_i z1)] [] m7 _
  refine vm_gp [(.aload 0, 0, 0, []), (.iload 3, 0, 0, [])] (pc1 := 50) (ls1 := [some (vm_r 96), some (vm_i v1), some (vm_i v2), some (vm_i z1)]) (st1 := [vm_i z1, vm_r 96]) (m1 := m7) (ob := true) (by decide +kernel) rfl rfl ?_
  refine vm_gj (c := 0 ≤ z1) (t := 59) (e := 53) (i := (.ifCond .ge 0, 59, 0, [])) (len := 3) (st1 := [vm_r 96]) (by decide +kernel) rfl rfl (fun c1 => ?_) (fun c1 => ?_)
  · replace h := h.1 c1
    refine vm_gp [(.ldc2_w 0, 0, 0, [(24416434, 0)]), (.iload 3, 0, 0, [])] (pc1 := 63) (ls1 := [some (vm_r 96), some (vm_i v1), some (vm_i v2), some (vm_i z1)]) (st1 := [vm_i z1, vm_l 24416434, vm_r 96]) (m1 := m7) (ob := true) (by decide +kernel) rfl rfl ?_
    refine vm_gj (c := 0 ≤ z1) (t := 71) (e := 66) (i := (.ifCond .ge 0, 71, 0, [])) (len := 3) (st1 := [vm_l 24416434, vm_r 96]) (by decide +kernel) rfl rfl (fun c2 => ?_) (fun c2 => ?_)
    · replace h := h.1 c2
      refine vm_gp [(.iload 3, 0, 0, []), (.iconst 59, 0, 0, [])] (pc1 := 74) (ls1 := [some (vm_r 96), some (vm_i v1), some (vm_i v2), some (vm_i z1)]) (st1 := [vm_i 59, vm_i z1, vm_l 24416434, vm_r 96]) (m1 := m7) (ob := true) (by decide +kernel) rfl rfl ?_
      refine vm_gc (g := 292) (na := 4) (av := [vm_r 96, vm_l 24416434, vm_i z1, vm_i 59]) (rest := []) (i := (.invokevirtual 0, 292, 4, [])) (len := 3) (by decide +kernel) rfl rfl rfl (by decide +kernel) (by decide +kernel) rfl rfl (vm_u (vm_okh_v (c := 11) (by decide +kernel) (by decide +kernel)) (show vm_okn 292 4 0 0 0 5 = true by decide +kernel)) ?_
      refine vm_G.mono h ?_
      rintro _ m8 ⟨rfl, h⟩
      show vm_G 295 77 [some (vm_r 96), some (vm_i v1), some (vm_i v2), some (vm_i z1)] [] m8 _
      exact vm_gr (r := none) (i := (.return_, 0, 0, [])) (len := 1) (by decide +kernel) rfl rfl rfl ⟨rfl, h⟩
    · replace h := h.2 c2
      obtain ⟨o12_0, h⟩ := h
      refine vm_gp [(.iload 3, 0, 0, []), (.ineg, 0, 0, []), (.goto 0, 72, 0, []), (.iconst 59, 0, 0, [])] (pc1 := 74) (ls1 := [some (vm_r 96), some (vm_i v1), some (vm_i v2), some (vm_i z1)]) (st1 := [vm_i 59, vm_i (-z1), vm_l 24416434, vm_r 96]) (m1 := m7) (ob := (true && decide (vm_32 (-z1)))) (by decide +kernel) rfl (vm_t rfl o12_0) ?_
      refine vm_gc (g := 292) (na := 4) (av := [vm_r 96, vm_l 24416434, vm_i (-z1), vm_i 59]) (rest := []) (i := (.invokevirtual 0, 292, 4, [])) (len := 3) (by decide +kernel) rfl rfl rfl (by decide +kernel) (by decide +kernel) rfl rfl (vm_u (vm_okh_v (c := 11) (by decide +kernel) (by decide +kernel)) (show vm_okn 292 4 0 0 0 5 = true by decide +kernel)) ?_
      refine vm_G.mono h ?_
      rintro _ m9 ⟨rfl, h⟩
      show vm_G 295 77 [some (vm_r 96), some (vm_i v1), some (vm_i v2), some (vm_i z1)] [] m9 _
      exact vm_gr (r := none) (i := (.return_, 0, 0, [])) (len := 1) (by decide +kernel) rfl rfl rfl ⟨rfl, h⟩
  · replace h := h.2 c1
    refine vm_gp [(.ldc2_w 0, 0, 0, [(113757362, 0)]), (.goto 0, 62, 0, []), (.iload 3, 0, 0, [])] (pc1 := 63) (ls1 := [some (vm_r 96), some (vm_i v1), some (vm_i v2), some (vm_i z1)]) (st1 := [vm_i z1, vm_l 113757362, vm_r 96]) (m1 := m7) (ob := true) (by decide +kernel) rfl rfl ?_
    refine vm_gj (c := 0 ≤ z1) (t := 71) (e := 66) (i := (.ifCond .ge 0, 71, 0, [])) (len := 3) (st1 := [vm_l 113757362, vm_r 96]) (by decide +kernel) rfl rfl (fun c3 => ?_) (fun c3 => ?_)
    · replace h := h.1 c3
      refine vm_gp [(.iload 3, 0, 0, []), (.iconst 59, 0, 0, [])] (pc1 := 74) (ls1 := [some (vm_r 96), some (vm_i v1), some (vm_i v2), some (vm_i z1)]) (st1 := [vm_i 59, vm_i z1, vm_l 113757362, vm_r 96]) (m1 := m7) (ob := true) (by decide +kernel) rfl rfl ?_
      refine vm_gc (g := 292) (na := 4) (av := [vm_r 96, vm_l 113757362, vm_i z1, vm_i 59]) (rest := []) (i := (.invokevirtual 0, 292, 4, [])) (len := 3) (by decide +kernel) rfl rfl rfl (by decide +kernel) (by decide +kernel) rfl rfl (vm_u (vm_okh_v (c := 11) (by decide +kernel) (by decide +kernel)) (show vm_okn 292 4 0 0 0 5 = true by decide +kernel)) ?_
      refine vm_G.mono h ?_
      rintro _ m10 ⟨rfl, h⟩
      show vm_G 295 77 [some (vm_r 96), some (vm_i v1), some (vm_i v2), some (vm_i z1)] [] m10 _
      exact vm_gr (r := none) (i := (.return_, 0, 0, [])) (len := 1) (by decide +kernel) rfl rfl rfl ⟨rfl, h⟩
    · replace h := h.2 c3
      obtain ⟨o17_0, h⟩ := h
      refine vm_gp [(.iload 3, 0, 0, []), (.ineg, 0, 0, []), (.goto 0, 72, 0, []), (.iconst 59, 0, 0, [])] (pc1 := 74) (ls1 := [some (vm_r 96), some (vm_i v1), some (vm_i v2), some (vm_i z1)]) (st1 := [vm_i 59, vm_i (-z1), vm_l 113757362, vm_r 96]) (m1 := m7) (ob := (true && decide (vm_32 (-z1)))) (by decide +kernel) rfl (vm_t rfl o17_0) ?_
      refine vm_gc (g := 292) (na := 4) (av := [vm_r 96, vm_l 113757362, vm_i (-z1), vm_i 59]) (rest := []) (i := (.invokevirtual 0, 292, 4, [])) (len := 3) (by decide +kernel) rfl rfl rfl (by decide +kernel) (by decide +kernel) rfl rfl (vm_u (vm_okh_v (c := 11) (by decide +kernel) (by decide +kernel)) (show vm_okn 292 4 0 0 0 5 = true by decide +kernel)) ?_
      refine vm_G.mono h ?_
      rintro _ m11 ⟨rfl, h⟩
      show vm_G 295 77 [some (vm_r 96), some (vm_i v1), some (vm_i v2), some (vm_i z1)] [] m11 _
      exact vm_gr (r := none) (i := (.return_, 0, 0, [])) (len := 1) (by decide +kernel) rfl rfl rfl ⟨rfl, h⟩
abbrev ku11_saysBoard_0  (m : vm_M) (Q : vm_M → Prop) : Prop := vm_G 296 0 [some (vm_r 96)] [] m (vm_qv Q)
set_option maxRecDepth 20000 in
theorem ru11_saysBoard_0  {m : vm_M} {Q : vm_M → Prop}  (h :
    (vm_C 292 [vm_r 96, vm_l 2590276, vm_i (m 100 0), vm_i 32] m (vm_qv (fun m1 =>
      (vm_C 287 [vm_r 96, vm_i (m1 100 1)] m1 (vm_qv (fun m2 =>
        (vm_C 285 [vm_r 96, vm_i 32] m2 (vm_qv (fun m3 =>
          (vm_C 292 [vm_r 96, vm_l 398372, vm_i (m3 100 2), vm_i 32] m3 (vm_qv (fun m4 =>
            (vm_C 292 [vm_r 96, vm_l 3120, vm_i (m4 96 3), vm_i 32] m4 (vm_qv (fun m5 =>
              (vm_C 292 [vm_r 96, vm_l 7216, vm_i (m5 100 3), vm_i 32] m5 (vm_qv (fun m6 =>
                (vm_C 292 [vm_r 96, vm_l 769604, vm_i (m6 100 4), vm_i 32] m6 (vm_qv (fun m7 =>
                  (vm_C 292 [vm_r 96, vm_l 632645, vm_i (m7 100 5), vm_i 59] m7 (vm_qv (fun m8 =>
                    Q m8))))))))))))))))))))))))) : vm_C 296 [vm_r 96] m (vm_qv Q) := by
  show vm_G 296 0 [some (vm_r 96)] [] m (vm_qv Q)
  refine vm_gp [(.aload 0, 0, 0, []), (.ldc2_w 0, 0, 0, [(2590276, 0)]), (.aload 0, 0, 0, []), (.getfield 2, 11, 7, [(100, 0)]), (.iconst 0, 0, 0, []), (.iaload, 1075, 0, []), (.iconst 32, 0, 0, [])] (pc1 := 12) (ls1 := [some (vm_r 96)]) (st1 := [vm_i 32, vm_i (m 100 0), vm_l 2590276, vm_r 96]) (m1 := m) (ob := ((((true && vm_is 96 11) && true) && vm_ar 100 100 1075) && decide ((0 : Int) ≤ 0 ∧ (0 : Int) < 1075))) (by decide +kernel) rfl (vm_t (vm_u (vm_u (vm_u rfl (by decide +kernel)) rfl) (by decide +kernel)) (by decide)) ?_
  refine vm_gc (g := 292) (na := 4) (av := [vm_r 96, vm_l 2590276, vm_i (m 100 0), vm_i 32]) (rest := []) (i := (.invokevirtual 0, 292, 4, [])) (len := 3) (by decide +kernel) rfl rfl rfl (by decide +kernel) (by decide +kernel) rfl rfl (vm_u (vm_okh_v (c := 11) (by decide +kernel) (by decide +kernel)) (show vm_okn 292 4 0 0 0 5 = true by decide +kernel)) ?_
  refine vm_G.mono h ?_
  rintro _ m1 ⟨rfl, h⟩
  show vm_G 296 15 [some (vm_r 96)] [] m1 _
  refine vm_gp [(.aload 0, 0, 0, []), (.aload 0, 0, 0, []), (.getfield 2, 11, 7, [(100, 0)]), (.iconst 1, 0, 0, []), (.iaload, 1075, 0, [])] (pc1 := 22) (ls1 := [some (vm_r 96)]) (st1 := [vm_i (m1 100 1), vm_r 96]) (m1 := m1) (ob := ((((true && vm_is 96 11) && true) && vm_ar 100 100 1075) && decide ((0 : Int) ≤ 1 ∧ (1 : Int) < 1075))) (by decide +kernel) rfl (vm_t (vm_u (vm_u (vm_u rfl (by decide +kernel)) rfl) (by decide +kernel)) (by decide)) ?_
  refine vm_gc (g := 287) (na := 2) (av := [vm_r 96, vm_i (m1 100 1)]) (rest := []) (i := (.invokevirtual 0, 287, 2, [])) (len := 3) (by decide +kernel) rfl rfl rfl (by decide +kernel) (by decide +kernel) rfl rfl (vm_u (vm_okh_v (c := 11) (by decide +kernel) (by decide +kernel)) (show vm_okn 287 2 0 0 0 2 = true by decide +kernel)) ?_
  refine vm_G.mono h ?_
  rintro _ m2 ⟨rfl, h⟩
  show vm_G 296 25 [some (vm_r 96)] [] m2 _
  refine vm_gp [(.aload 0, 0, 0, []), (.iconst 32, 0, 0, [])] (pc1 := 28) (ls1 := [some (vm_r 96)]) (st1 := [vm_i 32, vm_r 96]) (m1 := m2) (ob := true) (by decide +kernel) rfl rfl ?_
  refine vm_gc (g := 285) (na := 2) (av := [vm_r 96, vm_i 32]) (rest := []) (i := (.invokevirtual 0, 285, 2, [])) (len := 3) (by decide +kernel) rfl rfl rfl (by decide +kernel) (by decide +kernel) rfl rfl (vm_u (vm_okh_v (c := 11) (by decide +kernel) (by decide +kernel)) (show vm_okn 285 2 0 0 0 2 = true by decide +kernel)) ?_
  refine vm_G.mono h ?_
  rintro _ m3 ⟨rfl, h⟩
  show vm_G 296 31 [some (vm_r 96)] [] m3 _
  refine vm_gp [(.aload 0, 0, 0, []), (.ldc2_w 0, 0, 0, [(398372, 0)]), (.aload 0, 0, 0, []), (.getfield 2, 11, 7, [(100, 0)]), (.iconst 2, 0, 0, []), (.iaload, 1075, 0, []), (.iconst 32, 0, 0, [])] (pc1 := 43) (ls1 := [some (vm_r 96)]) (st1 := [vm_i 32, vm_i (m3 100 2), vm_l 398372, vm_r 96]) (m1 := m3) (ob := ((((true && vm_is 96 11) && true) && vm_ar 100 100 1075) && decide ((0 : Int) ≤ 2 ∧ (2 : Int) < 1075))) (by decide +kernel) rfl (vm_t (vm_u (vm_u (vm_u rfl (by decide +kernel)) rfl) (by decide +kernel)) (by decide)) ?_
  refine vm_gc (g := 292) (na := 4) (av := [vm_r 96, vm_l 398372, vm_i (m3 100 2), vm_i 32]) (rest := []) (i := (.invokevirtual 0, 292, 4, [])) (len := 3) (by decide +kernel) rfl rfl rfl (by decide +kernel) (by decide +kernel) rfl rfl (vm_u (vm_okh_v (c := 11) (by decide +kernel) (by decide +kernel)) (show vm_okn 292 4 0 0 0 5 = true by decide +kernel)) ?_
  refine vm_G.mono h ?_
  rintro _ m4 ⟨rfl, h⟩
  show vm_G 296 46 [some (vm_r 96)] [] m4 _
  refine vm_gp [(.aload 0, 0, 0, []), (.ldc2_w 0, 0, 0, [(3120, 0)]), (.aload 0, 0, 0, []), (.getfield 0, 11, 3, []), (.iconst 32, 0, 0, [])] (pc1 := 56) (ls1 := [some (vm_r 96)]) (st1 := [vm_i 32, vm_i (m4 96 3), vm_l 3120, vm_r 96]) (m1 := m4) (ob := (true && vm_is 96 11)) (by decide +kernel) rfl (vm_u rfl (by decide +kernel)) ?_
  refine vm_gc (g := 292) (na := 4) (av := [vm_r 96, vm_l 3120, vm_i (m4 96 3), vm_i 32]) (rest := []) (i := (.invokevirtual 0, 292, 4, [])) (len := 3) (by decide +kernel) rfl rfl rfl (by decide +kernel) (by decide +kernel) rfl rfl (vm_u (vm_okh_v (c := 11) (by decide +kernel) (by decide +kernel)) (show vm_okn 292 4 0 0 0 5 = true by decide +kernel)) ?_
  refine vm_G.mono h ?_
  rintro _ m5 ⟨rfl, h⟩
  show vm_G 296 59 [some (vm_r 96)] [] m5 _
  refine vm_gp [(.aload 0, 0, 0, []), (.ldc2_w 0, 0, 0, [(7216, 0)]), (.aload 0, 0, 0, []), (.getfield 2, 11, 7, [(100, 0)]), (.iconst 3, 0, 0, []), (.iaload, 1075, 0, []), (.iconst 32, 0, 0, [])] (pc1 := 71) (ls1 := [some (vm_r 96)]) (st1 := [vm_i 32, vm_i (m5 100 3), vm_l 7216, vm_r 96]) (m1 := m5) (ob := ((((true && vm_is 96 11) && true) && vm_ar 100 100 1075) && decide ((0 : Int) ≤ 3 ∧ (3 : Int) < 1075))) (by decide +kernel) rfl (vm_t (vm_u (vm_u (vm_u rfl (by decide +kernel)) rfl) (by decide +kernel)) (by decide)) ?_
  refine vm_gc (g := 292) (na := 4) (av := [vm_r 96, vm_l 7216, vm_i (m5 100 3), vm_i 32]) (rest := []) (i := (.invokevirtual 0, 292, 4, [])) (len := 3) (by decide +kernel) rfl rfl rfl (by decide +kernel) (by decide +kernel) rfl rfl (vm_u (vm_okh_v (c := 11) (by decide +kernel) (by decide +kernel)) (show vm_okn 292 4 0 0 0 5 = true by decide +kernel)) ?_
  refine vm_G.mono h ?_
  rintro _ m6 ⟨rfl, h⟩
  show vm_G 296 74 [some (vm_r 96)] [] m6 _
  refine vm_gp [(.aload 0, 0, 0, []), (.ldc2_w 0, 0, 0, [(769604, 0)]), (.aload 0, 0, 0, []), (.getfield 2, 11, 7, [(100, 0)]), (.iconst 4, 0, 0, []), (.iaload, 1075, 0, []), (.iconst 32, 0, 0, [])] (pc1 := 86) (ls1 := [some (vm_r 96)]) (st1 := [vm_i 32, vm_i (m6 100 4), vm_l 769604, vm_r 96]) (m1 := m6) (ob := ((((true && vm_is 96 11) && true) && vm_ar 100 100 1075) && decide ((0 : Int) ≤ 4 ∧ (4 : Int) < 1075))) (by decide +kernel) rfl (vm_t (vm_u (vm_u (vm_u rfl (by decide +kernel)) rfl) (by decide +kernel)) (by decide)) ?_
  refine vm_gc (g := 292) (na := 4) (av := [vm_r 96, vm_l 769604, vm_i (m6 100 4), vm_i 32]) (rest := []) (i := (.invokevirtual 0, 292, 4, [])) (len := 3) (by decide +kernel) rfl rfl rfl (by decide +kernel) (by decide +kernel) rfl rfl (vm_u (vm_okh_v (c := 11) (by decide +kernel) (by decide +kernel)) (show vm_okn 292 4 0 0 0 5 = true by decide +kernel)) ?_
  refine vm_G.mono h ?_
  rintro _ m7 ⟨rfl, h⟩
  show vm_G 296 89 [some (vm_r 96)] [] m7 _
  refine vm_gp [(.aload 0, 0, 0, []), (.ldc2_w 0, 0, 0, [(632645, 0)]), (.aload 0, 0, 0, []), (.getfield 2, 11, 7, [(100, 0)]), (.iconst 5, 0, 0, []), (.iaload, 1075, 0, []), (.iconst 59, 0, 0, [])] (pc1 := 101) (ls1 := [some (vm_r 96)]) (st1 := [vm_i 59, vm_i (m7 100 5), vm_l 632645, vm_r 96]) (m1 := m7) (ob := ((((true && vm_is 96 11) && true) && vm_ar 100 100 1075) && decide ((0 : Int) ≤ 5 ∧ (5 : Int) < 1075))) (by decide +kernel) rfl (vm_t (vm_u (vm_u (vm_u rfl (by decide +kernel)) rfl) (by decide +kernel)) (by decide)) ?_
  refine vm_gc (g := 292) (na := 4) (av := [vm_r 96, vm_l 632645, vm_i (m7 100 5), vm_i 59]) (rest := []) (i := (.invokevirtual 0, 292, 4, [])) (len := 3) (by decide +kernel) rfl rfl rfl (by decide +kernel) (by decide +kernel) rfl rfl (vm_u (vm_okh_v (c := 11) (by decide +kernel) (by decide +kernel)) (show vm_okn 292 4 0 0 0 5 = true by decide +kernel)) ?_
  refine vm_G.mono h ?_
  rintro _ m8 ⟨rfl, h⟩
  show vm_G 296 104 [some (vm_r 96)] [] m8 _
  exact vm_gr (r := none) (i := (.return_, 0, 0, [])) (len := 1) (by decide +kernel) rfl rfl rfl ⟨rfl, h⟩
abbrev ku11_saysSetup_0 (v1 : Int) (m : vm_M) (Q : vm_M → Prop) : Prop := vm_G 297 0 [some (vm_r 96), some (vm_i v1), none] [] m (vm_qv Q)
abbrev ku11_saysSetup_11 (v1 : Int) (v2 : Int) (m : vm_M) (Q : vm_M → Prop) : Prop := vm_G 297 11 [some (vm_r 96), some (vm_i v1), some (vm_i v2)] [] m (vm_qv Q)
abbrev ku11_saysSetup_38 (v1 : Int) (v2 : Int) (m : vm_M) (Q : vm_M → Prop) : Prop := vm_G 297 38 [some (vm_r 96), some (vm_i v1), some (vm_i v2)] [] m (vm_qv Q)
set_option maxRecDepth 20000 in
theorem ru11_saysSetup_0 {v1 : Int} {m : vm_M} {Q : vm_M → Prop}  (h :
    (vm_C 284 [vm_r 96, vm_i v1] m (vm_qv (fun m1 =>
      (vm_C 296 [vm_r 96] m1 (vm_qv (fun m2 =>
        ku11_saysSetup_11 v1 0 m2 Q))))))) : vm_C 297 [vm_r 96, vm_i v1] m (vm_qv Q) := by
  show vm_G 297 0 [some (vm_r 96), some (vm_i v1), none] [] m (vm_qv Q)
  refine vm_gp [(.aload 0, 0, 0, []), (.iload 1, 0, 0, [])] (pc1 := 2) (ls1 := [some (vm_r 96), some (vm_i v1), none]) (st1 := [vm_i v1, vm_r 96]) (m1 := m) (ob := true) (by decide +kernel) rfl rfl ?_
  refine vm_gc (g := 284) (na := 2) (av := [vm_r 96, vm_i v1]) (rest := []) (i := (.invokevirtual 0, 284, 2, [])) (len := 3) (by decide +kernel) rfl rfl rfl (by decide +kernel) (by decide +kernel) rfl rfl (vm_u (vm_okh_v (c := 11) (by decide +kernel) (by decide +kernel)) (show vm_okn 284 2 0 0 0 2 = true by decide +kernel)) ?_
  refine vm_G.mono h ?_
  rintro _ m1 ⟨rfl, h⟩
  show vm_G 297 5 [some (vm_r 96), some (vm_i v1), none] [] m1 _
  refine vm_gp [(.aload 0, 0, 0, [])] (pc1 := 6) (ls1 := [some (vm_r 96), some (vm_i v1), none]) (st1 := [vm_r 96]) (m1 := m1) (ob := true) (by decide +kernel) rfl rfl ?_
  refine vm_gc (g := 296) (na := 1) (av := [vm_r 96]) (rest := []) (i := (.invokevirtual 0, 296, 1, [])) (len := 3) (by decide +kernel) rfl rfl rfl (by decide +kernel) (by decide +kernel) rfl rfl (vm_u (vm_okh_v (c := 11) (by decide +kernel) (by decide +kernel)) (show vm_okn 296 1 0 0 0 1 = true by decide +kernel)) ?_
  refine vm_G.mono h ?_
  rintro _ m2 ⟨rfl, h⟩
  show vm_G 297 9 [some (vm_r 96), some (vm_i v1), none] [] m2 _
  refine vm_gp [(.iconst 0, 0, 0, []), (.istore 2, 0, 0, [])] (pc1 := 11) (ls1 := [some (vm_r 96), some (vm_i v1), some (vm_i 0)]) (st1 := []) (m1 := m2) (ob := true) (by decide +kernel) rfl rfl ?_
  exact h
set_option maxRecDepth 20000 in
theorem ru11_saysSetup_11 {v1 : Int} {v2 : Int} {m : vm_M} {Q : vm_M → Prop}  (h :
    ((26 ≤ v2 →
      ku11_saysSetup_38 v1 0 m Q) ∧ (¬ 26 ≤ v2 →
      (vm_C 165 [vm_r 96, vm_i v2] m (vm_qi (fun z1 m1 =>
        ((z1 = 0 →
          ((vm_32 (v2 + 1))) ∧
          ku11_saysSetup_11 v1 (v2 + 1) m1 Q) ∧ (¬ z1 = 0 →
          (vm_C 294 [vm_r 96, vm_i v2] m1 (vm_qv (fun m2 =>
            ((vm_32 (v2 + 1))) ∧
            ku11_saysSetup_11 v1 (v2 + 1) m2 Q))))))))))) : ku11_saysSetup_11 v1 v2 m Q := by
  show vm_G 297 11 [some (vm_r 96), some (vm_i v1), some (vm_i v2)] [] m (vm_qv Q)
  refine vm_gp [(.iload 2, 0, 0, []), (.iconst 26, 0, 0, [])] (pc1 := 14) (ls1 := [some (vm_r 96), some (vm_i v1), some (vm_i v2)]) (st1 := [vm_i 26, vm_i v2]) (m1 := m) (ob := true) (by decide +kernel) rfl rfl ?_
  refine vm_gj (c := 26 ≤ v2) (t := 36) (e := 17) (i := (.if_icmp .ge 0, 36, 0, [])) (len := 3) (st1 := []) (by decide +kernel) rfl rfl (fun c1 => ?_) (fun c1 => ?_)
  · replace h := h.1 c1
    refine vm_gp [(.iconst 0, 0, 0, []), (.istore 2, 0, 0, [])] (pc1 := 38) (ls1 := [some (vm_r 96), some (vm_i v1), some (vm_i 0)]) (st1 := []) (m1 := m) (ob := true) (by decide +kernel) rfl rfl ?_
    exact h
  · replace h := h.2 c1
    refine vm_gp [(.aload 0, 0, 0, []), (.iload 2, 0, 0, [])] (pc1 := 19) (ls1 := [some (vm_r 96), some (vm_i v1), some (vm_i v2)]) (st1 := [vm_i v2, vm_r 96]) (m1 := m) (ob := true) (by decide +kernel) rfl rfl ?_
    refine vm_gc (g := 165) (na := 2) (av := [vm_r 96, vm_i v2]) (rest := []) (i := (.invokevirtual 0, 165, 2, [])) (len := 3) (by decide +kernel) rfl rfl rfl (by decide +kernel) (by decide +kernel) rfl rfl (vm_u (vm_okh_v (c := 11) (by decide +kernel) (by decide +kernel)) (show vm_okn 165 2 0 0 0 2 = true by decide +kernel)) ?_
    refine vm_G.mono h ?_
    rintro _ m1 ⟨z1, rfl, h⟩
    show vm_G 297 22 [some (vm_r 96), some (vm_i v1), some (vm_i v2)] [vm_i z1] m1 _
    refine vm_gj (c := z1 = 0) (t := 30) (e := 25) (i := (.ifCond .eq 0, 30, 0, [])) (len := 3) (st1 := []) (by decide +kernel) rfl rfl (fun c2 => ?_) (fun c2 => ?_)
    · replace h := h.1 c2
      obtain ⟨o5_0, h⟩ := h
      refine vm_gp [(.iinc 2 1, 0, 0, []), (.goto 0, 11, 0, [])] (pc1 := 11) (ls1 := [some (vm_r 96), some (vm_i v1), some (vm_i (v2 + 1))]) (st1 := []) (m1 := m1) (ob := (true && decide (vm_32 (v2 + 1)))) (by decide +kernel) rfl (vm_t rfl o5_0) ?_
      exact h
    · replace h := h.2 c2
      refine vm_gp [(.aload 0, 0, 0, []), (.iload 2, 0, 0, [])] (pc1 := 27) (ls1 := [some (vm_r 96), some (vm_i v1), some (vm_i v2)]) (st1 := [vm_i v2, vm_r 96]) (m1 := m1) (ob := true) (by decide +kernel) rfl rfl ?_
      refine vm_gc (g := 294) (na := 2) (av := [vm_r 96, vm_i v2]) (rest := []) (i := (.invokevirtual 0, 294, 2, [])) (len := 3) (by decide +kernel) rfl rfl rfl (by decide +kernel) (by decide +kernel) rfl rfl (vm_u (vm_okh_v (c := 11) (by decide +kernel) (by decide +kernel)) (show vm_okn 294 2 0 0 0 2 = true by decide +kernel)) ?_
      refine vm_G.mono h ?_
      rintro _ m2 ⟨rfl, h⟩
      show vm_G 297 30 [some (vm_r 96), some (vm_i v1), some (vm_i v2)] [] m2 _
      obtain ⟨o7_0, h⟩ := h
      refine vm_gp [(.iinc 2 1, 0, 0, []), (.goto 0, 11, 0, [])] (pc1 := 11) (ls1 := [some (vm_r 96), some (vm_i v1), some (vm_i (v2 + 1))]) (st1 := []) (m1 := m2) (ob := (true && decide (vm_32 (v2 + 1)))) (by decide +kernel) rfl (vm_t rfl o7_0) ?_
      exact h
set_option maxRecDepth 20000 in
theorem ru11_saysSetup_38 {v1 : Int} {v2 : Int} {m : vm_M} {Q : vm_M → Prop}  (h :
    ((676 ≤ v2 →
      Q m) ∧ (¬ 676 ≤ v2 →
      ((vm_32 (9 + v2)) ∧ (0 ≤ (9 + v2) ∧ (9 + v2) < 1075)) ∧
      (((m 100 (9 + v2)) = 0 →
        ((vm_32 (v2 + 1))) ∧
        ku11_saysSetup_38 v1 (v2 + 1) m Q) ∧ (¬ (m 100 (9 + v2)) = 0 →
        ((0 ≤ v2 ∧ (0 : Int) < 26) ∧ (0 ≤ v2 ∧ (0 : Int) < 26)) ∧
        (vm_C 295 [vm_r 96, vm_i (v2 / 26), vm_i (v2 % 26)] m (vm_qv (fun m1 =>
          ((vm_32 (v2 + 1))) ∧
          ku11_saysSetup_38 v1 (v2 + 1) m1 Q)))))))) : ku11_saysSetup_38 v1 v2 m Q := by
  show vm_G 297 38 [some (vm_r 96), some (vm_i v1), some (vm_i v2)] [] m (vm_qv Q)
  refine vm_gp [(.iload 2, 0, 0, []), (.iconst 676, 0, 0, [])] (pc1 := 42) (ls1 := [some (vm_r 96), some (vm_i v1), some (vm_i v2)]) (st1 := [vm_i 676, vm_i v2]) (m1 := m) (ob := true) (by decide +kernel) rfl rfl ?_
  refine vm_gj (c := 676 ≤ v2) (t := 75) (e := 45) (i := (.if_icmp .ge 0, 75, 0, [])) (len := 3) (st1 := []) (by decide +kernel) rfl rfl (fun c1 => ?_) (fun c1 => ?_)
  · replace h := h.1 c1
    exact vm_gr (r := none) (i := (.return_, 0, 0, [])) (len := 1) (by decide +kernel) rfl rfl rfl ⟨rfl, h⟩
  · replace h := h.2 c1
    obtain ⟨⟨o3_0, o3_1⟩, h⟩ := h
    refine vm_gp [(.aload 0, 0, 0, []), (.getfield 2, 11, 7, [(100, 0)]), (.iconst 9, 0, 0, []), (.iload 2, 0, 0, []), (.iadd, 0, 0, []), (.iaload, 1075, 0, [])] (pc1 := 54) (ls1 := [some (vm_r 96), some (vm_i v1), some (vm_i v2)]) (st1 := [vm_i (m 100 (9 + v2))]) (m1 := m) (ob := (((((true && vm_is 96 11) && true) && decide (vm_32 (9 + v2))) && vm_ar 100 100 1075) && decide (0 ≤ (9 + v2) ∧ (9 + v2) < 1075))) (by decide +kernel) rfl (vm_t (vm_u (vm_t (vm_u (vm_u rfl (by decide +kernel)) rfl) o3_0) (by decide +kernel)) o3_1) ?_
    refine vm_gj (c := (m 100 (9 + v2)) = 0) (t := 69) (e := 57) (i := (.ifCond .eq 0, 69, 0, [])) (len := 3) (st1 := []) (by decide +kernel) rfl rfl (fun c2 => ?_) (fun c2 => ?_)
    · replace h := h.1 c2
      obtain ⟨o4_0, h⟩ := h
      refine vm_gp [(.iinc 2 1, 0, 0, []), (.goto 0, 38, 0, [])] (pc1 := 38) (ls1 := [some (vm_r 96), some (vm_i v1), some (vm_i (v2 + 1))]) (st1 := []) (m1 := m) (ob := (true && decide (vm_32 (v2 + 1)))) (by decide +kernel) rfl (vm_t rfl o4_0) ?_
      exact h
    · replace h := h.2 c2
      obtain ⟨⟨o5_0, o5_1⟩, h⟩ := h
      refine vm_gp [(.aload 0, 0, 0, []), (.iload 2, 0, 0, []), (.iconst 26, 0, 0, []), (.idiv, 0, 0, []), (.iload 2, 0, 0, []), (.iconst 26, 0, 0, []), (.irem, 0, 0, [])] (pc1 := 66) (ls1 := [some (vm_r 96), some (vm_i v1), some (vm_i v2)]) (st1 := [vm_i (v2 % 26), vm_i (v2 / 26), vm_r 96]) (m1 := m) (ob := ((true && decide (0 ≤ v2 ∧ (0 : Int) < 26)) && decide (0 ≤ v2 ∧ (0 : Int) < 26))) (by decide +kernel) rfl (vm_t (vm_t rfl o5_0) o5_1) ?_
      refine vm_gc (g := 295) (na := 3) (av := [vm_r 96, vm_i (v2 / 26), vm_i (v2 % 26)]) (rest := []) (i := (.invokevirtual 0, 295, 3, [])) (len := 3) (by decide +kernel) rfl rfl rfl (by decide +kernel) (by decide +kernel) rfl rfl (vm_u (vm_okh_v (c := 11) (by decide +kernel) (by decide +kernel)) (show vm_okn 295 3 0 0 0 3 = true by decide +kernel)) ?_
      refine vm_G.mono h ?_
      rintro _ m1 ⟨rfl, h⟩
      show vm_G 297 69 [some (vm_r 96), some (vm_i v1), some (vm_i v2)] [] m1 _
      obtain ⟨o6_0, h⟩ := h
      refine vm_gp [(.iinc 2 1, 0, 0, []), (.goto 0, 38, 0, [])] (pc1 := 38) (ls1 := [some (vm_r 96), some (vm_i v1), some (vm_i (v2 + 1))]) (st1 := []) (m1 := m1) (ob := (true && decide (vm_32 (v2 + 1)))) (by decide +kernel) rfl (vm_t rfl o6_0) ?_
      exact h
abbrev ku11_setupLength_0  (m : vm_M) (Q : Int → vm_M → Prop) : Prop := vm_G 298 0 [some (vm_r 96)] [] m (vm_qi Q)
set_option maxRecDepth 20000 in
theorem ru11_setupLength_0  {m : vm_M} {Q : Int → vm_M → Prop}  (h :
    (vm_C 297 [vm_r 96, vm_i (-1)] m (vm_qv (fun m1 =>
      Q (m1 96 41) m1)))) : vm_C 298 [vm_r 96] m (vm_qi Q) := by
  show vm_G 298 0 [some (vm_r 96)] [] m (vm_qi Q)
  refine vm_gp [(.aload 0, 0, 0, []), (.iconst (-1), 0, 0, [])] (pc1 := 2) (ls1 := [some (vm_r 96)]) (st1 := [vm_i (-1), vm_r 96]) (m1 := m) (ob := true) (by decide +kernel) rfl rfl ?_
  refine vm_gc (g := 297) (na := 2) (av := [vm_r 96, vm_i (-1)]) (rest := []) (i := (.invokevirtual 0, 297, 2, [])) (len := 3) (by decide +kernel) rfl rfl rfl (by decide +kernel) (by decide +kernel) rfl rfl (vm_u (vm_okh_v (c := 11) (by decide +kernel) (by decide +kernel)) (show vm_okn 297 2 0 0 0 2 = true by decide +kernel)) ?_
  refine vm_G.mono h ?_
  rintro _ m1 ⟨rfl, h⟩
  show vm_G 298 5 [some (vm_r 96)] [] m1 _
  refine vm_gp [(.aload 0, 0, 0, []), (.getfield 0, 11, 41, [])] (pc1 := 9) (ls1 := [some (vm_r 96)]) (st1 := [vm_i (m1 96 41)]) (m1 := m1) (ob := (true && vm_is 96 11)) (by decide +kernel) rfl (vm_u rfl (by decide +kernel)) ?_
  exact vm_gr (r := some (vm_i (m1 96 41))) (i := (.ireturn, 1, 0, [])) (len := 1) (by decide +kernel) rfl rfl rfl ⟨_, rfl, h⟩
abbrev ku11_setupByte_0 (v1 : Int) (m : vm_M) (Q : Int → vm_M → Prop) : Prop := vm_G 299 0 [some (vm_r 96), some (vm_i v1)] [] m (vm_qi Q)
set_option maxRecDepth 20000 in
theorem ru11_setupByte_0 {v1 : Int} {m : vm_M} {Q : Int → vm_M → Prop}  (h :
    ((0 ≤ v1 →
      (vm_C 297 [vm_r 96, vm_i v1] m (vm_qv (fun m1 =>
        Q (m1 96 43) m1)))) ∧ (¬ 0 ≤ v1 →
      Q (-1) m))) : vm_C 299 [vm_r 96, vm_i v1] m (vm_qi Q) := by
  show vm_G 299 0 [some (vm_r 96), some (vm_i v1)] [] m (vm_qi Q)
  refine vm_gp [(.iload 1, 0, 0, [])] (pc1 := 1) (ls1 := [some (vm_r 96), some (vm_i v1)]) (st1 := [vm_i v1]) (m1 := m) (ob := true) (by decide +kernel) rfl rfl ?_
  refine vm_gj (c := 0 ≤ v1) (t := 6) (e := 4) (i := (.ifCond .ge 0, 6, 0, [])) (len := 3) (st1 := []) (by decide +kernel) rfl rfl (fun c1 => ?_) (fun c1 => ?_)
  · replace h := h.1 c1
    refine vm_gp [(.aload 0, 0, 0, []), (.iload 1, 0, 0, [])] (pc1 := 8) (ls1 := [some (vm_r 96), some (vm_i v1)]) (st1 := [vm_i v1, vm_r 96]) (m1 := m) (ob := true) (by decide +kernel) rfl rfl ?_
    refine vm_gc (g := 297) (na := 2) (av := [vm_r 96, vm_i v1]) (rest := []) (i := (.invokevirtual 0, 297, 2, [])) (len := 3) (by decide +kernel) rfl rfl rfl (by decide +kernel) (by decide +kernel) rfl rfl (vm_u (vm_okh_v (c := 11) (by decide +kernel) (by decide +kernel)) (show vm_okn 297 2 0 0 0 2 = true by decide +kernel)) ?_
    refine vm_G.mono h ?_
    rintro _ m1 ⟨rfl, h⟩
    show vm_G 299 11 [some (vm_r 96), some (vm_i v1)] [] m1 _
    refine vm_gp [(.aload 0, 0, 0, []), (.getfield 0, 11, 43, [])] (pc1 := 15) (ls1 := [some (vm_r 96), some (vm_i v1)]) (st1 := [vm_i (m1 96 43)]) (m1 := m1) (ob := (true && vm_is 96 11)) (by decide +kernel) rfl (vm_u rfl (by decide +kernel)) ?_
    exact vm_gr (r := some (vm_i (m1 96 43))) (i := (.ireturn, 1, 0, [])) (len := 1) (by decide +kernel) rfl rfl rfl ⟨_, rfl, h⟩
  · replace h := h.2 c1
    refine vm_gp [(.iconst (-1), 0, 0, [])] (pc1 := 5) (ls1 := [some (vm_r 96), some (vm_i v1)]) (st1 := [vm_i (-1)]) (m1 := m) (ob := true) (by decide +kernel) rfl rfl ?_
    exact vm_gr (r := some (vm_i (-1))) (i := (.ireturn, 1, 0, [])) (len := 1) (by decide +kernel) rfl rfl rfl ⟨_, rfl, h⟩
abbrev ku11_tapeLength_0  (m : vm_M) (Q : Int → vm_M → Prop) : Prop := vm_G 300 0 [some (vm_r 96)] [] m (vm_qi Q)
set_option maxRecDepth 20000 in
theorem ru11_tapeLength_0  {m : vm_M} {Q : Int → vm_M → Prop}  (h :
    Q (m 96 1) m) : vm_C 300 [vm_r 96] m (vm_qi Q) := by
  show vm_G 300 0 [some (vm_r 96)] [] m (vm_qi Q)
  refine vm_gp [(.aload 0, 0, 0, []), (.getfield 0, 11, 1, [])] (pc1 := 4) (ls1 := [some (vm_r 96)]) (st1 := [vm_i (m 96 1)]) (m1 := m) (ob := (true && vm_is 96 11)) (by decide +kernel) rfl (vm_u rfl (by decide +kernel)) ?_
  exact vm_gr (r := some (vm_i (m 96 1))) (i := (.ireturn, 1, 0, [])) (len := 1) (by decide +kernel) rfl rfl rfl ⟨_, rfl, h⟩
