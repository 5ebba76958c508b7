/-! ===== rules (printed): what must hold so that a method, begun at a cut, comes to a good end ===== -/
abbrev ku11_in_0 (v0 : Int) (v2 : Int) (v4 : Int) (m : vm_M) (Q : Int → vm_M → Prop) : Prop := vm_G 164 0 [some (vm_l v0), none, some (vm_l v2), none, some (vm_l v4), none] [] m (vm_qi Q)
set_option maxRecDepth 20000 in
theorem ru11_in_0 {v0 : Int} {v2 : Int} {v4 : Int} {m : vm_M} {Q : Int → vm_M → Prop}  (h :
    (((if v0 < v2 then -1 else if v0 = v2 then 0 else 1) < 0 →
      Q 0 m) ∧ (¬ (if v0 < v2 then -1 else if v0 = v2 then 0 else 1) < 0 →
      ((0 < (if v0 < v4 then -1 else if v0 = v4 then 0 else 1) →
        Q 0 m) ∧ (¬ 0 < (if v0 < v4 then -1 else if v0 = v4 then 0 else 1) →
        Q 1 m))))) : vm_C 164 [vm_l v0, vm_l v2, vm_l v4] m (vm_qi Q) := by
  show vm_G 164 0 [some (vm_l v0), none, some (vm_l v2), none, some (vm_l v4), none] [] m (vm_qi Q)
  refine vm_gp [(.lload 0, 0, 0, []), (.lload 2, 0, 0, []), (.lcmp, 0, 0, [])] (pc1 := 3) (ls1 := [some (vm_l v0), none, some (vm_l v2), none, some (vm_l v4), none]) (st1 := [vm_i (if v0 < v2 then -1 else if v0 = v2 then 0 else 1)]) (m1 := m) (ob := true) (by decide +kernel) rfl rfl ?_
  refine vm_gj (c := (if v0 < v2 then -1 else if v0 = v2 then 0 else 1) < 0) (t := 17) (e := 6) (i := (.ifCond .lt 0, 17, 0, [])) (len := 3) (st1 := []) (by decide +kernel) rfl rfl (fun c1 => ?_) (fun c1 => ?_)
  · replace h := h.1 c1
    refine vm_gp [(.iconst 0, 0, 0, [])] (pc1 := 18) (ls1 := [some (vm_l v0), none, some (vm_l v2), none, some (vm_l v4), none]) (st1 := [vm_i 0]) (m1 := m) (ob := true) (by decide +kernel) rfl rfl ?_
    exact vm_gr (r := some (vm_i 0)) (i := (.ireturn, 2, 0, [])) (len := 1) (by decide +kernel) rfl rfl (by decide) ⟨_, rfl, h⟩
  · replace h := h.2 c1
    refine vm_gp [(.lload 0, 0, 0, []), (.lload 4, 0, 0, []), (.lcmp, 0, 0, [])] (pc1 := 10) (ls1 := [some (vm_l v0), none, some (vm_l v2), none, some (vm_l v4), none]) (st1 := [vm_i (if v0 < v4 then -1 else if v0 = v4 then 0 else 1)]) (m1 := m) (ob := true) (by decide +kernel) rfl rfl ?_
    refine vm_gj (c := 0 < (if v0 < v4 then -1 else if v0 = v4 then 0 else 1)) (t := 17) (e := 13) (i := (.ifCond .gt 0, 17, 0, [])) (len := 3) (st1 := []) (by decide +kernel) rfl rfl (fun c2 => ?_) (fun c2 => ?_)
    · replace h := h.1 c2
      refine vm_gp [(.iconst 0, 0, 0, [])] (pc1 := 18) (ls1 := [some (vm_l v0), none, some (vm_l v2), none, some (vm_l v4), none]) (st1 := [vm_i 0]) (m1 := m) (ob := true) (by decide +kernel) rfl rfl ?_
      exact vm_gr (r := some (vm_i 0)) (i := (.ireturn, 2, 0, [])) (len := 1) (by decide +kernel) rfl rfl (by decide) ⟨_, rfl, h⟩
    · replace h := h.2 c2
      refine vm_gp [(.iconst 1, 0, 0, []), (.goto 0, 18, 0, [])] (pc1 := 18) (ls1 := [some (vm_l v0), none, some (vm_l v2), none, some (vm_l v4), none]) (st1 := [vm_i 1]) (m1 := m) (ob := true) (by decide +kernel) rfl rfl ?_
      exact vm_gr (r := some (vm_i 1)) (i := (.ireturn, 2, 0, [])) (len := 1) (by decide +kernel) rfl rfl (by decide) ⟨_, rfl, h⟩
abbrev ku11_isLetter_0 (v1 : Int) (m : vm_M) (Q : Int → vm_M → Prop) : Prop := vm_G 165 0 [some (vm_r 96), some (vm_i v1)] [] m (vm_qi Q)
set_option maxRecDepth 20000 in
theorem ru11_isLetter_0 {v1 : Int} {m : vm_M} {Q : Int → vm_M → Prop}  (h :
    (vm_C 164 [vm_l v1, vm_l 0, vm_l 25] m (vm_qi (fun z1 m1 =>
      ((z1 = 0 →
        Q 0 m1) ∧ (¬ z1 = 0 →
        ((¬ (vm_and (vm_shr (m1 96 4) v1) 1) = 1 →
          Q 0 m1) ∧ (¬ ¬ (vm_and (vm_shr (m1 96 4) v1) 1) = 1 →
          Q 1 m1)))))))) : vm_C 165 [vm_r 96, vm_i v1] m (vm_qi Q) := by
  show vm_G 165 0 [some (vm_r 96), some (vm_i v1)] [] m (vm_qi Q)
  refine vm_gp [(.iload 1, 0, 0, []), (.i2l, 0, 0, []), (.ldc2_w 0, 0, 0, [(0, 0)]), (.ldc2_w 0, 0, 0, [(25, 0)])] (pc1 := 6) (ls1 := [some (vm_r 96), some (vm_i v1)]) (st1 := [vm_l 25, vm_l 0, vm_l v1]) (m1 := m) (ob := true) (by decide +kernel) rfl rfl ?_
  refine vm_gc (g := 164) (na := 3) (av := [vm_l v1, vm_l 0, vm_l 25]) (rest := []) (i := (.invokestatic 0, 164, 3, [])) (len := 3) (by decide +kernel) rfl rfl rfl (by decide +kernel) (by decide +kernel) rfl rfl (vm_u (vm_okh_s (by decide +kernel)) (show vm_okn 164 3 0 0 0 6 = true by decide +kernel)) ?_
  refine vm_G.mono h ?_
  rintro _ m1 ⟨z1, rfl, h⟩
  show vm_G 165 9 [some (vm_r 96), some (vm_i v1)] [vm_i z1] m1 _
  refine vm_gj (c := z1 = 0) (t := 28) (e := 12) (i := (.ifCond .eq 0, 28, 0, [])) (len := 3) (st1 := []) (by decide +kernel) rfl rfl (fun c1 => ?_) (fun c1 => ?_)
  · replace h := h.1 c1
    refine vm_gp [(.iconst 0, 0, 0, [])] (pc1 := 29) (ls1 := [some (vm_r 96), some (vm_i v1)]) (st1 := [vm_i 0]) (m1 := m1) (ob := true) (by decide +kernel) rfl rfl ?_
    exact vm_gr (r := some (vm_i 0)) (i := (.ireturn, 2, 0, [])) (len := 1) (by decide +kernel) rfl rfl (by decide) ⟨_, rfl, h⟩
  · replace h := h.2 c1
    refine vm_gp [(.aload 0, 0, 0, []), (.getfield 0, 11, 4, []), (.iload 1, 0, 0, []), (.ishr, 0, 0, []), (.iconst 1, 0, 0, []), (.iand, 0, 0, []), (.iconst 1, 0, 0, [])] (pc1 := 21) (ls1 := [some (vm_r 96), some (vm_i v1)]) (st1 := [vm_i 1, vm_i (vm_and (vm_shr (m1 96 4) v1) 1)]) (m1 := m1) (ob := (true && vm_is 96 11)) (by decide +kernel) rfl (vm_u rfl (by decide +kernel)) ?_
    refine vm_gj (c := ¬ (vm_and (vm_shr (m1 96 4) v1) 1) = 1) (t := 28) (e := 24) (i := (.if_icmp .ne 0, 28, 0, [])) (len := 3) (st1 := []) (by decide +kernel) rfl rfl (fun c2 => ?_) (fun c2 => ?_)
    · replace h := h.1 c2
      refine vm_gp [(.iconst 0, 0, 0, [])] (pc1 := 29) (ls1 := [some (vm_r 96), some (vm_i v1)]) (st1 := [vm_i 0]) (m1 := m1) (ob := true) (by decide +kernel) rfl rfl ?_
      exact vm_gr (r := some (vm_i 0)) (i := (.ireturn, 2, 0, [])) (len := 1) (by decide +kernel) rfl rfl (by decide) ⟨_, rfl, h⟩
    · replace h := h.2 c2
      refine vm_gp [(.iconst 1, 0, 0, []), (.goto 0, 29, 0, [])] (pc1 := 29) (ls1 := [some (vm_r 96), some (vm_i v1)]) (st1 := [vm_i 1]) (m1 := m1) (ob := true) (by decide +kernel) rfl rfl ?_
      exact vm_gr (r := some (vm_i 1)) (i := (.ireturn, 2, 0, [])) (len := 1) (by decide +kernel) rfl rfl (by decide) ⟨_, rfl, h⟩
abbrev ku11_insetOf_0 (v1 : Int) (v2 : Int) (v3 : Int) (m : vm_M) (Q : Int → vm_M → Prop) : Prop := vm_G 166 0 [some (vm_r 96), some (vm_i v1), some (vm_i v2), some (vm_i v3)] [] m (vm_qi Q)
set_option maxRecDepth 20000 in
theorem ru11_insetOf_0 {v1 : Int} {v2 : Int} {v3 : Int} {m : vm_M} {Q : Int → vm_M → Prop}  (h :
    ((vm_32 (12 * v1)) ∧ (vm_32 (6 * v2)) ∧ (vm_32 ((12 * v1) + (6 * v2))) ∧ (vm_32 (((12 * v1) + (6 * v2)) + v3)) ∧ (0 ≤ (((12 * v1) + (6 * v2)) + v3) ∧ (((12 * v1) + (6 * v2)) + v3) < 312)) ∧
    Q (m 99 (((12 * v1) + (6 * v2)) + v3)) m) : vm_C 166 [vm_r 96, vm_i v1, vm_i v2, vm_i v3] m (vm_qi Q) := by
  show vm_G 166 0 [some (vm_r 96), some (vm_i v1), some (vm_i v2), some (vm_i v3)] [] m (vm_qi Q)
  obtain ⟨⟨o1_0, o1_1, o1_2, o1_3, o1_4⟩, h⟩ := h
  refine vm_gp [(.aload 0, 0, 0, []), (.getfield 2, 11, 6, [(99, 0)]), (.iconst 12, 0, 0, []), (.iload 1, 0, 0, []), (.imul, 0, 0, []), (.iconst 6, 0, 0, []), (.iload 2, 0, 0, []), (.imul, 0, 0, []), (.iadd, 0, 0, []), (.iload 3, 0, 0, []), (.iadd, 0, 0, []), (.iaload, 312, 0, [])] (pc1 := 16) (ls1 := [some (vm_r 96), some (vm_i v1), some (vm_i v2), some (vm_i v3)]) (st1 := [vm_i (m 99 (((12 * v1) + (6 * v2)) + v3))]) (m1 := m) (ob := ((((((((true && vm_is 96 11) && true) && decide (vm_32 (12 * v1))) && decide (vm_32 (6 * v2))) && decide (vm_32 ((12 * v1) + (6 * v2)))) && decide (vm_32 (((12 * v1) + (6 * v2)) + v3))) && vm_ar 99 100 312) && decide (0 ≤ (((12 * v1) + (6 * v2)) + v3) ∧ (((12 * v1) + (6 * v2)) + v3) < 312))) (by decide +kernel) rfl (vm_t (vm_u (vm_t (vm_t (vm_t (vm_t (vm_u (vm_u rfl (by decide +kernel)) rfl) o1_0) o1_1) o1_2) o1_3) (by decide +kernel)) o1_4) ?_
  exact vm_gr (r := some (vm_i (m 99 (((12 * v1) + (6 * v2)) + v3)))) (i := (.ireturn, 1, 0, [])) (len := 1) (by decide +kernel) rfl rfl rfl ⟨_, rfl, h⟩
abbrev ku11_lengthOf_0 (v1 : Int) (m : vm_M) (Q : Int → vm_M → Prop) : Prop := vm_G 167 0 [some (vm_r 96), some (vm_i v1)] [] m (vm_qi Q)
set_option maxRecDepth 20000 in
theorem ru11_lengthOf_0 {v1 : Int} {m : vm_M} {Q : Int → vm_M → Prop}  (h :
    ((vm_32 (685 + v1)) ∧ (0 ≤ (685 + v1) ∧ (685 + v1) < 1075)) ∧
    Q (m 100 (685 + v1)) m) : vm_C 167 [vm_r 96, vm_i v1] m (vm_qi Q) := by
  show vm_G 167 0 [some (vm_r 96), some (vm_i v1)] [] m (vm_qi Q)
  obtain ⟨⟨o1_0, o1_1⟩, h⟩ := h
  refine vm_gp [(.aload 0, 0, 0, []), (.getfield 2, 11, 7, [(100, 0)]), (.iconst 685, 0, 0, []), (.iload 1, 0, 0, []), (.iadd, 0, 0, []), (.iaload, 1075, 0, [])] (pc1 := 10) (ls1 := [some (vm_r 96), some (vm_i v1)]) (st1 := [vm_i (m 100 (685 + v1))]) (m1 := m) (ob := (((((true && vm_is 96 11) && true) && decide (vm_32 (685 + v1))) && vm_ar 100 100 1075) && decide (0 ≤ (685 + v1) ∧ (685 + v1) < 1075))) (by decide +kernel) rfl (vm_t (vm_u (vm_t (vm_u (vm_u rfl (by decide +kernel)) rfl) o1_0) (by decide +kernel)) o1_1) ?_
  exact vm_gr (r := some (vm_i (m 100 (685 + v1)))) (i := (.ireturn, 1, 0, [])) (len := 1) (by decide +kernel) rfl rfl rfl ⟨_, rfl, h⟩
abbrev ku11_letterOf_0 (v1 : Int) (v2 : Int) (m : vm_M) (Q : Int → vm_M → Prop) : Prop := vm_G 168 0 [some (vm_r 96), some (vm_i v1), some (vm_i v2)] [] m (vm_qi Q)
set_option maxRecDepth 20000 in
theorem ru11_letterOf_0 {v1 : Int} {v2 : Int} {m : vm_M} {Q : Int → vm_M → Prop}  (h :
    ((vm_32 (12 * v1)) ∧ (vm_32 (715 + (12 * v1))) ∧ (vm_32 ((715 + (12 * v1)) + v2)) ∧ (0 ≤ ((715 + (12 * v1)) + v2) ∧ ((715 + (12 * v1)) + v2) < 1075)) ∧
    Q (m 100 ((715 + (12 * v1)) + v2)) m) : vm_C 168 [vm_r 96, vm_i v1, vm_i v2] m (vm_qi Q) := by
  show vm_G 168 0 [some (vm_r 96), some (vm_i v1), some (vm_i v2)] [] m (vm_qi Q)
  obtain ⟨⟨o1_0, o1_1, o1_2, o1_3⟩, h⟩ := h
  refine vm_gp [(.aload 0, 0, 0, []), (.getfield 2, 11, 7, [(100, 0)]), (.iconst 715, 0, 0, []), (.iconst 12, 0, 0, []), (.iload 1, 0, 0, []), (.imul, 0, 0, []), (.iadd, 0, 0, []), (.iload 2, 0, 0, []), (.iadd, 0, 0, []), (.iaload, 1075, 0, [])] (pc1 := 15) (ls1 := [some (vm_r 96), some (vm_i v1), some (vm_i v2)]) (st1 := [vm_i (m 100 ((715 + (12 * v1)) + v2))]) (m1 := m) (ob := (((((((true && vm_is 96 11) && true) && decide (vm_32 (12 * v1))) && decide (vm_32 (715 + (12 * v1)))) && decide (vm_32 ((715 + (12 * v1)) + v2))) && vm_ar 100 100 1075) && decide (0 ≤ ((715 + (12 * v1)) + v2) ∧ ((715 + (12 * v1)) + v2) < 1075))) (by decide +kernel) rfl (vm_t (vm_u (vm_t (vm_t (vm_t (vm_u (vm_u rfl (by decide +kernel)) rfl) o1_0) o1_1) o1_2) (by decide +kernel)) o1_3) ?_
  exact vm_gr (r := some (vm_i (m 100 ((715 + (12 * v1)) + v2)))) (i := (.ireturn, 1, 0, [])) (len := 1) (by decide +kernel) rfl rfl rfl ⟨_, rfl, h⟩
abbrev ku11_isWordOfText_0 (v1 : Int) (m : vm_M) (Q : Int → vm_M → Prop) : Prop := vm_G 169 0 [some (vm_r 96), some (vm_i v1)] [] m (vm_qi Q)
set_option maxRecDepth 20000 in
theorem ru11_isWordOfText_0 {v1 : Int} {m : vm_M} {Q : Int → vm_M → Prop}  (h :
    ((vm_32 ((m 100 8) - 1))) ∧
    (vm_C 164 [vm_l v1, vm_l 0, vm_l ((m 100 8) - 1)] m (vm_qi (fun z1 m1 =>
      ((z1 = 0 ∨ z1 = 1)) ∧
      Q z1 m1)))) : vm_C 169 [vm_r 96, vm_i v1] m (vm_qi Q) := by
  show vm_G 169 0 [some (vm_r 96), some (vm_i v1)] [] m (vm_qi Q)
  obtain ⟨o1_0, h⟩ := h
  refine vm_gp [(.iload 1, 0, 0, []), (.i2l, 0, 0, []), (.ldc2_w 0, 0, 0, [(0, 0)]), (.aload 0, 0, 0, []), (.getfield 2, 11, 7, [(100, 0)]), (.iconst 8, 0, 0, []), (.iaload, 1075, 0, []), (.iconst 1, 0, 0, []), (.isub, 0, 0, []), (.i2l, 0, 0, [])] (pc1 := 13) (ls1 := [some (vm_r 96), some (vm_i v1)]) (st1 := [vm_l ((m 100 8) - 1), vm_l 0, vm_l v1]) (m1 := m) (ob := (((((true && vm_is 96 11) && true) && vm_ar 100 100 1075) && decide ((0 : Int) ≤ 8 ∧ (8 : Int) < 1075)) && decide (vm_32 ((m 100 8) - 1)))) (by decide +kernel) rfl (vm_t (vm_t (vm_u (vm_u (vm_u rfl (by decide +kernel)) rfl) (by decide +kernel)) (by decide)) o1_0) ?_
  refine vm_gc (g := 164) (na := 3) (av := [vm_l v1, vm_l 0, vm_l ((m 100 8) - 1)]) (rest := []) (i := (.invokestatic 0, 164, 3, [])) (len := 3) (by decide +kernel) rfl rfl rfl (by decide +kernel) (by decide +kernel) rfl rfl (vm_u (vm_okh_s (by decide +kernel)) (show vm_okn 164 3 0 0 0 6 = true by decide +kernel)) ?_
  refine vm_G.mono h ?_
  rintro _ m1 ⟨z1, rfl, h⟩
  show vm_G 169 16 [some (vm_r 96), some (vm_i v1)] [vm_i z1] m1 _
  exact vm_gr (r := some (vm_i z1)) (i := (.ireturn, 2, 0, [])) (len := 1) (by decide +kernel) rfl rfl (decide_eq_true h.1) ⟨_, rfl, h.2⟩
abbrev ku11_inBand_0 (v1 : Int) (v2 : Int) (v3 : Int) (v4 : Int) (m : vm_M) (Q : Int → vm_M → Prop) : Prop := vm_G 170 0 [some (vm_r 96), some (vm_i v1), some (vm_i v2), some (vm_i v3), some (vm_i v4), none, none, none] [] m (vm_qi Q)
set_option maxRecDepth 20000 in
theorem ru11_inBand_0 {v1 : Int} {v2 : Int} {v3 : Int} {v4 : Int} {m : vm_M} {Q : Int → vm_M → Prop}  (h :
    (vm_C 166 [vm_r 96, vm_i v1, vm_i 1, vm_i v4] m (vm_qi (fun z1 m1 =>
      (vm_C 166 [vm_r 96, vm_i v2, vm_i 0, vm_i v4] m1 (vm_qi (fun z2 m2 =>
        ((vm_32 (z1 + v3)) ∧ (vm_32 ((z1 + v3) + z2))) ∧
        ((z1 = (-1) →
          Q (m2 96 3) m2) ∧ (¬ z1 = (-1) →
          ((z2 = (-1) →
            Q (m2 96 3) m2) ∧ (¬ z2 = (-1) →
            ((((z1 + v3) + z2) ≤ (m2 96 3) →
              ((0 ≤ ((z1 + v3) + z2) →
                Q ((z1 + v3) + z2) m2) ∧ (¬ 0 ≤ ((z1 + v3) + z2) →
                Q 0 m2))) ∧ (¬ ((z1 + v3) + z2) ≤ (m2 96 3) →
              Q (m2 96 3) m2))))))))))))) : vm_C 170 [vm_r 96, vm_i v1, vm_i v2, vm_i v3, vm_i v4] m (vm_qi Q) := by
  show vm_G 170 0 [some (vm_r 96), some (vm_i v1), some (vm_i v2), some (vm_i v3), some (vm_i v4), none, none, none] [] m (vm_qi Q)
  refine vm_gp [(.aload 0, 0, 0, []), (.iload 1, 0, 0, []), (.iconst 1, 0, 0, []), (.iload 4, 0, 0, [])] (pc1 := 5) (ls1 := [some (vm_r 96), some (vm_i v1), some (vm_i v2), some (vm_i v3), some (vm_i v4), none, none, none]) (st1 := [vm_i v4, vm_i 1, vm_i v1, vm_r 96]) (m1 := m) (ob := true) (by decide +kernel) rfl rfl ?_
  refine vm_gc (g := 166) (na := 4) (av := [vm_r 96, vm_i v1, vm_i 1, vm_i v4]) (rest := []) (i := (.invokevirtual 0, 166, 4, [])) (len := 3) (by decide +kernel) rfl rfl rfl (by decide +kernel) (by decide +kernel) rfl rfl (vm_u (vm_okh_v (c := 11) (by decide +kernel) (by decide +kernel)) (show vm_okn 166 4 0 0 0 4 = true by decide +kernel)) ?_
  refine vm_G.mono h ?_
  rintro _ m1 ⟨z1, rfl, h⟩
  show vm_G 170 8 [some (vm_r 96), some (vm_i v1), some (vm_i v2), some (vm_i v3), some (vm_i v4), none, none, none] [vm_i z1] m1 _
  refine vm_gp [(.istore 5, 0, 0, []), (.aload 0, 0, 0, []), (.iload 2, 0, 0, []), (.iconst 0, 0, 0, []), (.iload 4, 0, 0, [])] (pc1 := 15) (ls1 := [some (vm_r 96), some (vm_i v1), some (vm_i v2), some (vm_i v3), some (vm_i v4), some (vm_i z1), none, none]) (st1 := [vm_i v4, vm_i 0, vm_i v2, vm_r 96]) (m1 := m1) (ob := true) (by decide +kernel) rfl rfl ?_
  refine vm_gc (g := 166) (na := 4) (av := [vm_r 96, vm_i v2, vm_i 0, vm_i v4]) (rest := []) (i := (.invokevirtual 0, 166, 4, [])) (len := 3) (by decide +kernel) rfl rfl rfl (by decide +kernel) (by decide +kernel) rfl rfl (vm_u (vm_okh_v (c := 11) (by decide +kernel) (by decide +kernel)) (show vm_okn 166 4 0 0 0 4 = true by decide +kernel)) ?_
  refine vm_G.mono h ?_
  rintro _ m2 ⟨z2, rfl, h⟩
  show vm_G 170 18 [some (vm_r 96), some (vm_i v1), some (vm_i v2), some (vm_i v3), some (vm_i v4), some (vm_i z1), none, none] [vm_i z2] m2 _
  obtain ⟨⟨o3_0, o3_1⟩, h⟩ := h
  refine vm_gp [(.istore 6, 0, 0, []), (.iload 5, 0, 0, []), (.iload 3, 0, 0, []), (.iadd, 0, 0, []), (.iload 6, 0, 0, []), (.iadd, 0, 0, []), (.istore 7, 0, 0, []), (.iload 5, 0, 0, []), (.iconst (-1), 0, 0, [])] (pc1 := 32) (ls1 := [some (vm_r 96), some (vm_i v1), some (vm_i v2), some (vm_i v3), some (vm_i v4), some (vm_i z1), some (vm_i z2), some (vm_i ((z1 + v3) + z2))]) (st1 := [vm_i (-1), vm_i z1]) (m1 := m2) (ob := ((true && decide (vm_32 (z1 + v3))) && decide (vm_32 ((z1 + v3) + z2)))) (by decide +kernel) rfl (vm_t (vm_t rfl o3_0) o3_1) ?_
  refine vm_gj (c := z1 = (-1)) (t := 50) (e := 35) (i := (.if_icmp .eq 0, 50, 0, [])) (len := 3) (st1 := []) (by decide +kernel) rfl rfl (fun c1 => ?_) (fun c1 => ?_)
  · replace h := h.1 c1
    refine vm_gp [(.aload 0, 0, 0, []), (.getfield 0, 11, 3, []), (.goto 0, 68, 0, [])] (pc1 := 68) (ls1 := [some (vm_r 96), some (vm_i v1), some (vm_i v2), some (vm_i v3), some (vm_i v4), some (vm_i z1), some (vm_i z2), some (vm_i ((z1 + v3) + z2))]) (st1 := [vm_i (m2 96 3)]) (m1 := m2) (ob := (true && vm_is 96 11)) (by decide +kernel) rfl (vm_u rfl (by decide +kernel)) ?_
    exact vm_gr (r := some (vm_i (m2 96 3))) (i := (.ireturn, 1, 0, [])) (len := 1) (by decide +kernel) rfl rfl rfl ⟨_, rfl, h⟩
  · replace h := h.2 c1
    refine vm_gp [(.iload 6, 0, 0, []), (.iconst (-1), 0, 0, [])] (pc1 := 38) (ls1 := [some (vm_r 96), some (vm_i v1), some (vm_i v2), some (vm_i v3), some (vm_i v4), some (vm_i z1), some (vm_i z2), some (vm_i ((z1 + v3) + z2))]) (st1 := [vm_i (-1), vm_i z2]) (m1 := m2) (ob := true) (by decide +kernel) rfl rfl ?_
    refine vm_gj (c := z2 = (-1)) (t := 50) (e := 41) (i := (.if_icmp .eq 0, 50, 0, [])) (len := 3) (st1 := []) (by decide +kernel) rfl rfl (fun c2 => ?_) (fun c2 => ?_)
    · replace h := h.1 c2
      refine vm_gp [(.aload 0, 0, 0, []), (.getfield 0, 11, 3, []), (.goto 0, 68, 0, [])] (pc1 := 68) (ls1 := [some (vm_r 96), some (vm_i v1), some (vm_i v2), some (vm_i v3), some (vm_i v4), some (vm_i z1), some (vm_i z2), some (vm_i ((z1 + v3) + z2))]) (st1 := [vm_i (m2 96 3)]) (m1 := m2) (ob := (true && vm_is 96 11)) (by decide +kernel) rfl (vm_u rfl (by decide +kernel)) ?_
      exact vm_gr (r := some (vm_i (m2 96 3))) (i := (.ireturn, 1, 0, [])) (len := 1) (by decide +kernel) rfl rfl rfl ⟨_, rfl, h⟩
    · replace h := h.2 c2
      refine vm_gp [(.iload 7, 0, 0, []), (.aload 0, 0, 0, []), (.getfield 0, 11, 3, [])] (pc1 := 47) (ls1 := [some (vm_r 96), some (vm_i v1), some (vm_i v2), some (vm_i v3), some (vm_i v4), some (vm_i z1), some (vm_i z2), some (vm_i ((z1 + v3) + z2))]) (st1 := [vm_i (m2 96 3), vm_i ((z1 + v3) + z2)]) (m1 := m2) (ob := (true && vm_is 96 11)) (by decide +kernel) rfl (vm_u rfl (by decide +kernel)) ?_
      refine vm_gj (c := ((z1 + v3) + z2) ≤ (m2 96 3)) (t := 57) (e := 50) (i := (.if_icmp .le 0, 57, 0, [])) (len := 3) (st1 := []) (by decide +kernel) rfl rfl (fun c3 => ?_) (fun c3 => ?_)
      · replace h := h.1 c3
        refine vm_gp [(.iload 7, 0, 0, [])] (pc1 := 59) (ls1 := [some (vm_r 96), some (vm_i v1), some (vm_i v2), some (vm_i v3), some (vm_i v4), some (vm_i z1), some (vm_i z2), some (vm_i ((z1 + v3) + z2))]) (st1 := [vm_i ((z1 + v3) + z2)]) (m1 := m2) (ob := true) (by decide +kernel) rfl rfl ?_
        refine vm_gj (c := 0 ≤ ((z1 + v3) + z2)) (t := 66) (e := 62) (i := (.ifCond .ge 0, 66, 0, [])) (len := 3) (st1 := []) (by decide +kernel) rfl rfl (fun c4 => ?_) (fun c4 => ?_)
        · replace h := h.1 c4
          refine vm_gp [(.iload 7, 0, 0, [])] (pc1 := 68) (ls1 := [some (vm_r 96), some (vm_i v1), some (vm_i v2), some (vm_i v3), some (vm_i v4), some (vm_i z1), some (vm_i z2), some (vm_i ((z1 + v3) + z2))]) (st1 := [vm_i ((z1 + v3) + z2)]) (m1 := m2) (ob := true) (by decide +kernel) rfl rfl ?_
          exact vm_gr (r := some (vm_i ((z1 + v3) + z2))) (i := (.ireturn, 1, 0, [])) (len := 1) (by decide +kernel) rfl rfl rfl ⟨_, rfl, h⟩
        · replace h := h.2 c4
          refine vm_gp [(.iconst 0, 0, 0, []), (.goto 0, 68, 0, [])] (pc1 := 68) (ls1 := [some (vm_r 96), some (vm_i v1), some (vm_i v2), some (vm_i v3), some (vm_i v4), some (vm_i z1), some (vm_i z2), some (vm_i ((z1 + v3) + z2))]) (st1 := [vm_i 0]) (m1 := m2) (ob := true) (by decide +kernel) rfl rfl ?_
          exact vm_gr (r := some (vm_i 0)) (i := (.ireturn, 1, 0, [])) (len := 1) (by decide +kernel) rfl rfl rfl ⟨_, rfl, h⟩
      · replace h := h.2 c3
        refine vm_gp [(.aload 0, 0, 0, []), (.getfield 0, 11, 3, []), (.goto 0, 68, 0, [])] (pc1 := 68) (ls1 := [some (vm_r 96), some (vm_i v1), some (vm_i v2), some (vm_i v3), some (vm_i v4), some (vm_i z1), some (vm_i z2), some (vm_i ((z1 + v3) + z2))]) (st1 := [vm_i (m2 96 3)]) (m1 := m2) (ob := (true && vm_is 96 11)) (by decide +kernel) rfl (vm_u rfl (by decide +kernel)) ?_
        exact vm_gr (r := some (vm_i (m2 96 3))) (i := (.ireturn, 1, 0, [])) (len := 1) (by decide +kernel) rfl rfl rfl ⟨_, rfl, h⟩
abbrev ku11_opticalGap_0 (v1 : Int) (v2 : Int) (v3 : Int) (m : vm_M) (Q : Int → vm_M → Prop) : Prop := vm_G 171 0 [some (vm_r 96), some (vm_i v1), some (vm_i v2), some (vm_i v3), none, none] [] m (vm_qi Q)
abbrev ku11_opticalGap_6 (v1 : Int) (v2 : Int) (v3 : Int) (v4 : Int) (v5 : Int) (m : vm_M) (Q : Int → vm_M → Prop) : Prop := vm_G 171 6 [some (vm_r 96), some (vm_i v1), some (vm_i v2), some (vm_i v3), some (vm_i v4), some (vm_i v5)] [] m (vm_qi Q)
set_option maxRecDepth 20000 in
theorem ru11_opticalGap_0 {v1 : Int} {v2 : Int} {v3 : Int} {m : vm_M} {Q : Int → vm_M → Prop}  (h :
    ku11_opticalGap_6 v1 v2 v3 0 0 m Q) : vm_C 171 [vm_r 96, vm_i v1, vm_i v2, vm_i v3] m (vm_qi Q) := by
  show vm_G 171 0 [some (vm_r 96), some (vm_i v1), some (vm_i v2), some (vm_i v3), none, none] [] m (vm_qi Q)
  refine vm_gp [(.iconst 0, 0, 0, []), (.istore 4, 0, 0, []), (.iconst 0, 0, 0, []), (.istore 5, 0, 0, [])] (pc1 := 6) (ls1 := [some (vm_r 96), some (vm_i v1), some (vm_i v2), some (vm_i v3), some (vm_i 0), some (vm_i 0)]) (st1 := []) (m1 := m) (ob := true) (by decide +kernel) rfl rfl ?_
  exact h
set_option maxRecDepth 20000 in
theorem ru11_opticalGap_6 {v1 : Int} {v2 : Int} {v3 : Int} {v4 : Int} {v5 : Int} {m : vm_M} {Q : Int → vm_M → Prop}  (h :
    ((6 ≤ v5 →
      ((0 ≤ v4 ∧ (0 : Int) < 6)) ∧
      Q (v4 / 6) m) ∧ (¬ 6 ≤ v5 →
      (vm_C 170 [vm_r 96, vm_i v1, vm_i v2, vm_i v3, vm_i v5] m (vm_qi (fun z1 m1 =>
        ((vm_32 (v4 + z1)) ∧ (vm_32 (v5 + 1))) ∧
        ku11_opticalGap_6 v1 v2 v3 (v4 + z1) (v5 + 1) m1 Q)))))) : ku11_opticalGap_6 v1 v2 v3 v4 v5 m Q := by
  show vm_G 171 6 [some (vm_r 96), some (vm_i v1), some (vm_i v2), some (vm_i v3), some (vm_i v4), some (vm_i v5)] [] m (vm_qi Q)
  refine vm_gp [(.iload 5, 0, 0, []), (.iconst 6, 0, 0, [])] (pc1 := 10) (ls1 := [some (vm_r 96), some (vm_i v1), some (vm_i v2), some (vm_i v3), some (vm_i v4), some (vm_i v5)]) (st1 := [vm_i 6, vm_i v5]) (m1 := m) (ob := true) (by decide +kernel) rfl rfl ?_
  refine vm_gj (c := 6 ≤ v5) (t := 33) (e := 13) (i := (.if_icmp .ge 0, 33, 0, [])) (len := 3) (st1 := []) (by decide +kernel) rfl rfl (fun c1 => ?_) (fun c1 => ?_)
  · replace h := h.1 c1
    obtain ⟨o2_0, h⟩ := h
    refine vm_gp [(.iload 4, 0, 0, []), (.iconst 6, 0, 0, []), (.idiv, 0, 0, [])] (pc1 := 38) (ls1 := [some (vm_r 96), some (vm_i v1), some (vm_i v2), some (vm_i v3), some (vm_i v4), some (vm_i v5)]) (st1 := [vm_i (v4 / 6)]) (m1 := m) (ob := (true && decide (0 ≤ v4 ∧ (0 : Int) < 6))) (by decide +kernel) rfl (vm_t rfl o2_0) ?_
    exact vm_gr (r := some (vm_i (v4 / 6))) (i := (.ireturn, 1, 0, [])) (len := 1) (by decide +kernel) rfl rfl rfl ⟨_, rfl, h⟩
  · replace h := h.2 c1
    refine vm_gp [(.iload 4, 0, 0, []), (.aload 0, 0, 0, []), (.iload 1, 0, 0, []), (.iload 2, 0, 0, []), (.iload 3, 0, 0, []), (.iload 5, 0, 0, [])] (pc1 := 21) (ls1 := [some (vm_r 96), some (vm_i v1), some (vm_i v2), some (vm_i v3), some (vm_i v4), some (vm_i v5)]) (st1 := [vm_i v5, vm_i v3, vm_i v2, vm_i v1, vm_r 96, vm_i v4]) (m1 := m) (ob := true) (by decide +kernel) rfl rfl ?_
    refine vm_gc (g := 170) (na := 5) (av := [vm_r 96, vm_i v1, vm_i v2, vm_i v3, vm_i v5]) (rest := [vm_i v4]) (i := (.invokevirtual 0, 170, 5, [])) (len := 3) (by decide +kernel) rfl rfl rfl (by decide +kernel) (by decide +kernel) rfl rfl (vm_u (vm_okh_v (c := 11) (by decide +kernel) (by decide +kernel)) (show vm_okn 170 5 1 0 0 5 = true by decide +kernel)) ?_
    refine vm_G.mono h ?_
    rintro _ m1 ⟨z1, rfl, h⟩
    show vm_G 171 24 [some (vm_r 96), some (vm_i v1), some (vm_i v2), some (vm_i v3), some (vm_i v4), some (vm_i v5)] [vm_i z1, vm_i v4] m1 _
    obtain ⟨⟨o4_0, o4_1⟩, h⟩ := h
    refine vm_gp [(.iadd, 0, 0, []), (.istore 4, 0, 0, []), (.iinc 5 1, 0, 0, []), (.goto 0, 6, 0, [])] (pc1 := 6) (ls1 := [some (vm_r 96), some (vm_i v1), some (vm_i v2), some (vm_i v3), some (vm_i (v4 + z1)), some (vm_i (v5 + 1))]) (st1 := []) (m1 := m1) (ob := ((true && decide (vm_32 (v4 + z1))) && decide (vm_32 (v5 + 1)))) (by decide +kernel) rfl (vm_t (vm_t rfl o4_0) o4_1) ?_
    exact h
abbrev ku11_corrected_0 (v1 : Int) (v2 : Int) (m : vm_M) (Q : Int → vm_M → Prop) : Prop := vm_G 172 0 [some (vm_r 96), some (vm_i v1), some (vm_i v2)] [] m (vm_qi Q)
set_option maxRecDepth 20000 in
theorem ru11_corrected_0 {v1 : Int} {v2 : Int} {m : vm_M} {Q : Int → vm_M → Prop}  (h :
    ((vm_32 (26 * v1)) ∧ (vm_32 (9 + (26 * v1))) ∧ (vm_32 ((9 + (26 * v1)) + v2)) ∧ (0 ≤ ((9 + (26 * v1)) + v2) ∧ ((9 + (26 * v1)) + v2) < 1075)) ∧
    Q (m 100 ((9 + (26 * v1)) + v2)) m) : vm_C 172 [vm_r 96, vm_i v1, vm_i v2] m (vm_qi Q) := by
  show vm_G 172 0 [some (vm_r 96), some (vm_i v1), some (vm_i v2)] [] m (vm_qi Q)
  obtain ⟨⟨o1_0, o1_1, o1_2, o1_3⟩, h⟩ := h
  refine vm_gp [(.aload 0, 0, 0, []), (.getfield 2, 11, 7, [(100, 0)]), (.iconst 9, 0, 0, []), (.iconst 26, 0, 0, []), (.iload 1, 0, 0, []), (.imul, 0, 0, []), (.iadd, 0, 0, []), (.iload 2, 0, 0, []), (.iadd, 0, 0, []), (.iaload, 1075, 0, [])] (pc1 := 14) (ls1 := [some (vm_r 96), some (vm_i v1), some (vm_i v2)]) (st1 := [vm_i (m 100 ((9 + (26 * v1)) + v2))]) (m1 := m) (ob := (((((((true && vm_is 96 11) && true) && decide (vm_32 (26 * v1))) && decide (vm_32 (9 + (26 * v1)))) && decide (vm_32 ((9 + (26 * v1)) + v2))) && vm_ar 100 100 1075) && decide (0 ≤ ((9 + (26 * v1)) + v2) ∧ ((9 + (26 * v1)) + v2) < 1075))) (by decide +kernel) rfl (vm_t (vm_u (vm_t (vm_t (vm_t (vm_u (vm_u rfl (by decide +kernel)) rfl) o1_0) o1_1) o1_2) (by decide +kernel)) o1_3) ?_
  exact vm_gr (r := some (vm_i (m 100 ((9 + (26 * v1)) + v2)))) (i := (.ireturn, 1, 0, [])) (len := 1) (by decide +kernel) rfl rfl rfl ⟨_, rfl, h⟩
abbrev ku11_plainDistance_0 (v1 : Int) (v2 : Int) (v3 : Int) (m : vm_M) (Q : Int → vm_M → Prop) : Prop := vm_G 173 0 [some (vm_r 96), some (vm_i v1), some (vm_i v2), some (vm_i v3), none] [] m (vm_qi Q)
abbrev ku11_plainDistance_4 (v1 : Int) (v2 : Int) (v3 : Int) (v4 : Int) (m : vm_M) (Q : Int → vm_M → Prop) : Prop := vm_G 173 4 [some (vm_r 96), some (vm_i v1), some (vm_i v2), some (vm_i v3), some (vm_i v4)] [] m (vm_qi Q)
set_option maxRecDepth 20000 in
theorem ru11_plainDistance_0 {v1 : Int} {v2 : Int} {v3 : Int} {m : vm_M} {Q : Int → vm_M → Prop}  (h :
    ku11_plainDistance_4 v1 v2 v3 (-9) m Q) : vm_C 173 [vm_r 96, vm_i v1, vm_i v2, vm_i v3] m (vm_qi Q) := by
  show vm_G 173 0 [some (vm_r 96), some (vm_i v1), some (vm_i v2), some (vm_i v3), none] [] m (vm_qi Q)
  refine vm_gp [(.iconst (-9), 0, 0, []), (.istore 4, 0, 0, [])] (pc1 := 4) (ls1 := [some (vm_r 96), some (vm_i v1), some (vm_i v2), some (vm_i v3), some (vm_i (-9))]) (st1 := []) (m1 := m) (ob := true) (by decide +kernel) rfl rfl ?_
  exact h
set_option maxRecDepth 20000 in
theorem ru11_plainDistance_4 {v1 : Int} {v2 : Int} {v3 : Int} {v4 : Int} {m : vm_M} {Q : Int → vm_M → Prop}  (h :
    (vm_C 171 [vm_r 96, vm_i v1, vm_i v2, vm_i v4] m (vm_qi (fun z1 m1 =>
      ((v3 ≤ z1 →
        Q v4 m1) ∧ (¬ v3 ≤ z1 →
        ((vm_32 (v4 + 1))) ∧
        ku11_plainDistance_4 v1 v2 v3 (v4 + 1) m1 Q)))))) : ku11_plainDistance_4 v1 v2 v3 v4 m Q := by
  show vm_G 173 4 [some (vm_r 96), some (vm_i v1), some (vm_i v2), some (vm_i v3), some (vm_i v4)] [] m (vm_qi Q)
  refine vm_gp [(.aload 0, 0, 0, []), (.iload 1, 0, 0, []), (.iload 2, 0, 0, []), (.iload 4, 0, 0, [])] (pc1 := 9) (ls1 := [some (vm_r 96), some (vm_i v1), some (vm_i v2), some (vm_i v3), some (vm_i v4)]) (st1 := [vm_i v4, vm_i v2, vm_i v1, vm_r 96]) (m1 := m) (ob := true) (by decide +kernel) rfl rfl ?_
  refine vm_gc (g := 171) (na := 4) (av := [vm_r 96, vm_i v1, vm_i v2, vm_i v4]) (rest := []) (i := (.invokevirtual 0, 171, 4, [])) (len := 3) (by decide +kernel) rfl rfl rfl (by decide +kernel) (by decide +kernel) rfl rfl (vm_u (vm_okh_v (c := 11) (by decide +kernel) (by decide +kernel)) (show vm_okn 171 4 0 0 0 4 = true by decide +kernel)) ?_
  refine vm_G.mono h ?_
  rintro _ m1 ⟨z1, rfl, h⟩
  show vm_G 173 12 [some (vm_r 96), some (vm_i v1), some (vm_i v2), some (vm_i v3), some (vm_i v4)] [vm_i z1] m1 _
  refine vm_gp [(.iload 3, 0, 0, [])] (pc1 := 13) (ls1 := [some (vm_r 96), some (vm_i v1), some (vm_i v2), some (vm_i v3), some (vm_i v4)]) (st1 := [vm_i v3, vm_i z1]) (m1 := m1) (ob := true) (by decide +kernel) rfl rfl ?_
  refine vm_gj (c := v3 ≤ z1) (t := 22) (e := 16) (i := (.if_icmp .ge 0, 22, 0, [])) (len := 3) (st1 := []) (by decide +kernel) rfl rfl (fun c1 => ?_) (fun c1 => ?_)
  · replace h := h.1 c1
    refine vm_gp [(.iload 4, 0, 0, [])] (pc1 := 24) (ls1 := [some (vm_r 96), some (vm_i v1), some (vm_i v2), some (vm_i v3), some (vm_i v4)]) (st1 := [vm_i v4]) (m1 := m1) (ob := true) (by decide +kernel) rfl rfl ?_
    exact vm_gr (r := some (vm_i v4)) (i := (.ireturn, 1, 0, [])) (len := 1) (by decide +kernel) rfl rfl rfl ⟨_, rfl, h⟩
  · replace h := h.2 c1
    obtain ⟨o4_0, h⟩ := h
    refine vm_gp [(.iinc 4 1, 0, 0, []), (.goto 0, 4, 0, [])] (pc1 := 4) (ls1 := [some (vm_r 96), some (vm_i v1), some (vm_i v2), some (vm_i v3), some (vm_i (v4 + 1))]) (st1 := []) (m1 := m1) (ob := (true && decide (vm_32 (v4 + 1)))) (by decide +kernel) rfl (vm_t rfl o4_0) ?_
    exact h
abbrev ku11_distanceWith_0 (v1 : Int) (v2 : Int) (v3 : Int) (v4 : Int) (m : vm_M) (Q : Int → vm_M → Prop) : Prop := vm_G 174 0 [some (vm_r 96), some (vm_i v1), some (vm_i v2), some (vm_i v3), some (vm_i v4), none] [] m (vm_qi Q)
set_option maxRecDepth 20000 in
theorem ru11_distanceWith_0 {v1 : Int} {v2 : Int} {v3 : Int} {v4 : Int} {m : vm_M} {Q : Int → vm_M → Prop}  (h :
    (vm_C 173 [vm_r 96, vm_i v1, vm_i v2, vm_i v3] m (vm_qi (fun z1 m1 =>
      ((vm_32 (z1 + v4))) ∧
      (((-9) ≤ (z1 + v4) →
        Q (z1 + v4) m1) ∧ (¬ (-9) ≤ (z1 + v4) →
        Q (-9) m1)))))) : vm_C 174 [vm_r 96, vm_i v1, vm_i v2, vm_i v3, vm_i v4] m (vm_qi Q) := by
  show vm_G 174 0 [some (vm_r 96), some (vm_i v1), some (vm_i v2), some (vm_i v3), some (vm_i v4), none] [] m (vm_qi Q)
  refine vm_gp [(.aload 0, 0, 0, []), (.iload 1, 0, 0, []), (.iload 2, 0, 0, []), (.iload 3, 0, 0, [])] (pc1 := 4) (ls1 := [some (vm_r 96), some (vm_i v1), some (vm_i v2), some (vm_i v3), some (vm_i v4), none]) (st1 := [vm_i v3, vm_i v2, vm_i v1, vm_r 96]) (m1 := m) (ob := true) (by decide +kernel) rfl rfl ?_
  refine vm_gc (g := 173) (na := 4) (av := [vm_r 96, vm_i v1, vm_i v2, vm_i v3]) (rest := []) (i := (.invokevirtual 0, 173, 4, [])) (len := 3) (by decide +kernel) rfl rfl rfl (by decide +kernel) (by decide +kernel) rfl rfl (vm_u (vm_okh_v (c := 11) (by decide +kernel) (by decide +kernel)) (show vm_okn 173 4 0 0 0 4 = true by decide +kernel)) ?_
  refine vm_G.mono h ?_
  rintro _ m1 ⟨z1, rfl, h⟩
  show vm_G 174 7 [some (vm_r 96), some (vm_i v1), some (vm_i v2), some (vm_i v3), some (vm_i v4), none] [vm_i z1] m1 _
  obtain ⟨o2_0, h⟩ := h
  refine vm_gp [(.iload 4, 0, 0, []), (.iadd, 0, 0, []), (.istore 5, 0, 0, []), (.iload 5, 0, 0, []), (.iconst (-9), 0, 0, [])] (pc1 := 16) (ls1 := [some (vm_r 96), some (vm_i v1), some (vm_i v2), some (vm_i v3), some (vm_i v4), some (vm_i (z1 + v4))]) (st1 := [vm_i (-9), vm_i (z1 + v4)]) (m1 := m1) (ob := (true && decide (vm_32 (z1 + v4)))) (by decide +kernel) rfl (vm_t rfl o2_0) ?_
  refine vm_gj (c := (-9) ≤ (z1 + v4)) (t := 24) (e := 19) (i := (.if_icmp .ge 0, 24, 0, [])) (len := 3) (st1 := []) (by decide +kernel) rfl rfl (fun c1 => ?_) (fun c1 => ?_)
  · replace h := h.1 c1
    refine vm_gp [(.iload 5, 0, 0, [])] (pc1 := 26) (ls1 := [some (vm_r 96), some (vm_i v1), some (vm_i v2), some (vm_i v3), some (vm_i v4), some (vm_i (z1 + v4))]) (st1 := [vm_i (z1 + v4)]) (m1 := m1) (ob := true) (by decide +kernel) rfl rfl ?_
    exact vm_gr (r := some (vm_i (z1 + v4))) (i := (.ireturn, 1, 0, [])) (len := 1) (by decide +kernel) rfl rfl rfl ⟨_, rfl, h⟩
  · replace h := h.2 c1
    refine vm_gp [(.iconst (-9), 0, 0, []), (.goto 0, 26, 0, [])] (pc1 := 26) (ls1 := [some (vm_r 96), some (vm_i v1), some (vm_i v2), some (vm_i v3), some (vm_i v4), some (vm_i (z1 + v4))]) (st1 := [vm_i (-9)]) (m1 := m1) (ob := true) (by decide +kernel) rfl rfl ?_
    exact vm_gr (r := some (vm_i (-9))) (i := (.ireturn, 1, 0, [])) (len := 1) (by decide +kernel) rfl rfl rfl ⟨_, rfl, h⟩
abbrev ku11_distanceOf_0 (v1 : Int) (v2 : Int) (v3 : Int) (m : vm_M) (Q : Int → vm_M → Prop) : Prop := vm_G 175 0 [some (vm_r 96), some (vm_i v1), some (vm_i v2), some (vm_i v3)] [] m (vm_qi Q)
set_option maxRecDepth 20000 in
theorem ru11_distanceOf_0 {v1 : Int} {v2 : Int} {v3 : Int} {m : vm_M} {Q : Int → vm_M → Prop}  (h :
    (vm_C 172 [vm_r 96, vm_i v1, vm_i v2] m (vm_qi (fun z1 m1 =>
      (vm_C 174 [vm_r 96, vm_i v1, vm_i v2, vm_i v3, vm_i z1] m1 (vm_qi (fun z2 m2 =>
        Q z2 m2))))))) : vm_C 175 [vm_r 96, vm_i v1, vm_i v2, vm_i v3] m (vm_qi Q) := by
  show vm_G 175 0 [some (vm_r 96), some (vm_i v1), some (vm_i v2), some (vm_i v3)] [] m (vm_qi Q)
  refine vm_gp [(.aload 0, 0, 0, []), (.iload 1, 0, 0, []), (.iload 2, 0, 0, []), (.iload 3, 0, 0, []), (.aload 0, 0, 0, []), (.iload 1, 0, 0, []), (.iload 2, 0, 0, [])] (pc1 := 7) (ls1 := [some (vm_r 96), some (vm_i v1), some (vm_i v2), some (vm_i v3)]) (st1 := [vm_i v2, vm_i v1, vm_r 96, vm_i v3, vm_i v2, vm_i v1, vm_r 96]) (m1 := m) (ob := true) (by decide +kernel) rfl rfl ?_
  refine vm_gc (g := 172) (na := 3) (av := [vm_r 96, vm_i v1, vm_i v2]) (rest := [vm_i v3, vm_i v2, vm_i v1, vm_r 96]) (i := (.invokevirtual 0, 172, 3, [])) (len := 3) (by decide +kernel) rfl rfl rfl (by decide +kernel) (by decide +kernel) rfl rfl (vm_u (vm_okh_v (c := 11) (by decide +kernel) (by decide +kernel)) (show vm_okn 172 3 4 0 0 3 = true by decide +kernel)) ?_
  refine vm_G.mono h ?_
  rintro _ m1 ⟨z1, rfl, h⟩
  show vm_G 175 10 [some (vm_r 96), some (vm_i v1), some (vm_i v2), some (vm_i v3)] [vm_i z1, vm_i v3, vm_i v2, vm_i v1, vm_r 96] m1 _
  refine vm_gc (g := 174) (na := 5) (av := [vm_r 96, vm_i v1, vm_i v2, vm_i v3, vm_i z1]) (rest := []) (i := (.invokevirtual 0, 174, 5, [])) (len := 3) (by decide +kernel) rfl rfl rfl (by decide +kernel) (by decide +kernel) rfl rfl (vm_u (vm_okh_v (c := 11) (by decide +kernel) (by decide +kernel)) (show vm_okn 174 5 0 0 0 5 = true by decide +kernel)) ?_
  refine vm_G.mono h ?_
  rintro _ m2 ⟨z2, rfl, h⟩
  show vm_G 175 13 [some (vm_r 96), some (vm_i v1), some (vm_i v2), some (vm_i v3)] [vm_i z2] m2 _
  exact vm_gr (r := some (vm_i z2)) (i := (.ireturn, 1, 0, [])) (len := 1) (by decide +kernel) rfl rfl rfl ⟨_, rfl, h⟩
abbrev ku11_widthOf_0 (v1 : Int) (v2 : Int) (m : vm_M) (Q : Int → vm_M → Prop) : Prop := vm_G 176 0 [some (vm_r 96), some (vm_i v1), some (vm_i v2), none, none] [] m (vm_qi Q)
abbrev ku11_widthOf_5 (v1 : Int) (v2 : Int) (v3 : Int) (v4 : Int) (m : vm_M) (Q : Int → vm_M → Prop) : Prop := vm_G 176 5 [some (vm_r 96), some (vm_i v1), some (vm_i v2), some (vm_i v3), some (vm_i v4)] [] m (vm_qi Q)
set_option maxRecDepth 20000 in
theorem ru11_widthOf_0 {v1 : Int} {v2 : Int} {m : vm_M} {Q : Int → vm_M → Prop}  (h :
    ku11_widthOf_5 v1 v2 0 0 m Q) : vm_C 176 [vm_r 96, vm_i v1, vm_i v2] m (vm_qi Q) := by
  show vm_G 176 0 [some (vm_r 96), some (vm_i v1), some (vm_i v2), none, none] [] m (vm_qi Q)
  refine vm_gp [(.iconst 0, 0, 0, []), (.istore 3, 0, 0, []), (.iconst 0, 0, 0, []), (.istore 4, 0, 0, [])] (pc1 := 5) (ls1 := [some (vm_r 96), some (vm_i v1), some (vm_i v2), some (vm_i 0), some (vm_i 0)]) (st1 := []) (m1 := m) (ob := true) (by decide +kernel) rfl rfl ?_
  exact h
set_option maxRecDepth 20000 in
theorem ru11_widthOf_5 {v1 : Int} {v2 : Int} {v3 : Int} {v4 : Int} {m : vm_M} {Q : Int → vm_M → Prop}  (h :
    (vm_C 167 [vm_r 96, vm_i v1] m (vm_qi (fun z1 m1 =>
      ((z1 ≤ v4 →
        ((1 ≤ v3 →
          Q v3 m1) ∧ (¬ 1 ≤ v3 →
          Q 1 m1))) ∧ (¬ z1 ≤ v4 →
        (vm_C 168 [vm_r 96, vm_i v1, vm_i v4] m1 (vm_qi (fun z2 m2 =>
          ((0 ≤ z2 ∧ z2 < 26)) ∧
          ((¬ v4 = 0 →
            ((vm_32 (v4 - 1))) ∧
            (vm_C 168 [vm_r 96, vm_i v1, vm_i (v4 - 1)] m2 (vm_qi (fun z3 m3 =>
              (vm_C 168 [vm_r 96, vm_i v1, vm_i v4] m3 (vm_qi (fun z4 m4 =>
                (vm_C 175 [vm_r 96, vm_i z3, vm_i z4, vm_i v2] m4 (vm_qi (fun z5 m5 =>
                  ((vm_32 ((m2 98 z2) + z5)) ∧ (vm_32 (v3 + ((m2 98 z2) + z5))) ∧ (vm_32 (v4 + 1))) ∧
                  ku11_widthOf_5 v1 v2 (v3 + ((m2 98 z2) + z5)) (v4 + 1) m5 Q)))))))))) ∧ (¬ ¬ v4 = 0 →
            ((vm_32 ((m2 98 z2) + 0)) ∧ (vm_32 (v3 + ((m2 98 z2) + 0))) ∧ (vm_32 (v4 + 1))) ∧
            ku11_widthOf_5 v1 v2 (v3 + ((m2 98 z2) + 0)) (v4 + 1) m2 Q))))))))))) : ku11_widthOf_5 v1 v2 v3 v4 m Q := by
  show vm_G 176 5 [some (vm_r 96), some (vm_i v1), some (vm_i v2), some (vm_i v3), some (vm_i v4)] [] m (vm_qi Q)
  refine vm_gp [(.iload 4, 0, 0, []), (.aload 0, 0, 0, []), (.iload 1, 0, 0, [])] (pc1 := 9) (ls1 := [some (vm_r 96), some (vm_i v1), some (vm_i v2), some (vm_i v3), some (vm_i v4)]) (st1 := [vm_i v1, vm_r 96, vm_i v4]) (m1 := m) (ob := true) (by decide +kernel) rfl rfl ?_
  refine vm_gc (g := 167) (na := 2) (av := [vm_r 96, vm_i v1]) (rest := [vm_i v4]) (i := (.invokevirtual 0, 167, 2, [])) (len := 3) (by decide +kernel) rfl rfl rfl (by decide +kernel) (by decide +kernel) rfl rfl (vm_u (vm_okh_v (c := 11) (by decide +kernel) (by decide +kernel)) (show vm_okn 167 2 1 0 0 2 = true by decide +kernel)) ?_
  refine vm_G.mono h ?_
  rintro _ m1 ⟨z1, rfl, h⟩
  show vm_G 176 12 [some (vm_r 96), some (vm_i v1), some (vm_i v2), some (vm_i v3), some (vm_i v4)] [vm_i z1, vm_i v4] m1 _
  refine vm_gj (c := z1 ≤ v4) (t := 67) (e := 15) (i := (.if_icmp .ge 0, 67, 0, [])) (len := 3) (st1 := []) (by decide +kernel) rfl rfl (fun c1 => ?_) (fun c1 => ?_)
  · replace h := h.1 c1
    refine vm_gp [(.iload 3, 0, 0, []), (.iconst 1, 0, 0, [])] (pc1 := 69) (ls1 := [some (vm_r 96), some (vm_i v1), some (vm_i v2), some (vm_i v3), some (vm_i v4)]) (st1 := [vm_i 1, vm_i v3]) (m1 := m1) (ob := true) (by decide +kernel) rfl rfl ?_
    refine vm_gj (c := 1 ≤ v3) (t := 76) (e := 72) (i := (.if_icmp .ge 0, 76, 0, [])) (len := 3) (st1 := []) (by decide +kernel) rfl rfl (fun c2 => ?_) (fun c2 => ?_)
    · replace h := h.1 c2
      refine vm_gp [(.iload 3, 0, 0, [])] (pc1 := 77) (ls1 := [some (vm_r 96), some (vm_i v1), some (vm_i v2), some (vm_i v3), some (vm_i v4)]) (st1 := [vm_i v3]) (m1 := m1) (ob := true) (by decide +kernel) rfl rfl ?_
      exact vm_gr (r := some (vm_i v3)) (i := (.ireturn, 1, 0, [])) (len := 1) (by decide +kernel) rfl rfl rfl ⟨_, rfl, h⟩
    · replace h := h.2 c2
      refine vm_gp [(.iconst 1, 0, 0, []), (.goto 0, 77, 0, [])] (pc1 := 77) (ls1 := [some (vm_r 96), some (vm_i v1), some (vm_i v2), some (vm_i v3), some (vm_i v4)]) (st1 := [vm_i 1]) (m1 := m1) (ob := true) (by decide +kernel) rfl rfl ?_
      exact vm_gr (r := some (vm_i 1)) (i := (.ireturn, 1, 0, [])) (len := 1) (by decide +kernel) rfl rfl rfl ⟨_, rfl, h⟩
  · replace h := h.2 c1
    refine vm_gp [(.iload 3, 0, 0, []), (.aload 0, 0, 0, []), (.getfield 2, 11, 5, [(98, 0)]), (.aload 0, 0, 0, []), (.iload 1, 0, 0, []), (.iload 4, 0, 0, [])] (pc1 := 24) (ls1 := [some (vm_r 96), some (vm_i v1), some (vm_i v2), some (vm_i v3), some (vm_i v4)]) (st1 := [vm_i v4, vm_i v1, vm_r 96, vm_r 98, vm_i v3]) (m1 := m1) (ob := ((true && vm_is 96 11) && true)) (by decide +kernel) rfl (vm_u (vm_u rfl (by decide +kernel)) rfl) ?_
    refine vm_gc (g := 168) (na := 3) (av := [vm_r 96, vm_i v1, vm_i v4]) (rest := [vm_r 98, vm_i v3]) (i := (.invokevirtual 0, 168, 3, [])) (len := 3) (by decide +kernel) rfl rfl rfl (by decide +kernel) (by decide +kernel) rfl rfl (vm_u (vm_okh_v (c := 11) (by decide +kernel) (by decide +kernel)) (show vm_okn 168 3 2 0 0 3 = true by decide +kernel)) ?_
    refine vm_G.mono h ?_
    rintro _ m2 ⟨z2, rfl, h⟩
    show vm_G 176 27 [some (vm_r 96), some (vm_i v1), some (vm_i v2), some (vm_i v3), some (vm_i v4)] [vm_i z2, vm_r 98, vm_i v3] m2 _
    obtain ⟨o7_0, h⟩ := h
    refine vm_gp [(.iaload, 26, 0, []), (.iload 4, 0, 0, [])] (pc1 := 30) (ls1 := [some (vm_r 96), some (vm_i v1), some (vm_i v2), some (vm_i v3), some (vm_i v4)]) (st1 := [vm_i v4, vm_i (m2 98 z2), vm_i v3]) (m1 := m2) (ob := ((true && vm_ar 98 100 26) && decide (0 ≤ z2 ∧ z2 < 26))) (by decide +kernel) rfl (vm_t (vm_u rfl (by decide +kernel)) o7_0) ?_
    refine vm_gj (c := ¬ v4 = 0) (t := 37) (e := 33) (i := (.ifCond .ne 0, 37, 0, [])) (len := 3) (st1 := [vm_i (m2 98 z2), vm_i v3]) (by decide +kernel) rfl rfl (fun c3 => ?_) (fun c3 => ?_)
    · replace h := h.1 c3
      obtain ⟨o8_0, h⟩ := h
      refine vm_gp [(.aload 0, 0, 0, []), (.aload 0, 0, 0, []), (.iload 1, 0, 0, []), (.iload 4, 0, 0, []), (.iconst 1, 0, 0, []), (.isub, 0, 0, [])] (pc1 := 44) (ls1 := [some (vm_r 96), some (vm_i v1), some (vm_i v2), some (vm_i v3), some (vm_i v4)]) (st1 := [vm_i (v4 - 1), vm_i v1, vm_r 96, vm_r 96, vm_i (m2 98 z2), vm_i v3]) (m1 := m2) (ob := (true && decide (vm_32 (v4 - 1)))) (by decide +kernel) rfl (vm_t rfl o8_0) ?_
      refine vm_gc (g := 168) (na := 3) (av := [vm_r 96, vm_i v1, vm_i (v4 - 1)]) (rest := [vm_r 96, vm_i (m2 98 z2), vm_i v3]) (i := (.invokevirtual 0, 168, 3, [])) (len := 3) (by decide +kernel) rfl rfl rfl (by decide +kernel) (by decide +kernel) rfl rfl (vm_u (vm_okh_v (c := 11) (by decide +kernel) (by decide +kernel)) (show vm_okn 168 3 3 0 0 3 = true by decide +kernel)) ?_
      refine vm_G.mono h ?_
      rintro _ m3 ⟨z3, rfl, h⟩
      show vm_G 176 47 [some (vm_r 96), some (vm_i v1), some (vm_i v2), some (vm_i v3), some (vm_i v4)] [vm_i z3, vm_r 96, vm_i (m2 98 z2), vm_i v3] m3 _
      refine vm_gp [(.aload 0, 0, 0, []), (.iload 1, 0, 0, []), (.iload 4, 0, 0, [])] (pc1 := 51) (ls1 := [some (vm_r 96), some (vm_i v1), some (vm_i v2), some (vm_i v3), some (vm_i v4)]) (st1 := [vm_i v4, vm_i v1, vm_r 96, vm_i z3, vm_r 96, vm_i (m2 98 z2), vm_i v3]) (m1 := m3) (ob := true) (by decide +kernel) rfl rfl ?_
      refine vm_gc (g := 168) (na := 3) (av := [vm_r 96, vm_i v1, vm_i v4]) (rest := [vm_i z3, vm_r 96, vm_i (m2 98 z2), vm_i v3]) (i := (.invokevirtual 0, 168, 3, [])) (len := 3) (by decide +kernel) rfl rfl rfl (by decide +kernel) (by decide +kernel) rfl rfl (vm_u (vm_okh_v (c := 11) (by decide +kernel) (by decide +kernel)) (show vm_okn 168 3 4 0 0 3 = true by decide +kernel)) ?_
      refine vm_G.mono h ?_
      rintro _ m4 ⟨z4, rfl, h⟩
      show vm_G 176 54 [some (vm_r 96), some (vm_i v1), some (vm_i v2), some (vm_i v3), some (vm_i v4)] [vm_i z4, vm_i z3, vm_r 96, vm_i (m2 98 z2), vm_i v3] m4 _
      refine vm_gp [(.iload 2, 0, 0, [])] (pc1 := 55) (ls1 := [some (vm_r 96), some (vm_i v1), some (vm_i v2), some (vm_i v3), some (vm_i v4)]) (st1 := [vm_i v2, vm_i z4, vm_i z3, vm_r 96, vm_i (m2 98 z2), vm_i v3]) (m1 := m4) (ob := true) (by decide +kernel) rfl rfl ?_
      refine vm_gc (g := 175) (na := 4) (av := [vm_r 96, vm_i z3, vm_i z4, vm_i v2]) (rest := [vm_i (m2 98 z2), vm_i v3]) (i := (.invokevirtual 0, 175, 4, [])) (len := 3) (by decide +kernel) rfl rfl rfl (by decide +kernel) (by decide +kernel) rfl rfl (vm_u (vm_okh_v (c := 11) (by decide +kernel) (by decide +kernel)) (show vm_okn 175 4 2 0 0 4 = true by decide +kernel)) ?_
      refine vm_G.mono h ?_
      rintro _ m5 ⟨z5, rfl, h⟩
      show vm_G 176 58 [some (vm_r 96), some (vm_i v1), some (vm_i v2), some (vm_i v3), some (vm_i v4)] [vm_i z5, vm_i (m2 98 z2), vm_i v3] m5 _
      obtain ⟨⟨o11_0, o11_1, o11_2⟩, h⟩ := h
      refine vm_gp [(.iadd, 0, 0, []), (.iadd, 0, 0, []), (.istore 3, 0, 0, []), (.iinc 4 1, 0, 0, []), (.goto 0, 5, 0, [])] (pc1 := 5) (ls1 := [some (vm_r 96), some (vm_i v1), some (vm_i v2), some (vm_i (v3 + ((m2 98 z2) + z5))), some (vm_i (v4 + 1))]) (st1 := []) (m1 := m5) (ob := (((true && decide (vm_32 ((m2 98 z2) + z5))) && decide (vm_32 (v3 + ((m2 98 z2) + z5)))) && decide (vm_32 (v4 + 1)))) (by decide +kernel) rfl (vm_t (vm_t (vm_t rfl o11_0) o11_1) o11_2) ?_
      exact h
    · replace h := h.2 c3
      obtain ⟨⟨o12_0, o12_1, o12_2⟩, h⟩ := h
      refine vm_gp [(.iconst 0, 0, 0, []), (.goto 0, 58, 0, []), (.iadd, 0, 0, []), (.iadd, 0, 0, []), (.istore 3, 0, 0, []), (.iinc 4 1, 0, 0, []), (.goto 0, 5, 0, [])] (pc1 := 5) (ls1 := [some (vm_r 96), some (vm_i v1), some (vm_i v2), some (vm_i (v3 + ((m2 98 z2) + 0))), some (vm_i (v4 + 1))]) (st1 := []) (m1 := m2) (ob := (((true && decide (vm_32 ((m2 98 z2) + 0))) && decide (vm_32 (v3 + ((m2 98 z2) + 0)))) && decide (vm_32 (v4 + 1)))) (by decide +kernel) rfl (vm_t (vm_t (vm_t rfl o12_0) o12_1) o12_2) ?_
      exact h
abbrev ku11_laysWidths_0  (m : vm_M) (Q : vm_M → Prop) : Prop := vm_G 177 0 [some (vm_r 96), none] [] m (vm_qv Q)
abbrev ku11_laysWidths_2 (v1 : Int) (m : vm_M) (Q : vm_M → Prop) : Prop := vm_G 177 2 [some (vm_r 96), some (vm_i v1)] [] m (vm_qv Q)
set_option maxRecDepth 20000 in
theorem ru11_laysWidths_0  {m : vm_M} {Q : vm_M → Prop}  (h :
    ku11_laysWidths_2 0 m Q) : vm_C 177 [vm_r 96] m (vm_qv Q) := by
  show vm_G 177 0 [some (vm_r 96), none] [] m (vm_qv Q)
  refine vm_gp [(.iconst 0, 0, 0, []), (.istore 1, 0, 0, [])] (pc1 := 2) (ls1 := [some (vm_r 96), some (vm_i 0)]) (st1 := []) (m1 := m) (ob := true) (by decide +kernel) rfl rfl ?_
  exact h
set_option maxRecDepth 20000 in
theorem ru11_laysWidths_2 {v1 : Int} {m : vm_M} {Q : vm_M → Prop}  (h :
    (((m 100 8) ≤ v1 →
      Q m) ∧ (¬ (m 100 8) ≤ v1 →
      (vm_C 176 [vm_r 96, vm_i v1, vm_i (m 100 3)] m (vm_qi (fun z1 m1 =>
        ((0 ≤ v1 ∧ v1 < 30) ∧ (vm_32 (v1 + 1))) ∧
        ku11_laysWidths_2 (v1 + 1) (vm_st m1 104 v1 z1) Q)))))) : ku11_laysWidths_2 v1 m Q := by
  show vm_G 177 2 [some (vm_r 96), some (vm_i v1)] [] m (vm_qv Q)
  refine vm_gp [(.iload 1, 0, 0, []), (.aload 0, 0, 0, []), (.getfield 2, 11, 7, [(100, 0)]), (.iconst 8, 0, 0, []), (.iaload, 1075, 0, [])] (pc1 := 10) (ls1 := [some (vm_r 96), some (vm_i v1)]) (st1 := [vm_i (m 100 8), vm_i v1]) (m1 := m) (ob := ((((true && vm_is 96 11) && true) && vm_ar 100 100 1075) && decide ((0 : Int) ≤ 8 ∧ (8 : Int) < 1075))) (by decide +kernel) rfl (vm_t (vm_u (vm_u (vm_u rfl (by decide +kernel)) rfl) (by decide +kernel)) (by decide)) ?_
  refine vm_gj (c := (m 100 8) ≤ v1) (t := 36) (e := 13) (i := (.if_icmp .ge 0, 36, 0, [])) (len := 3) (st1 := []) (by decide +kernel) rfl rfl (fun c1 => ?_) (fun c1 => ?_)
  · replace h := h.1 c1
    exact vm_gr (r := none) (i := (.return_, 0, 0, [])) (len := 1) (by decide +kernel) rfl rfl rfl ⟨rfl, h⟩
  · replace h := h.2 c1
    refine vm_gp [(.aload 0, 0, 0, []), (.getfield 2, 11, 12, [(104, 0)]), (.iload 1, 0, 0, []), (.aload 0, 0, 0, []), (.iload 1, 0, 0, []), (.aload 0, 0, 0, []), (.getfield 2, 11, 7, [(100, 0)]), (.iconst 3, 0, 0, []), (.iaload, 1075, 0, [])] (pc1 := 26) (ls1 := [some (vm_r 96), some (vm_i v1)]) (st1 := [vm_i (m 100 3), vm_i v1, vm_r 96, vm_i v1, vm_r 104]) (m1 := m) (ob := ((((((true && vm_is 96 11) && true) && vm_is 96 11) && true) && vm_ar 100 100 1075) && decide ((0 : Int) ≤ 3 ∧ (3 : Int) < 1075))) (by decide +kernel) rfl (vm_t (vm_u (vm_u (vm_u (vm_u (vm_u rfl (by decide +kernel)) rfl) (by decide +kernel)) rfl) (by decide +kernel)) (by decide)) ?_
    refine vm_gc (g := 176) (na := 3) (av := [vm_r 96, vm_i v1, vm_i (m 100 3)]) (rest := [vm_i v1, vm_r 104]) (i := (.invokevirtual 0, 176, 3, [])) (len := 3) (by decide +kernel) rfl rfl rfl (by decide +kernel) (by decide +kernel) rfl rfl (vm_u (vm_okh_v (c := 11) (by decide +kernel) (by decide +kernel)) (show vm_okn 176 3 2 0 0 3 = true by decide +kernel)) ?_
    refine vm_G.mono h ?_
    rintro _ m1 ⟨z1, rfl, h⟩
    show vm_G 177 29 [some (vm_r 96), some (vm_i v1)] [vm_i z1, vm_i v1, vm_r 104] m1 _
    obtain ⟨⟨o4_0, o4_1⟩, h⟩ := h
    refine vm_gp [(.iastore, 30, 0, []), (.iinc 1 1, 0, 0, []), (.goto 0, 2, 0, [])] (pc1 := 2) (ls1 := [some (vm_r 96), some (vm_i (v1 + 1))]) (st1 := []) (m1 := (vm_st m1 104 v1 z1)) (ob := (((true && vm_ar 104 100 30) && decide (0 ≤ v1 ∧ v1 < 30)) && decide (vm_32 (v1 + 1)))) (by decide +kernel) rfl (vm_t (vm_t (vm_u rfl (by decide +kernel)) o4_0) o4_1) ?_
    exact h
abbrev ku11_rowWidth_0 (v1 : Int) (v2 : Int) (m : vm_M) (Q : Int → vm_M → Prop) : Prop := vm_G 178 0 [some (vm_r 96), some (vm_i v1), some (vm_i v2), none, none] [] m (vm_qi Q)
abbrev ku11_rowWidth_16 (v1 : Int) (v2 : Int) (v3 : Int) (v4 : Int) (m : vm_M) (Q : Int → vm_M → Prop) : Prop := vm_G 178 16 [some (vm_r 96), some (vm_i v1), some (vm_i v2), some (vm_i v3), some (vm_i v4)] [] m (vm_qi Q)
set_option maxRecDepth 20000 in
theorem ru11_rowWidth_0 {v1 : Int} {v2 : Int} {m : vm_M} {Q : Int → vm_M → Prop}  (h :
    ((vm_32 (v2 - v1)) ∧ (vm_32 ((v2 - v1) - 1)) ∧ (vm_32 ((m 100 4) * ((v2 - v1) - 1)))) ∧
    ku11_rowWidth_16 v1 v2 ((m 100 4) * ((v2 - v1) - 1)) v1 m Q) : vm_C 178 [vm_r 96, vm_i v1, vm_i v2] m (vm_qi Q) := by
  show vm_G 178 0 [some (vm_r 96), some (vm_i v1), some (vm_i v2), none, none] [] m (vm_qi Q)
  obtain ⟨⟨o1_0, o1_1, o1_2⟩, h⟩ := h
  refine vm_gp [(.aload 0, 0, 0, []), (.getfield 2, 11, 7, [(100, 0)]), (.iconst 4, 0, 0, []), (.iaload, 1075, 0, []), (.iload 2, 0, 0, []), (.iload 1, 0, 0, []), (.isub, 0, 0, []), (.iconst 1, 0, 0, []), (.isub, 0, 0, []), (.imul, 0, 0, []), (.istore 3, 0, 0, []), (.iload 1, 0, 0, []), (.istore 4, 0, 0, [])] (pc1 := 16) (ls1 := [some (vm_r 96), some (vm_i v1), some (vm_i v2), some (vm_i ((m 100 4) * ((v2 - v1) - 1))), some (vm_i v1)]) (st1 := []) (m1 := m) (ob := (((((((true && vm_is 96 11) && true) && vm_ar 100 100 1075) && decide ((0 : Int) ≤ 4 ∧ (4 : Int) < 1075)) && decide (vm_32 (v2 - v1))) && decide (vm_32 ((v2 - v1) - 1))) && decide (vm_32 ((m 100 4) * ((v2 - v1) - 1))))) (by decide +kernel) rfl (vm_t (vm_t (vm_t (vm_t (vm_u (vm_u (vm_u rfl (by decide +kernel)) rfl) (by decide +kernel)) (by decide)) o1_0) o1_1) o1_2) ?_
  exact h
set_option maxRecDepth 20000 in
theorem ru11_rowWidth_16 {v1 : Int} {v2 : Int} {v3 : Int} {v4 : Int} {m : vm_M} {Q : Int → vm_M → Prop}  (h :
    ((v2 ≤ v4 →
      ((vm_32 (v3 * (m 100 5)))) ∧
      Q (v3 * (m 100 5)) m) ∧ (¬ v2 ≤ v4 →
      ((0 ≤ v4 ∧ v4 < 30) ∧ (vm_32 (v3 + (m 104 v4))) ∧ (vm_32 (v4 + 1))) ∧
      ku11_rowWidth_16 v1 v2 (v3 + (m 104 v4)) (v4 + 1) m Q))) : ku11_rowWidth_16 v1 v2 v3 v4 m Q := by
  show vm_G 178 16 [some (vm_r 96), some (vm_i v1), some (vm_i v2), some (vm_i v3), some (vm_i v4)] [] m (vm_qi Q)
  refine vm_gp [(.iload 4, 0, 0, []), (.iload 2, 0, 0, [])] (pc1 := 19) (ls1 := [some (vm_r 96), some (vm_i v1), some (vm_i v2), some (vm_i v3), some (vm_i v4)]) (st1 := [vm_i v2, vm_i v4]) (m1 := m) (ob := true) (by decide +kernel) rfl rfl ?_
  refine vm_gj (c := v2 ≤ v4) (t := 38) (e := 22) (i := (.if_icmp .ge 0, 38, 0, [])) (len := 3) (st1 := []) (by decide +kernel) rfl rfl (fun c1 => ?_) (fun c1 => ?_)
  · replace h := h.1 c1
    obtain ⟨o2_0, h⟩ := h
    refine vm_gp [(.iload 3, 0, 0, []), (.aload 0, 0, 0, []), (.getfield 2, 11, 7, [(100, 0)]), (.iconst 5, 0, 0, []), (.iaload, 1075, 0, []), (.imul, 0, 0, [])] (pc1 := 46) (ls1 := [some (vm_r 96), some (vm_i v1), some (vm_i v2), some (vm_i v3), some (vm_i v4)]) (st1 := [vm_i (v3 * (m 100 5))]) (m1 := m) (ob := (((((true && vm_is 96 11) && true) && vm_ar 100 100 1075) && decide ((0 : Int) ≤ 5 ∧ (5 : Int) < 1075)) && decide (vm_32 (v3 * (m 100 5))))) (by decide +kernel) rfl (vm_t (vm_t (vm_u (vm_u (vm_u rfl (by decide +kernel)) rfl) (by decide +kernel)) (by decide)) o2_0) ?_
    exact vm_gr (r := some (vm_i (v3 * (m 100 5)))) (i := (.ireturn, 1, 0, [])) (len := 1) (by decide +kernel) rfl rfl rfl ⟨_, rfl, h⟩
  · replace h := h.2 c1
    obtain ⟨⟨o3_0, o3_1, o3_2⟩, h⟩ := h
    refine vm_gp [(.iload 3, 0, 0, []), (.aload 0, 0, 0, []), (.getfield 2, 11, 12, [(104, 0)]), (.iload 4, 0, 0, []), (.iaload, 30, 0, []), (.iadd, 0, 0, []), (.istore 3, 0, 0, []), (.iinc 4 1, 0, 0, []), (.goto 0, 16, 0, [])] (pc1 := 16) (ls1 := [some (vm_r 96), some (vm_i v1), some (vm_i v2), some (vm_i (v3 + (m 104 v4))), some (vm_i (v4 + 1))]) (st1 := []) (m1 := m) (ob := ((((((true && vm_is 96 11) && true) && vm_ar 104 100 30) && decide (0 ≤ v4 ∧ v4 < 30)) && decide (vm_32 (v3 + (m 104 v4)))) && decide (vm_32 (v4 + 1)))) (by decide +kernel) rfl (vm_t (vm_t (vm_t (vm_u (vm_u (vm_u rfl (by decide +kernel)) rfl) (by decide +kernel)) o3_0) o3_1) o3_2) ?_
    exact h
abbrev ku11_isRow_0 (v1 : Int) (v2 : Int) (m : vm_M) (Q : Int → vm_M → Prop) : Prop := vm_G 179 0 [some (vm_r 96), some (vm_i v1), some (vm_i v2)] [] m (vm_qi Q)
set_option maxRecDepth 20000 in
theorem ru11_isRow_0 {v1 : Int} {v2 : Int} {m : vm_M} {Q : Int → vm_M → Prop}  (h :
    ((vm_32 (v2 - v1))) ∧
    (((v2 - v1) = 1 →
      Q 1 m) ∧ (¬ (v2 - v1) = 1 →
      (vm_C 178 [vm_r 96, vm_i v1, vm_i v2] m (vm_qi (fun z1 m1 =>
        (((m1 100 0) < z1 →
          Q 0 m1) ∧ (¬ (m1 100 0) < z1 →
          Q 1 m1)))))))) : vm_C 179 [vm_r 96, vm_i v1, vm_i v2] m (vm_qi Q) := by
  show vm_G 179 0 [some (vm_r 96), some (vm_i v1), some (vm_i v2)] [] m (vm_qi Q)
  obtain ⟨o1_0, h⟩ := h
  refine vm_gp [(.iload 2, 0, 0, []), (.iload 1, 0, 0, []), (.isub, 0, 0, []), (.iconst 1, 0, 0, [])] (pc1 := 4) (ls1 := [some (vm_r 96), some (vm_i v1), some (vm_i v2)]) (st1 := [vm_i 1, vm_i (v2 - v1)]) (m1 := m) (ob := (true && decide (vm_32 (v2 - v1)))) (by decide +kernel) rfl (vm_t rfl o1_0) ?_
  refine vm_gj (c := (v2 - v1) = 1) (t := 22) (e := 7) (i := (.if_icmp .eq 0, 22, 0, [])) (len := 3) (st1 := []) (by decide +kernel) rfl rfl (fun c1 => ?_) (fun c1 => ?_)
  · replace h := h.1 c1
    refine vm_gp [(.iconst 1, 0, 0, []), (.goto 0, 27, 0, [])] (pc1 := 27) (ls1 := [some (vm_r 96), some (vm_i v1), some (vm_i v2)]) (st1 := [vm_i 1]) (m1 := m) (ob := true) (by decide +kernel) rfl rfl ?_
    exact vm_gr (r := some (vm_i 1)) (i := (.ireturn, 2, 0, [])) (len := 1) (by decide +kernel) rfl rfl (by decide) ⟨_, rfl, h⟩
  · replace h := h.2 c1
    refine vm_gp [(.aload 0, 0, 0, []), (.iload 1, 0, 0, []), (.iload 2, 0, 0, [])] (pc1 := 10) (ls1 := [some (vm_r 96), some (vm_i v1), some (vm_i v2)]) (st1 := [vm_i v2, vm_i v1, vm_r 96]) (m1 := m) (ob := true) (by decide +kernel) rfl rfl ?_
    refine vm_gc (g := 178) (na := 3) (av := [vm_r 96, vm_i v1, vm_i v2]) (rest := []) (i := (.invokevirtual 0, 178, 3, [])) (len := 3) (by decide +kernel) rfl rfl rfl (by decide +kernel) (by decide +kernel) rfl rfl (vm_u (vm_okh_v (c := 11) (by decide +kernel) (by decide +kernel)) (show vm_okn 178 3 0 0 0 3 = true by decide +kernel)) ?_
    refine vm_G.mono h ?_
    rintro _ m1 ⟨z1, rfl, h⟩
    show vm_G 179 13 [some (vm_r 96), some (vm_i v1), some (vm_i v2)] [vm_i z1] m1 _
    refine vm_gp [(.aload 0, 0, 0, []), (.getfield 2, 11, 7, [(100, 0)]), (.iconst 0, 0, 0, []), (.iaload, 1075, 0, [])] (pc1 := 19) (ls1 := [some (vm_r 96), some (vm_i v1), some (vm_i v2)]) (st1 := [vm_i (m1 100 0), vm_i z1]) (m1 := m1) (ob := ((((true && vm_is 96 11) && true) && vm_ar 100 100 1075) && decide ((0 : Int) ≤ 0 ∧ (0 : Int) < 1075))) (by decide +kernel) rfl (vm_t (vm_u (vm_u (vm_u rfl (by decide +kernel)) rfl) (by decide +kernel)) (by decide)) ?_
    refine vm_gj (c := (m1 100 0) < z1) (t := 26) (e := 22) (i := (.if_icmp .gt 0, 26, 0, [])) (len := 3) (st1 := []) (by decide +kernel) rfl rfl (fun c2 => ?_) (fun c2 => ?_)
    · replace h := h.1 c2
      refine vm_gp [(.iconst 0, 0, 0, [])] (pc1 := 27) (ls1 := [some (vm_r 96), some (vm_i v1), some (vm_i v2)]) (st1 := [vm_i 0]) (m1 := m1) (ob := true) (by decide +kernel) rfl rfl ?_
      exact vm_gr (r := some (vm_i 0)) (i := (.ireturn, 2, 0, [])) (len := 1) (by decide +kernel) rfl rfl (by decide) ⟨_, rfl, h⟩
    · replace h := h.2 c2
      refine vm_gp [(.iconst 1, 0, 0, []), (.goto 0, 27, 0, [])] (pc1 := 27) (ls1 := [some (vm_r 96), some (vm_i v1), some (vm_i v2)]) (st1 := [vm_i 1]) (m1 := m1) (ob := true) (by decide +kernel) rfl rfl ?_
      exact vm_gr (r := some (vm_i 1)) (i := (.ireturn, 2, 0, [])) (len := 1) (by decide +kernel) rfl rfl (by decide) ⟨_, rfl, h⟩
abbrev ku11_squareOf_0 (v1 : Int) (v2 : Int) (m : vm_M) (Q : Int → vm_M → Prop) : Prop := vm_G 180 0 [some (vm_r 96), some (vm_i v1), some (vm_i v2), none, none] [] m (vm_ql Q)
set_option maxRecDepth 20000 in
theorem ru11_squareOf_0 {v1 : Int} {v2 : Int} {m : vm_M} {Q : Int → vm_M → Prop}  (h :
    (vm_C 178 [vm_r 96, vm_i v1, vm_i v2] m (vm_qi (fun z1 m1 =>
      ((vm_32 ((m 100 0) - z1))) ∧
      ((0 ≤ (if ((m 100 0) - z1) < 0 then -1 else if ((m 100 0) - z1) = 0 then 0 else 1) →
        ((vm_64 (((m 100 0) - z1) * ((m 100 0) - z1)))) ∧
        Q (((m 100 0) - z1) * ((m 100 0) - z1)) m1) ∧ (¬ 0 ≤ (if ((m 100 0) - z1) < 0 then -1 else if ((m 100 0) - z1) = 0 then 0 else 1) →
        Q 0 m1)))))) : vm_C 180 [vm_r 96, vm_i v1, vm_i v2] m (vm_ql Q) := by
  show vm_G 180 0 [some (vm_r 96), some (vm_i v1), some (vm_i v2), none, none] [] m (vm_ql Q)
  refine vm_gp [(.aload 0, 0, 0, []), (.getfield 2, 11, 7, [(100, 0)]), (.iconst 0, 0, 0, []), (.iaload, 1075, 0, []), (.aload 0, 0, 0, []), (.iload 1, 0, 0, []), (.iload 2, 0, 0, [])] (pc1 := 9) (ls1 := [some (vm_r 96), some (vm_i v1), some (vm_i v2), none, none]) (st1 := [vm_i v2, vm_i v1, vm_r 96, vm_i (m 100 0)]) (m1 := m) (ob := ((((true && vm_is 96 11) && true) && vm_ar 100 100 1075) && decide ((0 : Int) ≤ 0 ∧ (0 : Int) < 1075))) (by decide +kernel) rfl (vm_t (vm_u (vm_u (vm_u rfl (by decide +kernel)) rfl) (by decide +kernel)) (by decide)) ?_
  refine vm_gc (g := 178) (na := 3) (av := [vm_r 96, vm_i v1, vm_i v2]) (rest := [vm_i (m 100 0)]) (i := (.invokevirtual 0, 178, 3, [])) (len := 3) (by decide +kernel) rfl rfl rfl (by decide +kernel) (by decide +kernel) rfl rfl (vm_u (vm_okh_v (c := 11) (by decide +kernel) (by decide +kernel)) (show vm_okn 178 3 1 0 0 3 = true by decide +kernel)) ?_
  refine vm_G.mono h ?_
  rintro _ m1 ⟨z1, rfl, h⟩
  show vm_G 180 12 [some (vm_r 96), some (vm_i v1), some (vm_i v2), none, none] [vm_i z1, vm_i (m 100 0)] m1 _
  obtain ⟨o2_0, h⟩ := h
  refine vm_gp [(.isub, 0, 0, []), (.i2l, 0, 0, []), (.lstore 3, 0, 0, []), (.lload 3, 0, 0, []), (.ldc2_w 0, 0, 0, [(0, 0)]), (.lcmp, 0, 0, [])] (pc1 := 18) (ls1 := [some (vm_r 96), some (vm_i v1), some (vm_i v2), some (vm_l ((m 100 0) - z1)), none]) (st1 := [vm_i (if ((m 100 0) - z1) < 0 then -1 else if ((m 100 0) - z1) = 0 then 0 else 1)]) (m1 := m1) (ob := (true && decide (vm_32 ((m 100 0) - z1)))) (by decide +kernel) rfl (vm_t rfl o2_0) ?_
  refine vm_gj (c := 0 ≤ (if ((m 100 0) - z1) < 0 then -1 else if ((m 100 0) - z1) = 0 then 0 else 1)) (t := 25) (e := 21) (i := (.ifCond .ge 0, 25, 0, [])) (len := 3) (st1 := []) (by decide +kernel) rfl rfl (fun c1 => ?_) (fun c1 => ?_)
  · replace h := h.1 c1
    obtain ⟨o3_0, h⟩ := h
    refine vm_gp [(.lload 3, 0, 0, []), (.lload 3, 0, 0, []), (.lmul, 0, 0, [])] (pc1 := 28) (ls1 := [some (vm_r 96), some (vm_i v1), some (vm_i v2), some (vm_l ((m 100 0) - z1)), none]) (st1 := [vm_l (((m 100 0) - z1) * ((m 100 0) - z1))]) (m1 := m1) (ob := (true && decide (vm_64 (((m 100 0) - z1) * ((m 100 0) - z1))))) (by decide +kernel) rfl (vm_t rfl o3_0) ?_
    exact vm_gr (r := some (vm_l (((m 100 0) - z1) * ((m 100 0) - z1)))) (i := (.lreturn, 3, 0, [])) (len := 1) (by decide +kernel) rfl rfl rfl ⟨_, rfl, h⟩
  · replace h := h.2 c1
    refine vm_gp [(.ldc2_w 0, 0, 0, [(0, 0)]), (.goto 0, 28, 0, [])] (pc1 := 28) (ls1 := [some (vm_r 96), some (vm_i v1), some (vm_i v2), some (vm_l ((m 100 0) - z1)), none]) (st1 := [vm_l 0]) (m1 := m1) (ob := true) (by decide +kernel) rfl rfl ?_
    exact vm_gr (r := some (vm_l 0)) (i := (.lreturn, 3, 0, [])) (len := 1) (by decide +kernel) rfl rfl rfl ⟨_, rfl, h⟩
abbrev ku11_breaksGreedily_0  (m : vm_M) (Q : Int → vm_M → Prop) : Prop := vm_G 181 0 [some (vm_r 96), none, none, none] [] m (vm_qi Q)
abbrev ku11_breaksGreedily_4 (v1 : Int) (v2 : Int) (w3 : Option vm_V) (m : vm_M) (Q : Int → vm_M → Prop) : Prop := vm_G 181 4 [some (vm_r 96), some (vm_i v1), some (vm_i v2), w3] [] m (vm_qi Q)
abbrev ku11_breaksGreedily_32 (v1 : Int) (v2 : Int) (v3 : Int) (m : vm_M) (Q : Int → vm_M → Prop) : Prop := vm_G 181 32 [some (vm_r 96), some (vm_i v1), some (vm_i v2), some (vm_i v3)] [] m (vm_qi Q)
set_option maxRecDepth 20000 in
theorem ru11_breaksGreedily_0  {m : vm_M} {Q : Int → vm_M → Prop}  (h :
    ku11_breaksGreedily_4 0 0 none m Q) : vm_C 181 [vm_r 96] m (vm_qi Q) := by
  show vm_G 181 0 [some (vm_r 96), none, none, none] [] m (vm_qi Q)
  refine vm_gp [(.iconst 0, 0, 0, []), (.istore 1, 0, 0, []), (.iconst 0, 0, 0, []), (.istore 2, 0, 0, [])] (pc1 := 4) (ls1 := [some (vm_r 96), some (vm_i 0), some (vm_i 0), none]) (st1 := []) (m1 := m) (ob := true) (by decide +kernel) rfl rfl ?_
  exact h
set_option maxRecDepth 20000 in
theorem ru11_breaksGreedily_4 {v1 : Int} {v2 : Int} {w3 : Option vm_V} {m : vm_M} {Q : Int → vm_M → Prop}  (h :
    (((m 100 8) ≤ v2 →
      Q v1 m) ∧ (¬ (m 100 8) ≤ v2 →
      ((12 ≤ v1 →
        ((vm_32 (v2 + 1))) ∧
        ku11_breaksGreedily_32 v1 v2 (v2 + 1) m Q) ∧ (¬ 12 ≤ v1 →
        ((0 ≤ v1 ∧ v1 < 14) ∧ (vm_32 (v2 + 1))) ∧
        ku11_breaksGreedily_32 v1 v2 (v2 + 1) (vm_st m 105 v1 v2) Q))))) : ku11_breaksGreedily_4 v1 v2 w3 m Q := by
  show vm_G 181 4 [some (vm_r 96), some (vm_i v1), some (vm_i v2), w3] [] m (vm_qi Q)
  refine vm_gp [(.iload 2, 0, 0, []), (.aload 0, 0, 0, []), (.getfield 2, 11, 7, [(100, 0)]), (.iconst 8, 0, 0, []), (.iaload, 1075, 0, [])] (pc1 := 12) (ls1 := [some (vm_r 96), some (vm_i v1), some (vm_i v2), w3]) (st1 := [vm_i (m 100 8), vm_i v2]) (m1 := m) (ob := ((((true && vm_is 96 11) && true) && vm_ar 100 100 1075) && decide ((0 : Int) ≤ 8 ∧ (8 : Int) < 1075))) (by decide +kernel) rfl (vm_t (vm_u (vm_u (vm_u rfl (by decide +kernel)) rfl) (by decide +kernel)) (by decide)) ?_
  refine vm_gj (c := (m 100 8) ≤ v2) (t := 68) (e := 15) (i := (.if_icmp .ge 0, 68, 0, [])) (len := 3) (st1 := []) (by decide +kernel) rfl rfl (fun c1 => ?_) (fun c1 => ?_)
  · replace h := h.1 c1
    refine vm_gp [(.iload 1, 0, 0, [])] (pc1 := 69) (ls1 := [some (vm_r 96), some (vm_i v1), some (vm_i v2), w3]) (st1 := [vm_i v1]) (m1 := m) (ob := true) (by decide +kernel) rfl rfl ?_
    exact vm_gr (r := some (vm_i v1)) (i := (.ireturn, 1, 0, [])) (len := 1) (by decide +kernel) rfl rfl rfl ⟨_, rfl, h⟩
  · replace h := h.2 c1
    refine vm_gp [(.iload 1, 0, 0, []), (.iconst 12, 0, 0, [])] (pc1 := 18) (ls1 := [some (vm_r 96), some (vm_i v1), some (vm_i v2), w3]) (st1 := [vm_i 12, vm_i v1]) (m1 := m) (ob := true) (by decide +kernel) rfl rfl ?_
    refine vm_gj (c := 12 ≤ v1) (t := 28) (e := 21) (i := (.if_icmp .ge 0, 28, 0, [])) (len := 3) (st1 := []) (by decide +kernel) rfl rfl (fun c2 => ?_) (fun c2 => ?_)
    · replace h := h.1 c2
      obtain ⟨o4_0, h⟩ := h
      refine vm_gp [(.iload 2, 0, 0, []), (.iconst 1, 0, 0, []), (.iadd, 0, 0, []), (.istore 3, 0, 0, [])] (pc1 := 32) (ls1 := [some (vm_r 96), some (vm_i v1), some (vm_i v2), some (vm_i (v2 + 1))]) (st1 := []) (m1 := m) (ob := (true && decide (vm_32 (v2 + 1)))) (by decide +kernel) rfl (vm_t rfl o4_0) ?_
      exact h
    · replace h := h.2 c2
      obtain ⟨⟨o5_0, o5_1⟩, h⟩ := h
      refine vm_gp [(.aload 0, 0, 0, []), (.getfield 2, 11, 13, [(105, 0)]), (.iload 1, 0, 0, []), (.iload 2, 0, 0, []), (.iastore, 14, 0, []), (.iload 2, 0, 0, []), (.iconst 1, 0, 0, []), (.iadd, 0, 0, []), (.istore 3, 0, 0, [])] (pc1 := 32) (ls1 := [some (vm_r 96), some (vm_i v1), some (vm_i v2), some (vm_i (v2 + 1))]) (st1 := []) (m1 := (vm_st m 105 v1 v2)) (ob := (((((true && vm_is 96 11) && true) && vm_ar 105 100 14) && decide (0 ≤ v1 ∧ v1 < 14)) && decide (vm_32 (v2 + 1)))) (by decide +kernel) rfl (vm_t (vm_t (vm_u (vm_u (vm_u rfl (by decide +kernel)) rfl) (by decide +kernel)) o5_0) o5_1) ?_
      exact h
set_option maxRecDepth 20000 in
theorem ru11_breaksGreedily_32 {v1 : Int} {v2 : Int} {v3 : Int} {m : vm_M} {Q : Int → vm_M → Prop}  (h :
    (((m 100 8) ≤ v3 →
      ((vm_32 (v1 + 1))) ∧
      ku11_breaksGreedily_4 (v1 + 1) v3 (some (vm_i v3)) m Q) ∧ (¬ (m 100 8) ≤ v3 →
      ((vm_32 (v3 + 1))) ∧
      (vm_C 179 [vm_r 96, vm_i v2, vm_i (v3 + 1)] m (vm_qi (fun z1 m1 =>
        ((z1 = 0 →
          ((vm_32 (v1 + 1))) ∧
          ku11_breaksGreedily_4 (v1 + 1) v3 (some (vm_i v3)) m1 Q) ∧ (¬ z1 = 0 →
          ((vm_32 (v3 + 1))) ∧
          ku11_breaksGreedily_32 v1 v2 (v3 + 1) m1 Q)))))))) : ku11_breaksGreedily_32 v1 v2 v3 m Q := by
  show vm_G 181 32 [some (vm_r 96), some (vm_i v1), some (vm_i v2), some (vm_i v3)] [] m (vm_qi Q)
  refine vm_gp [(.iload 3, 0, 0, []), (.aload 0, 0, 0, []), (.getfield 2, 11, 7, [(100, 0)]), (.iconst 8, 0, 0, []), (.iaload, 1075, 0, [])] (pc1 := 40) (ls1 := [some (vm_r 96), some (vm_i v1), some (vm_i v2), some (vm_i v3)]) (st1 := [vm_i (m 100 8), vm_i v3]) (m1 := m) (ob := ((((true && vm_is 96 11) && true) && vm_ar 100 100 1075) && decide ((0 : Int) ≤ 8 ∧ (8 : Int) < 1075))) (by decide +kernel) rfl (vm_t (vm_u (vm_u (vm_u rfl (by decide +kernel)) rfl) (by decide +kernel)) (by decide)) ?_
  refine vm_gj (c := (m 100 8) ≤ v3) (t := 60) (e := 43) (i := (.if_icmp .ge 0, 60, 0, [])) (len := 3) (st1 := []) (by decide +kernel) rfl rfl (fun c1 => ?_) (fun c1 => ?_)
  · replace h := h.1 c1
    obtain ⟨o2_0, h⟩ := h
    refine vm_gp [(.iload 3, 0, 0, []), (.istore 2, 0, 0, []), (.iinc 1 1, 0, 0, []), (.goto 0, 4, 0, [])] (pc1 := 4) (ls1 := [some (vm_r 96), some (vm_i (v1 + 1)), some (vm_i v3), some (vm_i v3)]) (st1 := []) (m1 := m) (ob := (true && decide (vm_32 (v1 + 1)))) (by decide +kernel) rfl (vm_t rfl o2_0) ?_
    exact h
  · replace h := h.2 c1
    obtain ⟨o3_0, h⟩ := h
    refine vm_gp [(.aload 0, 0, 0, []), (.iload 2, 0, 0, []), (.iload 3, 0, 0, []), (.iconst 1, 0, 0, []), (.iadd, 0, 0, [])] (pc1 := 48) (ls1 := [some (vm_r 96), some (vm_i v1), some (vm_i v2), some (vm_i v3)]) (st1 := [vm_i (v3 + 1), vm_i v2, vm_r 96]) (m1 := m) (ob := (true && decide (vm_32 (v3 + 1)))) (by decide +kernel) rfl (vm_t rfl o3_0) ?_
    refine vm_gc (g := 179) (na := 3) (av := [vm_r 96, vm_i v2, vm_i (v3 + 1)]) (rest := []) (i := (.invokevirtual 0, 179, 3, [])) (len := 3) (by decide +kernel) rfl rfl rfl (by decide +kernel) (by decide +kernel) rfl rfl (vm_u (vm_okh_v (c := 11) (by decide +kernel) (by decide +kernel)) (show vm_okn 179 3 0 0 0 3 = true by decide +kernel)) ?_
    refine vm_G.mono h ?_
    rintro _ m1 ⟨z1, rfl, h⟩
    show vm_G 181 51 [some (vm_r 96), some (vm_i v1), some (vm_i v2), some (vm_i v3)] [vm_i z1] m1 _
    refine vm_gj (c := z1 = 0) (t := 60) (e := 54) (i := (.ifCond .eq 0, 60, 0, [])) (len := 3) (st1 := []) (by decide +kernel) rfl rfl (fun c2 => ?_) (fun c2 => ?_)
    · replace h := h.1 c2
      obtain ⟨o5_0, h⟩ := h
      refine vm_gp [(.iload 3, 0, 0, []), (.istore 2, 0, 0, []), (.iinc 1 1, 0, 0, []), (.goto 0, 4, 0, [])] (pc1 := 4) (ls1 := [some (vm_r 96), some (vm_i (v1 + 1)), some (vm_i v3), some (vm_i v3)]) (st1 := []) (m1 := m1) (ob := (true && decide (vm_32 (v1 + 1)))) (by decide +kernel) rfl (vm_t rfl o5_0) ?_
      exact h
    · replace h := h.2 c2
      obtain ⟨o6_0, h⟩ := h
      refine vm_gp [(.iinc 3 1, 0, 0, []), (.goto 0, 32, 0, [])] (pc1 := 32) (ls1 := [some (vm_r 96), some (vm_i v1), some (vm_i v2), some (vm_i (v3 + 1))]) (st1 := []) (m1 := m1) (ob := (true && decide (vm_32 (v3 + 1)))) (by decide +kernel) rfl (vm_t rfl o6_0) ?_
      exact h
abbrev ku11_laysCost_0 (v1 : Int) (v2 : Int) (m : vm_M) (Q : vm_M → Prop) : Prop := vm_G 182 0 [some (vm_r 96), some (vm_i v1), some (vm_i v2), none, none, none, none, none] [] m (vm_qv Q)
abbrev ku11_laysCost_46 (v1 : Int) (v2 : Int) (v3 : Int) (v4 : Int) (v5 : Int) (w6 : Option vm_V) (m : vm_M) (Q : vm_M → Prop) : Prop := vm_G 182 46 [some (vm_r 96), some (vm_i v1), some (vm_i v2), some (vm_i v3), some (vm_i v4), some (vm_i v5), w6, none] [] m (vm_qv Q)
set_option maxRecDepth 20000 in
theorem ru11_laysCost_0 {v1 : Int} {v2 : Int} {m : vm_M} {Q : vm_M → Prop}  (h :
    ((vm_32 (31 * v1)) ∧ (vm_32 ((31 * v1) + v2))) ∧
    ((¬ v2 = (m 100 8) →
      ((0 ≤ ((31 * v1) + v2) ∧ ((31 * v1) + v2) < 403) ∧ (0 ≤ ((31 * v1) + v2) ∧ ((31 * v1) + v2) < 403)) ∧
      ku11_laysCost_46 v1 v2 (m 100 8) ((31 * v1) + v2) (m 100 8) none (vm_st (vm_st m 106 ((31 * v1) + v2) 1000000000000000) 107 ((31 * v1) + v2) 0) Q) ∧ (¬ ¬ v2 = (m 100 8) →
      ((0 ≤ ((31 * v1) + v2) ∧ ((31 * v1) + v2) < 403) ∧ (0 ≤ ((31 * v1) + v2) ∧ ((31 * v1) + v2) < 403)) ∧
      ku11_laysCost_46 v1 v2 (m 100 8) ((31 * v1) + v2) (m 100 8) none (vm_st (vm_st m 106 ((31 * v1) + v2) 0) 107 ((31 * v1) + v2) 0) Q))) : vm_C 182 [vm_r 96, vm_i v1, vm_i v2] m (vm_qv Q) := by
  show vm_G 182 0 [some (vm_r 96), some (vm_i v1), some (vm_i v2), none, none, none, none, none] [] m (vm_qv Q)
  obtain ⟨⟨o1_0, o1_1⟩, h⟩ := h
  refine vm_gp [(.aload 0, 0, 0, []), (.getfield 2, 11, 7, [(100, 0)]), (.iconst 8, 0, 0, []), (.iaload, 1075, 0, []), (.istore 3, 0, 0, []), (.iconst 31, 0, 0, []), (.iload 1, 0, 0, []), (.imul, 0, 0, []), (.iload 2, 0, 0, []), (.iadd, 0, 0, []), (.istore 4, 0, 0, []), (.aload 0, 0, 0, []), (.getfield 2, 11, 15, [(106, 0)]), (.iload 4, 0, 0, []), (.iload 2, 0, 0, []), (.iload 3, 0, 0, [])] (pc1 := 24) (ls1 := [some (vm_r 96), some (vm_i v1), some (vm_i v2), some (vm_i (m 100 8)), some (vm_i ((31 * v1) + v2)), none, none, none]) (st1 := [vm_i (m 100 8), vm_i v2, vm_i ((31 * v1) + v2), vm_r 106]) (m1 := m) (ob := ((((((((true && vm_is 96 11) && true) && vm_ar 100 100 1075) && decide ((0 : Int) ≤ 8 ∧ (8 : Int) < 1075)) && decide (vm_32 (31 * v1))) && decide (vm_32 ((31 * v1) + v2))) && vm_is 96 11) && true)) (by decide +kernel) rfl (vm_u (vm_u (vm_t (vm_t (vm_t (vm_u (vm_u (vm_u rfl (by decide +kernel)) rfl) (by decide +kernel)) (by decide)) o1_0) o1_1) (by decide +kernel)) rfl) ?_
  refine vm_gj (c := ¬ v2 = (m 100 8)) (t := 31) (e := 27) (i := (.if_icmp .ne 0, 31, 0, [])) (len := 3) (st1 := [vm_i ((31 * v1) + v2), vm_r 106]) (by decide +kernel) rfl rfl (fun c1 => ?_) (fun c1 => ?_)
  · replace h := h.1 c1
    obtain ⟨⟨o2_0, o2_1⟩, h⟩ := h
    refine vm_gp [(.ldc2_w 0, 0, 0, [(1000000000000000, 0)]), (.lastore, 403, 0, []), (.aload 0, 0, 0, []), (.getfield 2, 11, 16, [(107, 0)]), (.iload 4, 0, 0, []), (.iconst 0, 0, 0, []), (.iastore, 403, 0, []), (.iload 3, 0, 0, []), (.istore 5, 0, 0, [])] (pc1 := 46) (ls1 := [some (vm_r 96), some (vm_i v1), some (vm_i v2), some (vm_i (m 100 8)), some (vm_i ((31 * v1) + v2)), some (vm_i (m 100 8)), none, none]) (st1 := []) (m1 := (vm_st (vm_st m 106 ((31 * v1) + v2) 1000000000000000) 107 ((31 * v1) + v2) 0)) (ob := ((((((true && vm_ar 106 103 403) && decide (0 ≤ ((31 * v1) + v2) ∧ ((31 * v1) + v2) < 403)) && vm_is 96 11) && true) && vm_ar 107 100 403) && decide (0 ≤ ((31 * v1) + v2) ∧ ((31 * v1) + v2) < 403))) (by decide +kernel) rfl (vm_t (vm_u (vm_u (vm_u (vm_t (vm_u rfl (by decide +kernel)) o2_0) (by decide +kernel)) rfl) (by decide +kernel)) o2_1) ?_
    exact h
  · replace h := h.2 c1
    obtain ⟨⟨o3_0, o3_1⟩, h⟩ := h
    refine vm_gp [(.ldc2_w 0, 0, 0, [(0, 0)]), (.goto 0, 34, 0, []), (.lastore, 403, 0, []), (.aload 0, 0, 0, []), (.getfield 2, 11, 16, [(107, 0)]), (.iload 4, 0, 0, []), (.iconst 0, 0, 0, []), (.iastore, 403, 0, []), (.iload 3, 0, 0, []), (.istore 5, 0, 0, [])] (pc1 := 46) (ls1 := [some (vm_r 96), some (vm_i v1), some (vm_i v2), some (vm_i (m 100 8)), some (vm_i ((31 * v1) + v2)), some (vm_i (m 100 8)), none, none]) (st1 := []) (m1 := (vm_st (vm_st m 106 ((31 * v1) + v2) 0) 107 ((31 * v1) + v2) 0)) (ob := ((((((true && vm_ar 106 103 403) && decide (0 ≤ ((31 * v1) + v2) ∧ ((31 * v1) + v2) < 403)) && vm_is 96 11) && true) && vm_ar 107 100 403) && decide (0 ≤ ((31 * v1) + v2) ∧ ((31 * v1) + v2) < 403))) (by decide +kernel) rfl (vm_t (vm_u (vm_u (vm_u (vm_t (vm_u rfl (by decide +kernel)) o3_0) (by decide +kernel)) rfl) (by decide +kernel)) o3_1) ?_
    exact h
set_option maxRecDepth 20000 in
theorem ru11_laysCost_46 {v1 : Int} {v2 : Int} {v3 : Int} {v4 : Int} {v5 : Int} {w6 : Option vm_V} {m : vm_M} {Q : vm_M → Prop}  (h :
    ((v5 ≤ v2 →
      Q m) ∧ (¬ v5 ≤ v2 →
      ((v1 ≤ 0 →
        Q m) ∧ (¬ v1 ≤ 0 →
        (vm_C 179 [vm_r 96, vm_i v2, vm_i v5] m (vm_qi (fun z1 m1 =>
          ((¬ z1 = 0 →
            ((¬ v5 = v3 →
              (vm_C 180 [vm_r 96, vm_i v2, vm_i v5] m1 (vm_ql (fun z2 m2 =>
                ((vm_32 (v1 - 1)) ∧ (vm_32 (31 * (v1 - 1))) ∧ (vm_32 ((31 * (v1 - 1)) + v5)) ∧ (0 ≤ ((31 * (v1 - 1)) + v5) ∧ ((31 * (v1 - 1)) + v5) < 403) ∧ (vm_64 (z2 + (m2 106 ((31 * (v1 - 1)) + v5)))) ∧ (0 ≤ v4 ∧ v4 < 403)) ∧
                ((0 ≤ (if (z2 + (m2 106 ((31 * (v1 - 1)) + v5))) < (m2 106 v4) then -1 else if (z2 + (m2 106 ((31 * (v1 - 1)) + v5))) = (m2 106 v4) then 0 else 1) →
                  ((vm_32 (v5 + (-1)))) ∧
                  ku11_laysCost_46 v1 v2 v3 v4 (v5 + (-1)) (some (vm_l (z2 + (m2 106 ((31 * (v1 - 1)) + v5))))) m2 Q) ∧ (¬ 0 ≤ (if (z2 + (m2 106 ((31 * (v1 - 1)) + v5))) < (m2 106 v4) then -1 else if (z2 + (m2 106 ((31 * (v1 - 1)) + v5))) = (m2 106 v4) then 0 else 1) →
                  ((0 ≤ v4 ∧ v4 < 403) ∧ (vm_32 (v5 - v2)) ∧ (0 ≤ v4 ∧ v4 < 403) ∧ (vm_32 (v5 + (-1)))) ∧
                  ku11_laysCost_46 v1 v2 v3 v4 (v5 + (-1)) (some (vm_l (z2 + (m2 106 ((31 * (v1 - 1)) + v5))))) (vm_st (vm_st m2 106 v4 (z2 + (m2 106 ((31 * (v1 - 1)) + v5)))) 107 v4 (v5 - v2)) Q)))))) ∧ (¬ ¬ v5 = v3 →
              ((0 ≤ v4 ∧ v4 < 403)) ∧
              ((0 ≤ (if 0 < (m1 106 v4) then -1 else if 0 = (m1 106 v4) then 0 else 1) →
                ((vm_32 (v5 + (-1)))) ∧
                ku11_laysCost_46 v1 v2 v3 v4 (v5 + (-1)) (some (vm_l 0)) m1 Q) ∧ (¬ 0 ≤ (if 0 < (m1 106 v4) then -1 else if 0 = (m1 106 v4) then 0 else 1) →
                ((0 ≤ v4 ∧ v4 < 403) ∧ (vm_32 (v5 - v2)) ∧ (0 ≤ v4 ∧ v4 < 403) ∧ (vm_32 (v5 + (-1)))) ∧
                ku11_laysCost_46 v1 v2 v3 v4 (v5 + (-1)) (some (vm_l 0)) (vm_st (vm_st m1 106 v4 0) 107 v4 (v5 - v2)) Q))))) ∧ (¬ ¬ z1 = 0 →
            ((vm_32 (v5 + (-1)))) ∧
            ku11_laysCost_46 v1 v2 v3 v4 (v5 + (-1)) w6 m1 Q)))))))))) : ku11_laysCost_46 v1 v2 v3 v4 v5 w6 m Q := by
  show vm_G 182 46 [some (vm_r 96), some (vm_i v1), some (vm_i v2), some (vm_i v3), some (vm_i v4), some (vm_i v5), w6, none] [] m (vm_qv Q)
  refine vm_gp [(.iload 5, 0, 0, []), (.iload 2, 0, 0, [])] (pc1 := 49) (ls1 := [some (vm_r 96), some (vm_i v1), some (vm_i v2), some (vm_i v3), some (vm_i v4), some (vm_i v5), w6, none]) (st1 := [vm_i v2, vm_i v5]) (m1 := m) (ob := true) (by decide +kernel) rfl rfl ?_
  refine vm_gj (c := v5 ≤ v2) (t := 142) (e := 52) (i := (.if_icmp .le 0, 142, 0, [])) (len := 3) (st1 := []) (by decide +kernel) rfl rfl (fun c1 => ?_) (fun c1 => ?_)
  · replace h := h.1 c1
    exact vm_gr (r := none) (i := (.return_, 0, 0, [])) (len := 1) (by decide +kernel) rfl rfl rfl ⟨rfl, h⟩
  · replace h := h.2 c1
    refine vm_gp [(.iload 1, 0, 0, [])] (pc1 := 53) (ls1 := [some (vm_r 96), some (vm_i v1), some (vm_i v2), some (vm_i v3), some (vm_i v4), some (vm_i v5), w6, none]) (st1 := [vm_i v1]) (m1 := m) (ob := true) (by decide +kernel) rfl rfl ?_
    refine vm_gj (c := v1 ≤ 0) (t := 142) (e := 56) (i := (.ifCond .le 0, 142, 0, [])) (len := 3) (st1 := []) (by decide +kernel) rfl rfl (fun c2 => ?_) (fun c2 => ?_)
    · replace h := h.1 c2
      exact vm_gr (r := none) (i := (.return_, 0, 0, [])) (len := 1) (by decide +kernel) rfl rfl rfl ⟨rfl, h⟩
    · replace h := h.2 c2
      refine vm_gp [(.aload 0, 0, 0, []), (.iload 2, 0, 0, []), (.iload 5, 0, 0, [])] (pc1 := 60) (ls1 := [some (vm_r 96), some (vm_i v1), some (vm_i v2), some (vm_i v3), some (vm_i v4), some (vm_i v5), w6, none]) (st1 := [vm_i v5, vm_i v2, vm_r 96]) (m1 := m) (ob := true) (by decide +kernel) rfl rfl ?_
      refine vm_gc (g := 179) (na := 3) (av := [vm_r 96, vm_i v2, vm_i v5]) (rest := []) (i := (.invokevirtual 0, 179, 3, [])) (len := 3) (by decide +kernel) rfl rfl rfl (by decide +kernel) (by decide +kernel) rfl rfl (vm_u (vm_okh_v (c := 11) (by decide +kernel) (by decide +kernel)) (show vm_okn 179 3 0 0 0 3 = true by decide +kernel)) ?_
      refine vm_G.mono h ?_
      rintro _ m1 ⟨z1, rfl, h⟩
      show vm_G 182 63 [some (vm_r 96), some (vm_i v1), some (vm_i v2), some (vm_i v3), some (vm_i v4), some (vm_i v5), w6, none] [vm_i z1] m1 _
      refine vm_gj (c := ¬ z1 = 0) (t := 69) (e := 66) (i := (.ifCond .ne 0, 69, 0, [])) (len := 3) (st1 := []) (by decide +kernel) rfl rfl (fun c3 => ?_) (fun c3 => ?_)
      · replace h := h.1 c3
        refine vm_gp [(.iload 5, 0, 0, []), (.iload 3, 0, 0, [])] (pc1 := 72) (ls1 := [some (vm_r 96), some (vm_i v1), some (vm_i v2), some (vm_i v3), some (vm_i v4), some (vm_i v5), w6, none]) (st1 := [vm_i v3, vm_i v5]) (m1 := m1) (ob := true) (by decide +kernel) rfl rfl ?_
        refine vm_gj (c := ¬ v5 = v3) (t := 79) (e := 75) (i := (.if_icmp .ne 0, 79, 0, [])) (len := 3) (st1 := []) (by decide +kernel) rfl rfl (fun c4 => ?_) (fun c4 => ?_)
        · replace h := h.1 c4
          refine vm_gp [(.aload 0, 0, 0, []), (.iload 2, 0, 0, []), (.iload 5, 0, 0, [])] (pc1 := 83) (ls1 := [some (vm_r 96), some (vm_i v1), some (vm_i v2), some (vm_i v3), some (vm_i v4), some (vm_i v5), w6, none]) (st1 := [vm_i v5, vm_i v2, vm_r 96]) (m1 := m1) (ob := true) (by decide +kernel) rfl rfl ?_
          refine vm_gc (g := 180) (na := 3) (av := [vm_r 96, vm_i v2, vm_i v5]) (rest := []) (i := (.invokevirtual 0, 180, 3, [])) (len := 3) (by decide +kernel) rfl rfl rfl (by decide +kernel) (by decide +kernel) rfl rfl (vm_u (vm_okh_v (c := 11) (by decide +kernel) (by decide +kernel)) (show vm_okn 180 3 0 0 0 3 = true by decide +kernel)) ?_
          refine vm_G.mono h ?_
          rintro _ m2 ⟨z2, rfl, h⟩
          show vm_G 182 86 [some (vm_r 96), some (vm_i v1), some (vm_i v2), some (vm_i v3), some (vm_i v4), some (vm_i v5), w6, none] [vm_l z2] m2 _
          obtain ⟨⟨o9_0, o9_1, o9_2, o9_3, o9_4, o9_5⟩, h⟩ := h
          refine vm_gp [(.aload 0, 0, 0, []), (.getfield 2, 11, 15, [(106, 0)]), (.iconst 31, 0, 0, []), (.iload 1, 0, 0, []), (.iconst 1, 0, 0, []), (.isub, 0, 0, []), (.imul, 0, 0, []), (.iload 5, 0, 0, []), (.iadd, 0, 0, []), (.laload, 403, 0, []), (.ladd, 0, 0, []), (.lstore 6, 0, 0, []), (.lload 6, 0, 0, []), (.aload 0, 0, 0, []), (.getfield 2, 11, 15, [(106, 0)]), (.iload 4, 0, 0, []), (.laload, 403, 0, []), (.lcmp, 0, 0, [])] (pc1 := 113) (ls1 := [some (vm_r 96), some (vm_i v1), some (vm_i v2), some (vm_i v3), some (vm_i v4), some (vm_i v5), some (vm_l (z2 + (m2 106 ((31 * (v1 - 1)) + v5)))), none]) (st1 := [vm_i (if (z2 + (m2 106 ((31 * (v1 - 1)) + v5))) < (m2 106 v4) then -1 else if (z2 + (m2 106 ((31 * (v1 - 1)) + v5))) = (m2 106 v4) then 0 else 1)]) (m1 := m2) (ob := ((((((((((((true && vm_is 96 11) && true) && decide (vm_32 (v1 - 1))) && decide (vm_32 (31 * (v1 - 1)))) && decide (vm_32 ((31 * (v1 - 1)) + v5))) && vm_ar 106 103 403) && decide (0 ≤ ((31 * (v1 - 1)) + v5) ∧ ((31 * (v1 - 1)) + v5) < 403)) && decide (vm_64 (z2 + (m2 106 ((31 * (v1 - 1)) + v5))))) && vm_is 96 11) && true) && vm_ar 106 103 403) && decide (0 ≤ v4 ∧ v4 < 403))) (by decide +kernel) rfl (vm_t (vm_u (vm_u (vm_u (vm_t (vm_t (vm_u (vm_t (vm_t (vm_t (vm_u (vm_u rfl (by decide +kernel)) rfl) o9_0) o9_1) o9_2) (by decide +kernel)) o9_3) o9_4) (by decide +kernel)) rfl) (by decide +kernel)) o9_5) ?_
          refine vm_gj (c := 0 ≤ (if (z2 + (m2 106 ((31 * (v1 - 1)) + v5))) < (m2 106 v4) then -1 else if (z2 + (m2 106 ((31 * (v1 - 1)) + v5))) = (m2 106 v4) then 0 else 1)) (t := 136) (e := 116) (i := (.ifCond .ge 0, 136, 0, [])) (len := 3) (st1 := []) (by decide +kernel) rfl rfl (fun c5 => ?_) (fun c5 => ?_)
          · replace h := h.1 c5
            obtain ⟨o10_0, h⟩ := h
            refine vm_gp [(.iinc 5 (-1), 0, 0, []), (.goto 0, 46, 0, [])] (pc1 := 46) (ls1 := [some (vm_r 96), some (vm_i v1), some (vm_i v2), some (vm_i v3), some (vm_i v4), some (vm_i (v5 + (-1))), some (vm_l (z2 + (m2 106 ((31 * (v1 - 1)) + v5)))), none]) (st1 := []) (m1 := m2) (ob := (true && decide (vm_32 (v5 + (-1))))) (by decide +kernel) rfl (vm_t rfl o10_0) ?_
            exact h
          · replace h := h.2 c5
            obtain ⟨⟨o11_0, o11_1, o11_2, o11_3⟩, h⟩ := h
            refine vm_gp [(.aload 0, 0, 0, []), (.getfield 2, 11, 15, [(106, 0)]), (.iload 4, 0, 0, []), (.lload 6, 0, 0, []), (.lastore, 403, 0, []), (.aload 0, 0, 0, []), (.getfield 2, 11, 16, [(107, 0)]), (.iload 4, 0, 0, []), (.iload 5, 0, 0, []), (.iload 2, 0, 0, []), (.isub, 0, 0, []), (.iastore, 403, 0, []), (.iinc 5 (-1), 0, 0, []), (.goto 0, 46, 0, [])] (pc1 := 46) (ls1 := [some (vm_r 96), some (vm_i v1), some (vm_i v2), some (vm_i v3), some (vm_i v4), some (vm_i (v5 + (-1))), some (vm_l (z2 + (m2 106 ((31 * (v1 - 1)) + v5)))), none]) (st1 := []) (m1 := (vm_st (vm_st m2 106 v4 (z2 + (m2 106 ((31 * (v1 - 1)) + v5)))) 107 v4 (v5 - v2))) (ob := ((((((((((true && vm_is 96 11) && true) && vm_ar 106 103 403) && decide (0 ≤ v4 ∧ v4 < 403)) && vm_is 96 11) && true) && decide (vm_32 (v5 - v2))) && vm_ar 107 100 403) && decide (0 ≤ v4 ∧ v4 < 403)) && decide (vm_32 (v5 + (-1))))) (by decide +kernel) rfl (vm_t (vm_t (vm_u (vm_t (vm_u (vm_u (vm_t (vm_u (vm_u (vm_u rfl (by decide +kernel)) rfl) (by decide +kernel)) o11_0) (by decide +kernel)) rfl) o11_1) (by decide +kernel)) o11_2) o11_3) ?_
            exact h
        · replace h := h.2 c4
          obtain ⟨o12_0, h⟩ := h
          refine vm_gp [(.ldc2_w 0, 0, 0, [(0, 0)]), (.goto 0, 101, 0, []), (.lstore 6, 0, 0, []), (.lload 6, 0, 0, []), (.aload 0, 0, 0, []), (.getfield 2, 11, 15, [(106, 0)]), (.iload 4, 0, 0, []), (.laload, 403, 0, []), (.lcmp, 0, 0, [])] (pc1 := 113) (ls1 := [some (vm_r 96), some (vm_i v1), some (vm_i v2), some (vm_i v3), some (vm_i v4), some (vm_i v5), some (vm_l 0), none]) (st1 := [vm_i (if 0 < (m1 106 v4) then -1 else if 0 = (m1 106 v4) then 0 else 1)]) (m1 := m1) (ob := ((((true && vm_is 96 11) && true) && vm_ar 106 103 403) && decide (0 ≤ v4 ∧ v4 < 403))) (by decide +kernel) rfl (vm_t (vm_u (vm_u (vm_u rfl (by decide +kernel)) rfl) (by decide +kernel)) o12_0) ?_
          refine vm_gj (c := 0 ≤ (if 0 < (m1 106 v4) then -1 else if 0 = (m1 106 v4) then 0 else 1)) (t := 136) (e := 116) (i := (.ifCond .ge 0, 136, 0, [])) (len := 3) (st1 := []) (by decide +kernel) rfl rfl (fun c6 => ?_) (fun c6 => ?_)
          · replace h := h.1 c6
            obtain ⟨o13_0, h⟩ := h
            refine vm_gp [(.iinc 5 (-1), 0, 0, []), (.goto 0, 46, 0, [])] (pc1 := 46) (ls1 := [some (vm_r 96), some (vm_i v1), some (vm_i v2), some (vm_i v3), some (vm_i v4), some (vm_i (v5 + (-1))), some (vm_l 0), none]) (st1 := []) (m1 := m1) (ob := (true && decide (vm_32 (v5 + (-1))))) (by decide +kernel) rfl (vm_t rfl o13_0) ?_
            exact h
          · replace h := h.2 c6
            obtain ⟨⟨o14_0, o14_1, o14_2, o14_3⟩, h⟩ := h
            refine vm_gp [(.aload 0, 0, 0, []), (.getfield 2, 11, 15, [(106, 0)]), (.iload 4, 0, 0, []), (.lload 6, 0, 0, []), (.lastore, 403, 0, []), (.aload 0, 0, 0, []), (.getfield 2, 11, 16, [(107, 0)]), (.iload 4, 0, 0, []), (.iload 5, 0, 0, []), (.iload 2, 0, 0, []), (.isub, 0, 0, []), (.iastore, 403, 0, []), (.iinc 5 (-1), 0, 0, []), (.goto 0, 46, 0, [])] (pc1 := 46) (ls1 := [some (vm_r 96), some (vm_i v1), some (vm_i v2), some (vm_i v3), some (vm_i v4), some (vm_i (v5 + (-1))), some (vm_l 0), none]) (st1 := []) (m1 := (vm_st (vm_st m1 106 v4 0) 107 v4 (v5 - v2))) (ob := ((((((((((true && vm_is 96 11) && true) && vm_ar 106 103 403) && decide (0 ≤ v4 ∧ v4 < 403)) && vm_is 96 11) && true) && decide (vm_32 (v5 - v2))) && vm_ar 107 100 403) && decide (0 ≤ v4 ∧ v4 < 403)) && decide (vm_32 (v5 + (-1))))) (by decide +kernel) rfl (vm_t (vm_t (vm_u (vm_t (vm_u (vm_u (vm_t (vm_u (vm_u (vm_u rfl (by decide +kernel)) rfl) (by decide +kernel)) o14_0) (by decide +kernel)) rfl) o14_1) (by decide +kernel)) o14_2) o14_3) ?_
            exact h
      · replace h := h.2 c3
        obtain ⟨o15_0, h⟩ := h
        refine vm_gp [(.goto 0, 136, 0, []), (.iinc 5 (-1), 0, 0, []), (.goto 0, 46, 0, [])] (pc1 := 46) (ls1 := [some (vm_r 96), some (vm_i v1), some (vm_i v2), some (vm_i v3), some (vm_i v4), some (vm_i (v5 + (-1))), w6, none]) (st1 := []) (m1 := m1) (ob := (true && decide (vm_32 (v5 + (-1))))) (by decide +kernel) rfl (vm_t rfl o15_0) ?_
        exact h
abbrev ku11_laysCosts_0  (m : vm_M) (Q : Int → vm_M → Prop) : Prop := vm_G 183 0 [some (vm_r 96), none, none] [] m (vm_ql Q)
abbrev ku11_laysCosts_2 (v1 : Int) (w2 : Option vm_V) (m : vm_M) (Q : Int → vm_M → Prop) : Prop := vm_G 183 2 [some (vm_r 96), some (vm_i v1), w2] [] m (vm_ql Q)
abbrev ku11_laysCosts_16 (v1 : Int) (v2 : Int) (m : vm_M) (Q : Int → vm_M → Prop) : Prop := vm_G 183 16 [some (vm_r 96), some (vm_i v1), some (vm_i v2)] [] m (vm_ql Q)
set_option maxRecDepth 20000 in
theorem ru11_laysCosts_0  {m : vm_M} {Q : Int → vm_M → Prop}  (h :
    ku11_laysCosts_2 0 none m Q) : vm_C 183 [vm_r 96] m (vm_ql Q) := by
  show vm_G 183 0 [some (vm_r 96), none, none] [] m (vm_ql Q)
  refine vm_gp [(.iconst 0, 0, 0, []), (.istore 1, 0, 0, [])] (pc1 := 2) (ls1 := [some (vm_r 96), some (vm_i 0), none]) (st1 := []) (m1 := m) (ob := true) (by decide +kernel) rfl rfl ?_
  exact h
set_option maxRecDepth 20000 in
theorem ru11_laysCosts_2 {v1 : Int} {w2 : Option vm_V} {m : vm_M} {Q : Int → vm_M → Prop}  (h :
    ((12 < v1 →
      Q (m 106 372) m) ∧ (¬ 12 < v1 →
      ku11_laysCosts_16 v1 (m 100 8) m Q))) : ku11_laysCosts_2 v1 w2 m Q := by
  show vm_G 183 2 [some (vm_r 96), some (vm_i v1), w2] [] m (vm_ql Q)
  refine vm_gp [(.iload 1, 0, 0, []), (.iconst 12, 0, 0, [])] (pc1 := 5) (ls1 := [some (vm_r 96), some (vm_i v1), w2]) (st1 := [vm_i 12, vm_i v1]) (m1 := m) (ob := true) (by decide +kernel) rfl rfl ?_
  refine vm_gj (c := 12 < v1) (t := 38) (e := 8) (i := (.if_icmp .gt 0, 38, 0, [])) (len := 3) (st1 := []) (by decide +kernel) rfl rfl (fun c1 => ?_) (fun c1 => ?_)
  · replace h := h.1 c1
    refine vm_gp [(.aload 0, 0, 0, []), (.getfield 2, 11, 15, [(106, 0)]), (.iconst 372, 0, 0, []), (.laload, 403, 0, [])] (pc1 := 46) (ls1 := [some (vm_r 96), some (vm_i v1), w2]) (st1 := [vm_l (m 106 372)]) (m1 := m) (ob := ((((true && vm_is 96 11) && true) && vm_ar 106 103 403) && decide ((0 : Int) ≤ 372 ∧ (372 : Int) < 403))) (by decide +kernel) rfl (vm_t (vm_u (vm_u (vm_u rfl (by decide +kernel)) rfl) (by decide +kernel)) (by decide)) ?_
    exact vm_gr (r := some (vm_l (m 106 372))) (i := (.lreturn, 3, 0, [])) (len := 1) (by decide +kernel) rfl rfl rfl ⟨_, rfl, h⟩
  · replace h := h.2 c1
    refine vm_gp [(.aload 0, 0, 0, []), (.getfield 2, 11, 7, [(100, 0)]), (.iconst 8, 0, 0, []), (.iaload, 1075, 0, []), (.istore 2, 0, 0, [])] (pc1 := 16) (ls1 := [some (vm_r 96), some (vm_i v1), some (vm_i (m 100 8))]) (st1 := []) (m1 := m) (ob := ((((true && vm_is 96 11) && true) && vm_ar 100 100 1075) && decide ((0 : Int) ≤ 8 ∧ (8 : Int) < 1075))) (by decide +kernel) rfl (vm_t (vm_u (vm_u (vm_u rfl (by decide +kernel)) rfl) (by decide +kernel)) (by decide)) ?_
    exact h
set_option maxRecDepth 20000 in
theorem ru11_laysCosts_16 {v1 : Int} {v2 : Int} {m : vm_M} {Q : Int → vm_M → Prop}  (h :
    ((v2 < 0 →
      ((vm_32 (v1 + 1))) ∧
      ku11_laysCosts_2 (v1 + 1) (some (vm_i v2)) m Q) ∧ (¬ v2 < 0 →
      (vm_C 182 [vm_r 96, vm_i v1, vm_i v2] m (vm_qv (fun m1 =>
        ((vm_32 (v2 + (-1)))) ∧
        ku11_laysCosts_16 v1 (v2 + (-1)) m1 Q)))))) : ku11_laysCosts_16 v1 v2 m Q := by
  show vm_G 183 16 [some (vm_r 96), some (vm_i v1), some (vm_i v2)] [] m (vm_ql Q)
  refine vm_gp [(.iload 2, 0, 0, [])] (pc1 := 17) (ls1 := [some (vm_r 96), some (vm_i v1), some (vm_i v2)]) (st1 := [vm_i v2]) (m1 := m) (ob := true) (by decide +kernel) rfl rfl ?_
  refine vm_gj (c := v2 < 0) (t := 32) (e := 20) (i := (.ifCond .lt 0, 32, 0, [])) (len := 3) (st1 := []) (by decide +kernel) rfl rfl (fun c1 => ?_) (fun c1 => ?_)
  · replace h := h.1 c1
    obtain ⟨o2_0, h⟩ := h
    refine vm_gp [(.iinc 1 1, 0, 0, []), (.goto 0, 2, 0, [])] (pc1 := 2) (ls1 := [some (vm_r 96), some (vm_i (v1 + 1)), some (vm_i v2)]) (st1 := []) (m1 := m) (ob := (true && decide (vm_32 (v1 + 1)))) (by decide +kernel) rfl (vm_t rfl o2_0) ?_
    exact h
  · replace h := h.2 c1
    refine vm_gp [(.aload 0, 0, 0, []), (.iload 1, 0, 0, []), (.iload 2, 0, 0, [])] (pc1 := 23) (ls1 := [some (vm_r 96), some (vm_i v1), some (vm_i v2)]) (st1 := [vm_i v2, vm_i v1, vm_r 96]) (m1 := m) (ob := true) (by decide +kernel) rfl rfl ?_
    refine vm_gc (g := 182) (na := 3) (av := [vm_r 96, vm_i v1, vm_i v2]) (rest := []) (i := (.invokevirtual 0, 182, 3, [])) (len := 3) (by decide +kernel) rfl rfl rfl (by decide +kernel) (by decide +kernel) rfl rfl (vm_u (vm_okh_v (c := 11) (by decide +kernel) (by decide +kernel)) (show vm_okn 182 3 0 0 0 3 = true by decide +kernel)) ?_
    refine vm_G.mono h ?_
    rintro _ m1 ⟨rfl, h⟩
    show vm_G 183 26 [some (vm_r 96), some (vm_i v1), some (vm_i v2)] [] m1 _
    obtain ⟨o4_0, h⟩ := h
    refine vm_gp [(.iinc 2 (-1), 0, 0, []), (.goto 0, 16, 0, [])] (pc1 := 16) (ls1 := [some (vm_r 96), some (vm_i v1), some (vm_i (v2 + (-1)))]) (st1 := []) (m1 := m1) (ob := (true && decide (vm_32 (v2 + (-1))))) (by decide +kernel) rfl (vm_t rfl o4_0) ?_
    exact h
abbrev ku11_breaksCheaply_0  (m : vm_M) (Q : vm_M → Prop) : Prop := vm_G 184 0 [some (vm_r 96), none] [] m (vm_qv Q)
abbrev ku11_breaksCheaply_19 (v1 : Int) (m : vm_M) (Q : vm_M → Prop) : Prop := vm_G 184 19 [some (vm_r 96), some (vm_i v1)] [] m (vm_qv Q)
set_option maxRecDepth 20000 in
theorem ru11_breaksCheaply_0  {m : vm_M} {Q : vm_M → Prop}  (h :
    (vm_C 183 [vm_r 96] (vm_st m 96 14 0) (vm_ql (fun z1 m1 =>
      (((if z1 < 1000000000000000 then -1 else if z1 = 1000000000000000 then 0 else 1) < 0 →
        ku11_breaksCheaply_19 0 m1 Q) ∧ (¬ (if z1 < 1000000000000000 then -1 else if z1 = 1000000000000000 then 0 else 1) < 0 →
        Q m1)))))) : vm_C 184 [vm_r 96] m (vm_qv Q) := by
  show vm_G 184 0 [some (vm_r 96), none] [] m (vm_qv Q)
  refine vm_gp [(.aload 0, 0, 0, []), (.iconst 0, 0, 0, []), (.putfield 0, 11, 14, []), (.aload 0, 0, 0, [])] (pc1 := 6) (ls1 := [some (vm_r 96), none]) (st1 := [vm_r 96]) (m1 := (vm_st m 96 14 0)) (ob := (true && vm_is 96 11)) (by decide +kernel) rfl (vm_u rfl (by decide +kernel)) ?_
  refine vm_gc (g := 183) (na := 1) (av := [vm_r 96]) (rest := []) (i := (.invokevirtual 0, 183, 1, [])) (len := 3) (by decide +kernel) rfl rfl rfl (by decide +kernel) (by decide +kernel) rfl rfl (vm_u (vm_okh_v (c := 11) (by decide +kernel) (by decide +kernel)) (show vm_okn 183 1 0 0 0 1 = true by decide +kernel)) ?_
  refine vm_G.mono h ?_
  rintro _ m1 ⟨z1, rfl, h⟩
  show vm_G 184 9 [some (vm_r 96), none] [vm_l z1] m1 _
  refine vm_gp [(.ldc2_w 0, 0, 0, [(1000000000000000, 0)]), (.lcmp, 0, 0, [])] (pc1 := 13) (ls1 := [some (vm_r 96), none]) (st1 := [vm_i (if z1 < 1000000000000000 then -1 else if z1 = 1000000000000000 then 0 else 1)]) (m1 := m1) (ob := true) (by decide +kernel) rfl rfl ?_
  refine vm_gj (c := (if z1 < 1000000000000000 then -1 else if z1 = 1000000000000000 then 0 else 1) < 0) (t := 17) (e := 16) (i := (.ifCond .lt 0, 17, 0, [])) (len := 3) (st1 := []) (by decide +kernel) rfl rfl (fun c1 => ?_) (fun c1 => ?_)
  · replace h := h.1 c1
    refine vm_gp [(.iconst 0, 0, 0, []), (.istore 1, 0, 0, [])] (pc1 := 19) (ls1 := [some (vm_r 96), some (vm_i 0)]) (st1 := []) (m1 := m1) (ob := true) (by decide +kernel) rfl rfl ?_
    exact h
  · replace h := h.2 c1
    exact vm_gr (r := none) (i := (.return_, 0, 0, [])) (len := 1) (by decide +kernel) rfl rfl rfl ⟨rfl, h⟩
set_option maxRecDepth 20000 in
theorem ru11_breaksCheaply_19 {v1 : Int} {m : vm_M} {Q : vm_M → Prop}  (h :
    (((m 100 8) ≤ v1 →
      Q m) ∧ (¬ (m 100 8) ≤ v1 →
      ((0 ≤ (m 96 14) ∧ (m 96 14) < 14) ∧ (vm_32 (12 - ((vm_st m 105 (m 96 14) v1) 96 14))) ∧ (vm_32 (31 * (12 - ((vm_st m 105 (m 96 14) v1) 96 14)))) ∧ (vm_32 ((31 * (12 - ((vm_st m 105 (m 96 14) v1) 96 14))) + v1)) ∧ (0 ≤ ((31 * (12 - ((vm_st m 105 (m 96 14) v1) 96 14))) + v1) ∧ ((31 * (12 - ((vm_st m 105 (m 96 14) v1) 96 14))) + v1) < 403) ∧ (vm_32 (v1 + ((vm_st m 105 (m 96 14) v1) 107 ((31 * (12 - ((vm_st m 105 (m 96 14) v1) 96 14))) + v1)))) ∧ (vm_32 (((vm_st m 105 (m 96 14) v1) 96 14) + 1))) ∧
      ku11_breaksCheaply_19 (v1 + ((vm_st m 105 (m 96 14) v1) 107 ((31 * (12 - ((vm_st m 105 (m 96 14) v1) 96 14))) + v1))) (vm_st (vm_st m 105 (m 96 14) v1) 96 14 (((vm_st m 105 (m 96 14) v1) 96 14) + 1)) Q))) : ku11_breaksCheaply_19 v1 m Q := by
  show vm_G 184 19 [some (vm_r 96), some (vm_i v1)] [] m (vm_qv Q)
  refine vm_gp [(.iload 1, 0, 0, []), (.aload 0, 0, 0, []), (.getfield 2, 11, 7, [(100, 0)]), (.iconst 8, 0, 0, []), (.iaload, 1075, 0, [])] (pc1 := 27) (ls1 := [some (vm_r 96), some (vm_i v1)]) (st1 := [vm_i (m 100 8), vm_i v1]) (m1 := m) (ob := ((((true && vm_is 96 11) && true) && vm_ar 100 100 1075) && decide ((0 : Int) ≤ 8 ∧ (8 : Int) < 1075))) (by decide +kernel) rfl (vm_t (vm_u (vm_u (vm_u rfl (by decide +kernel)) rfl) (by decide +kernel)) (by decide)) ?_
  refine vm_gj (c := (m 100 8) ≤ v1) (t := 73) (e := 30) (i := (.if_icmp .ge 0, 73, 0, [])) (len := 3) (st1 := []) (by decide +kernel) rfl rfl (fun c1 => ?_) (fun c1 => ?_)
  · replace h := h.1 c1
    exact vm_gr (r := none) (i := (.return_, 0, 0, [])) (len := 1) (by decide +kernel) rfl rfl rfl ⟨rfl, h⟩
  · replace h := h.2 c1
    obtain ⟨⟨o3_0, o3_1, o3_2, o3_3, o3_4, o3_5, o3_6⟩, h⟩ := h
    refine vm_gp [(.aload 0, 0, 0, []), (.getfield 2, 11, 13, [(105, 0)]), (.aload 0, 0, 0, []), (.getfield 0, 11, 14, []), (.iload 1, 0, 0, []), (.iastore, 14, 0, []), (.iload 1, 0, 0, []), (.aload 0, 0, 0, []), (.getfield 2, 11, 16, [(107, 0)]), (.iconst 31, 0, 0, []), (.iconst 12, 0, 0, []), (.aload 0, 0, 0, []), (.getfield 0, 11, 14, []), (.isub, 0, 0, []), (.imul, 0, 0, []), (.iload 1, 0, 0, []), (.iadd, 0, 0, []), (.iaload, 403, 0, []), (.iadd, 0, 0, []), (.istore 1, 0, 0, []), (.aload 0, 0, 0, []), (.dup, 0, 0, []), (.getfield 0, 11, 14, []), (.iconst 1, 0, 0, []), (.iadd, 0, 0, []), (.putfield 0, 11, 14, []), (.goto 0, 19, 0, [])] (pc1 := 19) (ls1 := [some (vm_r 96), some (vm_i (v1 + ((vm_st m 105 (m 96 14) v1) 107 ((31 * (12 - ((vm_st m 105 (m 96 14) v1) 96 14))) + v1))))]) (st1 := []) (m1 := (vm_st (vm_st m 105 (m 96 14) v1) 96 14 (((vm_st m 105 (m 96 14) v1) 96 14) + 1))) (ob := (((((((((((((((((true && vm_is 96 11) && true) && vm_is 96 11) && vm_ar 105 100 14) && decide (0 ≤ (m 96 14) ∧ (m 96 14) < 14)) && vm_is 96 11) && true) && vm_is 96 11) && decide (vm_32 (12 - ((vm_st m 105 (m 96 14) v1) 96 14)))) && decide (vm_32 (31 * (12 - ((vm_st m 105 (m 96 14) v1) 96 14))))) && decide (vm_32 ((31 * (12 - ((vm_st m 105 (m 96 14) v1) 96 14))) + v1))) && vm_ar 107 100 403) && decide (0 ≤ ((31 * (12 - ((vm_st m 105 (m 96 14) v1) 96 14))) + v1) ∧ ((31 * (12 - ((vm_st m 105 (m 96 14) v1) 96 14))) + v1) < 403)) && decide (vm_32 (v1 + ((vm_st m 105 (m 96 14) v1) 107 ((31 * (12 - ((vm_st m 105 (m 96 14) v1) 96 14))) + v1))))) && vm_is 96 11) && decide (vm_32 (((vm_st m 105 (m 96 14) v1) 96 14) + 1))) && vm_is 96 11)) (by decide +kernel) rfl (vm_u (vm_t (vm_u (vm_t (vm_t (vm_u (vm_t (vm_t (vm_t (vm_u (vm_u (vm_u (vm_t (vm_u (vm_u (vm_u (vm_u rfl (by decide +kernel)) rfl) (by decide +kernel)) (by decide +kernel)) o3_0) (by decide +kernel)) rfl) (by decide +kernel)) o3_1) o3_2) o3_3) (by decide +kernel)) o3_4) o3_5) (by decide +kernel)) o3_6) (by decide +kernel)) ?_
    exact h
abbrev ku11_breaksWords_0  (m : vm_M) (Q : vm_M → Prop) : Prop := vm_G 185 0 [some (vm_r 96), none] [] m (vm_qv Q)
set_option maxRecDepth 20000 in
theorem ru11_breaksWords_0  {m : vm_M} {Q : vm_M → Prop}  (h :
    ((¬ (m 100 6) = 1 →
      (vm_C 181 [vm_r 96] m (vm_qi (fun z1 m1 =>
        ((z1 ≤ 12 →
          ((0 ≤ ((vm_st m1 96 14 z1) 96 14) ∧ ((vm_st m1 96 14 z1) 96 14) < 14)) ∧
          Q (vm_st (vm_st m1 96 14 z1) 105 ((vm_st m1 96 14 z1) 96 14) ((vm_st m1 96 14 z1) 100 8))) ∧ (¬ z1 ≤ 12 →
          ((0 ≤ ((vm_st m1 96 14 0) 96 14) ∧ ((vm_st m1 96 14 0) 96 14) < 14)) ∧
          Q (vm_st (vm_st m1 96 14 0) 105 ((vm_st m1 96 14 0) 96 14) ((vm_st m1 96 14 0) 100 8)))))))) ∧ (¬ ¬ (m 100 6) = 1 →
      (vm_C 184 [vm_r 96] m (vm_qv (fun m2 =>
        ((0 ≤ (m2 96 14) ∧ (m2 96 14) < 14)) ∧
        Q (vm_st m2 105 (m2 96 14) (m2 100 8)))))))) : vm_C 185 [vm_r 96] m (vm_qv Q) := by
  show vm_G 185 0 [some (vm_r 96), none] [] m (vm_qv Q)
  refine vm_gp [(.aload 0, 0, 0, []), (.getfield 2, 11, 7, [(100, 0)]), (.iconst 6, 0, 0, []), (.iaload, 1075, 0, []), (.iconst 1, 0, 0, [])] (pc1 := 8) (ls1 := [some (vm_r 96), none]) (st1 := [vm_i 1, vm_i (m 100 6)]) (m1 := m) (ob := ((((true && vm_is 96 11) && true) && vm_ar 100 100 1075) && decide ((0 : Int) ≤ 6 ∧ (6 : Int) < 1075))) (by decide +kernel) rfl (vm_t (vm_u (vm_u (vm_u rfl (by decide +kernel)) rfl) (by decide +kernel)) (by decide)) ?_
  refine vm_gj (c := ¬ (m 100 6) = 1) (t := 18) (e := 11) (i := (.if_icmp .ne 0, 18, 0, [])) (len := 3) (st1 := []) (by decide +kernel) rfl rfl (fun c1 => ?_) (fun c1 => ?_)
  · replace h := h.1 c1
    refine vm_gp [(.aload 0, 0, 0, [])] (pc1 := 19) (ls1 := [some (vm_r 96), none]) (st1 := [vm_r 96]) (m1 := m) (ob := true) (by decide +kernel) rfl rfl ?_
    refine vm_gc (g := 181) (na := 1) (av := [vm_r 96]) (rest := []) (i := (.invokevirtual 0, 181, 1, [])) (len := 3) (by decide +kernel) rfl rfl rfl (by decide +kernel) (by decide +kernel) rfl rfl (vm_u (vm_okh_v (c := 11) (by decide +kernel) (by decide +kernel)) (show vm_okn 181 1 0 0 0 1 = true by decide +kernel)) ?_
    refine vm_G.mono h ?_
    rintro _ m1 ⟨z1, rfl, h⟩
    show vm_G 185 22 [some (vm_r 96), none] [vm_i z1] m1 _
    refine vm_gp [(.istore 1, 0, 0, []), (.aload 0, 0, 0, []), (.iload 1, 0, 0, []), (.iconst 12, 0, 0, [])] (pc1 := 27) (ls1 := [some (vm_r 96), some (vm_i z1)]) (st1 := [vm_i 12, vm_i z1, vm_r 96]) (m1 := m1) (ob := true) (by decide +kernel) rfl rfl ?_
    refine vm_gj (c := z1 ≤ 12) (t := 34) (e := 30) (i := (.if_icmp .le 0, 34, 0, [])) (len := 3) (st1 := [vm_r 96]) (by decide +kernel) rfl rfl (fun c2 => ?_) (fun c2 => ?_)
    · replace h := h.1 c2
      obtain ⟨o4_0, h⟩ := h
      refine vm_gp [(.iload 1, 0, 0, []), (.putfield 0, 11, 14, []), (.aload 0, 0, 0, []), (.getfield 2, 11, 13, [(105, 0)]), (.aload 0, 0, 0, []), (.getfield 0, 11, 14, []), (.aload 0, 0, 0, []), (.getfield 2, 11, 7, [(100, 0)]), (.iconst 8, 0, 0, []), (.iaload, 1075, 0, []), (.iastore, 14, 0, [])] (pc1 := 54) (ls1 := [some (vm_r 96), some (vm_i z1)]) (st1 := []) (m1 := (vm_st (vm_st m1 96 14 z1) 105 ((vm_st m1 96 14 z1) 96 14) ((vm_st m1 96 14 z1) 100 8))) (ob := ((((((((((true && vm_is 96 11) && vm_is 96 11) && true) && vm_is 96 11) && vm_is 96 11) && true) && vm_ar 100 100 1075) && decide ((0 : Int) ≤ 8 ∧ (8 : Int) < 1075)) && vm_ar 105 100 14) && decide (0 ≤ ((vm_st m1 96 14 z1) 96 14) ∧ ((vm_st m1 96 14 z1) 96 14) < 14))) (by decide +kernel) rfl (vm_t (vm_u (vm_t (vm_u (vm_u (vm_u (vm_u (vm_u (vm_u (vm_u rfl (by decide +kernel)) (by decide +kernel)) rfl) (by decide +kernel)) (by decide +kernel)) rfl) (by decide +kernel)) (by decide)) (by decide +kernel)) o4_0) ?_
      exact vm_gr (r := none) (i := (.return_, 0, 0, [])) (len := 1) (by decide +kernel) rfl rfl rfl ⟨rfl, h⟩
    · replace h := h.2 c2
      obtain ⟨o5_0, h⟩ := h
      refine vm_gp [(.iconst 0, 0, 0, []), (.goto 0, 35, 0, []), (.putfield 0, 11, 14, []), (.aload 0, 0, 0, []), (.getfield 2, 11, 13, [(105, 0)]), (.aload 0, 0, 0, []), (.getfield 0, 11, 14, []), (.aload 0, 0, 0, []), (.getfield 2, 11, 7, [(100, 0)]), (.iconst 8, 0, 0, []), (.iaload, 1075, 0, []), (.iastore, 14, 0, [])] (pc1 := 54) (ls1 := [some (vm_r 96), some (vm_i z1)]) (st1 := []) (m1 := (vm_st (vm_st m1 96 14 0) 105 ((vm_st m1 96 14 0) 96 14) ((vm_st m1 96 14 0) 100 8))) (ob := ((((((((((true && vm_is 96 11) && vm_is 96 11) && true) && vm_is 96 11) && vm_is 96 11) && true) && vm_ar 100 100 1075) && decide ((0 : Int) ≤ 8 ∧ (8 : Int) < 1075)) && vm_ar 105 100 14) && decide (0 ≤ ((vm_st m1 96 14 0) 96 14) ∧ ((vm_st m1 96 14 0) 96 14) < 14))) (by decide +kernel) rfl (vm_t (vm_u (vm_t (vm_u (vm_u (vm_u (vm_u (vm_u (vm_u (vm_u rfl (by decide +kernel)) (by decide +kernel)) rfl) (by decide +kernel)) (by decide +kernel)) rfl) (by decide +kernel)) (by decide)) (by decide +kernel)) o5_0) ?_
      exact vm_gr (r := none) (i := (.return_, 0, 0, [])) (len := 1) (by decide +kernel) rfl rfl rfl ⟨rfl, h⟩
  · replace h := h.2 c1
    refine vm_gp [(.aload 0, 0, 0, [])] (pc1 := 12) (ls1 := [some (vm_r 96), none]) (st1 := [vm_r 96]) (m1 := m) (ob := true) (by decide +kernel) rfl rfl ?_
    refine vm_gc (g := 184) (na := 1) (av := [vm_r 96]) (rest := []) (i := (.invokevirtual 0, 184, 1, [])) (len := 3) (by decide +kernel) rfl rfl rfl (by decide +kernel) (by decide +kernel) rfl rfl (vm_u (vm_okh_v (c := 11) (by decide +kernel) (by decide +kernel)) (show vm_okn 184 1 0 0 0 1 = true by decide +kernel)) ?_
    refine vm_G.mono h ?_
    rintro _ m2 ⟨rfl, h⟩
    show vm_G 185 15 [some (vm_r 96), none] [] m2 _
    obtain ⟨o7_0, h⟩ := h
    refine vm_gp [(.goto 0, 38, 0, []), (.aload 0, 0, 0, []), (.getfield 2, 11, 13, [(105, 0)]), (.aload 0, 0, 0, []), (.getfield 0, 11, 14, []), (.aload 0, 0, 0, []), (.getfield 2, 11, 7, [(100, 0)]), (.iconst 8, 0, 0, []), (.iaload, 1075, 0, []), (.iastore, 14, 0, [])] (pc1 := 54) (ls1 := [some (vm_r 96), none]) (st1 := []) (m1 := (vm_st m2 105 (m2 96 14) (m2 100 8))) (ob := (((((((((true && vm_is 96 11) && true) && vm_is 96 11) && vm_is 96 11) && true) && vm_ar 100 100 1075) && decide ((0 : Int) ≤ 8 ∧ (8 : Int) < 1075)) && vm_ar 105 100 14) && decide (0 ≤ (m2 96 14) ∧ (m2 96 14) < 14))) (by decide +kernel) rfl (vm_t (vm_u (vm_t (vm_u (vm_u (vm_u (vm_u (vm_u (vm_u rfl (by decide +kernel)) rfl) (by decide +kernel)) (by decide +kernel)) rfl) (by decide +kernel)) (by decide)) (by decide +kernel)) o7_0) ?_
    exact vm_gr (r := none) (i := (.return_, 0, 0, [])) (len := 1) (by decide +kernel) rfl rfl rfl ⟨rfl, h⟩
abbrev ku11_laysRows_0  (m : vm_M) (Q : vm_M → Prop) : Prop := vm_G 186 0 [some (vm_r 96)] [] m (vm_qv Q)
set_option maxRecDepth 20000 in
theorem ru11_laysRows_0  {m : vm_M} {Q : vm_M → Prop}  (h :
    (vm_C 177 [vm_r 96] m (vm_qv (fun m1 =>
      (vm_C 185 [vm_r 96] m1 (vm_qv (fun m2 =>
        Q m2))))))) : vm_C 186 [vm_r 96] m (vm_qv Q) := by
  show vm_G 186 0 [some (vm_r 96)] [] m (vm_qv Q)
  refine vm_gp [(.aload 0, 0, 0, [])] (pc1 := 1) (ls1 := [some (vm_r 96)]) (st1 := [vm_r 96]) (m1 := m) (ob := true) (by decide +kernel) rfl rfl ?_
  refine vm_gc (g := 177) (na := 1) (av := [vm_r 96]) (rest := []) (i := (.invokevirtual 0, 177, 1, [])) (len := 3) (by decide +kernel) rfl rfl rfl (by decide +kernel) (by decide +kernel) rfl rfl (vm_u (vm_okh_v (c := 11) (by decide +kernel) (by decide +kernel)) (show vm_okn 177 1 0 0 0 1 = true by decide +kernel)) ?_
  refine vm_G.mono h ?_
  rintro _ m1 ⟨rfl, h⟩
  show vm_G 186 4 [some (vm_r 96)] [] m1 _
  refine vm_gp [(.aload 0, 0, 0, [])] (pc1 := 5) (ls1 := [some (vm_r 96)]) (st1 := [vm_r 96]) (m1 := m1) (ob := true) (by decide +kernel) rfl rfl ?_
  refine vm_gc (g := 185) (na := 1) (av := [vm_r 96]) (rest := []) (i := (.invokevirtual 0, 185, 1, [])) (len := 3) (by decide +kernel) rfl rfl rfl (by decide +kernel) (by decide +kernel) rfl rfl (vm_u (vm_okh_v (c := 11) (by decide +kernel) (by decide +kernel)) (show vm_okn 185 1 0 0 0 1 = true by decide +kernel)) ?_
  refine vm_G.mono h ?_
  rintro _ m2 ⟨rfl, h⟩
  show vm_G 186 8 [some (vm_r 96)] [] m2 _
  exact vm_gr (r := none) (i := (.return_, 0, 0, [])) (len := 1) (by decide +kernel) rfl rfl rfl ⟨rfl, h⟩
abbrev ku11_costOfRows_0  (m : vm_M) (Q : Int → vm_M → Prop) : Prop := vm_G 187 0 [some (vm_r 96), none, none, none] [] m (vm_ql Q)
abbrev ku11_costOfRows_4 (v1 : Int) (v3 : Int) (m : vm_M) (Q : Int → vm_M → Prop) : Prop := vm_G 187 4 [some (vm_r 96), some (vm_l v1), none, some (vm_i v3)] [] m (vm_ql Q)
set_option maxRecDepth 20000 in
theorem ru11_costOfRows_0  {m : vm_M} {Q : Int → vm_M → Prop}  (h :
    ku11_costOfRows_4 0 0 m Q) : vm_C 187 [vm_r 96] m (vm_ql Q) := by
  show vm_G 187 0 [some (vm_r 96), none, none, none] [] m (vm_ql Q)
  refine vm_gp [(.ldc2_w 0, 0, 0, [(0, 0)]), (.lstore 1, 0, 0, []), (.iconst 0, 0, 0, []), (.istore 3, 0, 0, [])] (pc1 := 4) (ls1 := [some (vm_r 96), some (vm_l 0), none, some (vm_i 0)]) (st1 := []) (m1 := m) (ob := true) (by decide +kernel) rfl rfl ?_
  exact h
set_option maxRecDepth 20000 in
theorem ru11_costOfRows_4 {v1 : Int} {v3 : Int} {m : vm_M} {Q : Int → vm_M → Prop}  (h :
    ((vm_32 (v3 + 1))) ∧
    (((m 96 14) ≤ (v3 + 1) →
      Q v1 m) ∧ (¬ (m 96 14) ≤ (v3 + 1) →
      ((0 ≤ v3 ∧ v3 < 14) ∧ (vm_32 (v3 + 1)) ∧ (0 ≤ (v3 + 1) ∧ (v3 + 1) < 14)) ∧
      (vm_C 180 [vm_r 96, vm_i (m 105 v3), vm_i (m 105 (v3 + 1))] m (vm_ql (fun z1 m1 =>
        ((vm_64 (v1 + z1)) ∧ (vm_32 (v3 + 1))) ∧
        ku11_costOfRows_4 (v1 + z1) (v3 + 1) m1 Q)))))) : ku11_costOfRows_4 v1 v3 m Q := by
  show vm_G 187 4 [some (vm_r 96), some (vm_l v1), none, some (vm_i v3)] [] m (vm_ql Q)
  obtain ⟨o1_0, h⟩ := h
  refine vm_gp [(.iload 3, 0, 0, []), (.iconst 1, 0, 0, []), (.iadd, 0, 0, []), (.aload 0, 0, 0, []), (.getfield 0, 11, 14, [])] (pc1 := 11) (ls1 := [some (vm_r 96), some (vm_l v1), none, some (vm_i v3)]) (st1 := [vm_i (m 96 14), vm_i (v3 + 1)]) (m1 := m) (ob := ((true && decide (vm_32 (v3 + 1))) && vm_is 96 11)) (by decide +kernel) rfl (vm_u (vm_t rfl o1_0) (by decide +kernel)) ?_
  refine vm_gj (c := (m 96 14) ≤ (v3 + 1)) (t := 41) (e := 14) (i := (.if_icmp .ge 0, 41, 0, [])) (len := 3) (st1 := []) (by decide +kernel) rfl rfl (fun c1 => ?_) (fun c1 => ?_)
  · replace h := h.1 c1
    refine vm_gp [(.lload 1, 0, 0, [])] (pc1 := 42) (ls1 := [some (vm_r 96), some (vm_l v1), none, some (vm_i v3)]) (st1 := [vm_l v1]) (m1 := m) (ob := true) (by decide +kernel) rfl rfl ?_
    exact vm_gr (r := some (vm_l v1)) (i := (.lreturn, 3, 0, [])) (len := 1) (by decide +kernel) rfl rfl rfl ⟨_, rfl, h⟩
  · replace h := h.2 c1
    obtain ⟨⟨o3_0, o3_1, o3_2⟩, h⟩ := h
    refine vm_gp [(.lload 1, 0, 0, []), (.aload 0, 0, 0, []), (.aload 0, 0, 0, []), (.getfield 2, 11, 13, [(105, 0)]), (.iload 3, 0, 0, []), (.iaload, 14, 0, []), (.aload 0, 0, 0, []), (.getfield 2, 11, 13, [(105, 0)]), (.iload 3, 0, 0, []), (.iconst 1, 0, 0, []), (.iadd, 0, 0, []), (.iaload, 14, 0, [])] (pc1 := 30) (ls1 := [some (vm_r 96), some (vm_l v1), none, some (vm_i v3)]) (st1 := [vm_i (m 105 (v3 + 1)), vm_i (m 105 v3), vm_r 96, vm_l v1]) (m1 := m) (ob := (((((((((true && vm_is 96 11) && true) && vm_ar 105 100 14) && decide (0 ≤ v3 ∧ v3 < 14)) && vm_is 96 11) && true) && decide (vm_32 (v3 + 1))) && vm_ar 105 100 14) && decide (0 ≤ (v3 + 1) ∧ (v3 + 1) < 14))) (by decide +kernel) rfl (vm_t (vm_u (vm_t (vm_u (vm_u (vm_t (vm_u (vm_u (vm_u rfl (by decide +kernel)) rfl) (by decide +kernel)) o3_0) (by decide +kernel)) rfl) o3_1) (by decide +kernel)) o3_2) ?_
    refine vm_gc (g := 180) (na := 3) (av := [vm_r 96, vm_i (m 105 v3), vm_i (m 105 (v3 + 1))]) (rest := [vm_l v1]) (i := (.invokevirtual 0, 180, 3, [])) (len := 3) (by decide +kernel) rfl rfl rfl (by decide +kernel) (by decide +kernel) rfl rfl (vm_u (vm_okh_v (c := 11) (by decide +kernel) (by decide +kernel)) (show vm_okn 180 3 2 0 0 3 = true by decide +kernel)) ?_
    refine vm_G.mono h ?_
    rintro _ m1 ⟨z1, rfl, h⟩
    show vm_G 187 33 [some (vm_r 96), some (vm_l v1), none, some (vm_i v3)] [vm_l z1, vm_l v1] m1 _
    obtain ⟨⟨o4_0, o4_1⟩, h⟩ := h
    refine vm_gp [(.ladd, 0, 0, []), (.lstore 1, 0, 0, []), (.iinc 3 1, 0, 0, []), (.goto 0, 4, 0, [])] (pc1 := 4) (ls1 := [some (vm_r 96), some (vm_l (v1 + z1)), none, some (vm_i (v3 + 1))]) (st1 := []) (m1 := m1) (ob := ((true && decide (vm_64 (v1 + z1))) && decide (vm_32 (v3 + 1)))) (by decide +kernel) rfl (vm_t (vm_t rfl o4_0) o4_1) ?_
    exact h
abbrev ku11_heightOfRows_0  (m : vm_M) (Q : Int → vm_M → Prop) : Prop := vm_G 188 0 [some (vm_r 96)] [] m (vm_qi Q)
set_option maxRecDepth 20000 in
theorem ru11_heightOfRows_0  {m : vm_M} {Q : Int → vm_M → Prop}  (h :
    ((¬ (m 96 14) = 0 →
      ((vm_32 ((m 96 14) * 6)) ∧ (vm_32 (((m 96 14) * 6) * (m 100 5))) ∧ (vm_32 ((m 96 14) - 1)) ∧ (vm_32 (((m 96 14) - 1) * (m 100 2))) ∧ (vm_32 ((((m 96 14) * 6) * (m 100 5)) + (((m 96 14) - 1) * (m 100 2))))) ∧
      Q ((((m 96 14) * 6) * (m 100 5)) + (((m 96 14) - 1) * (m 100 2))) m) ∧ (¬ ¬ (m 96 14) = 0 →
      Q 0 m))) : vm_C 188 [vm_r 96] m (vm_qi Q) := by
  show vm_G 188 0 [some (vm_r 96)] [] m (vm_qi Q)
  refine vm_gp [(.aload 0, 0, 0, []), (.getfield 0, 11, 14, [])] (pc1 := 4) (ls1 := [some (vm_r 96)]) (st1 := [vm_i (m 96 14)]) (m1 := m) (ob := (true && vm_is 96 11)) (by decide +kernel) rfl (vm_u rfl (by decide +kernel)) ?_
  refine vm_gj (c := ¬ (m 96 14) = 0) (t := 11) (e := 7) (i := (.ifCond .ne 0, 11, 0, [])) (len := 3) (st1 := []) (by decide +kernel) rfl rfl (fun c1 => ?_) (fun c1 => ?_)
  · replace h := h.1 c1
    obtain ⟨⟨o2_0, o2_1, o2_2, o2_3, o2_4⟩, h⟩ := h
    refine vm_gp [(.aload 0, 0, 0, []), (.getfield 0, 11, 14, []), (.iconst 6, 0, 0, []), (.imul, 0, 0, []), (.aload 0, 0, 0, []), (.getfield 2, 11, 7, [(100, 0)]), (.iconst 5, 0, 0, []), (.iaload, 1075, 0, []), (.imul, 0, 0, []), (.aload 0, 0, 0, []), (.getfield 0, 11, 14, []), (.iconst 1, 0, 0, []), (.isub, 0, 0, []), (.aload 0, 0, 0, []), (.getfield 2, 11, 7, [(100, 0)]), (.iconst 2, 0, 0, []), (.iaload, 1075, 0, []), (.imul, 0, 0, []), (.iadd, 0, 0, [])] (pc1 := 39) (ls1 := [some (vm_r 96)]) (st1 := [vm_i ((((m 96 14) * 6) * (m 100 5)) + (((m 96 14) - 1) * (m 100 2)))]) (m1 := m) (ob := (((((((((((((((true && vm_is 96 11) && decide (vm_32 ((m 96 14) * 6))) && vm_is 96 11) && true) && vm_ar 100 100 1075) && decide ((0 : Int) ≤ 5 ∧ (5 : Int) < 1075)) && decide (vm_32 (((m 96 14) * 6) * (m 100 5)))) && vm_is 96 11) && decide (vm_32 ((m 96 14) - 1))) && vm_is 96 11) && true) && vm_ar 100 100 1075) && decide ((0 : Int) ≤ 2 ∧ (2 : Int) < 1075)) && decide (vm_32 (((m 96 14) - 1) * (m 100 2)))) && decide (vm_32 ((((m 96 14) * 6) * (m 100 5)) + (((m 96 14) - 1) * (m 100 2)))))) (by decide +kernel) rfl (vm_t (vm_t (vm_t (vm_u (vm_u (vm_u (vm_t (vm_u (vm_t (vm_t (vm_u (vm_u (vm_u (vm_t (vm_u rfl (by decide +kernel)) o2_0) (by decide +kernel)) rfl) (by decide +kernel)) (by decide)) o2_1) (by decide +kernel)) o2_2) (by decide +kernel)) rfl) (by decide +kernel)) (by decide)) o2_3) o2_4) ?_
    exact vm_gr (r := some (vm_i ((((m 96 14) * 6) * (m 100 5)) + (((m 96 14) - 1) * (m 100 2))))) (i := (.ireturn, 1, 0, [])) (len := 1) (by decide +kernel) rfl rfl rfl ⟨_, rfl, h⟩
  · replace h := h.2 c1
    refine vm_gp [(.iconst 0, 0, 0, []), (.goto 0, 39, 0, [])] (pc1 := 39) (ls1 := [some (vm_r 96)]) (st1 := [vm_i 0]) (m1 := m) (ob := true) (by decide +kernel) rfl rfl ?_
    exact vm_gr (r := some (vm_i 0)) (i := (.ireturn, 1, 0, [])) (len := 1) (by decide +kernel) rfl rfl rfl ⟨_, rfl, h⟩
abbrev ku11_fitsNow_0  (m : vm_M) (Q : Int → vm_M → Prop) : Prop := vm_G 189 0 [some (vm_r 96), none, none] [] m (vm_qi Q)
abbrev ku11_fitsNow_42 (v1 : Int) (v2 : Int) (m : vm_M) (Q : Int → vm_M → Prop) : Prop := vm_G 189 42 [some (vm_r 96), some (vm_i v1), some (vm_i v2)] [] m (vm_qi Q)
set_option maxRecDepth 20000 in
theorem ru11_fitsNow_0  {m : vm_M} {Q : Int → vm_M → Prop}  (h :
    (vm_C 186 [vm_r 96] m (vm_qv (fun m1 =>
      ((0 < (m1 96 14) →
        (vm_C 188 [vm_r 96] m1 (vm_qi (fun z2 m2 =>
          (((m2 100 1) < z2 →
            ku11_fitsNow_42 0 0 m2 Q) ∧ (¬ (m2 100 1) < z2 →
            ku11_fitsNow_42 1 0 m2 Q)))))) ∧ (¬ 0 < (m1 96 14) →
        ((¬ (m1 100 8) = 0 →
          ku11_fitsNow_42 0 0 m1 Q) ∧ (¬ ¬ (m1 100 8) = 0 →
          (vm_C 188 [vm_r 96] m1 (vm_qi (fun z3 m3 =>
            (((m3 100 1) < z3 →
              ku11_fitsNow_42 0 0 m3 Q) ∧ (¬ (m3 100 1) < z3 →
              ku11_fitsNow_42 1 0 m3 Q))))))))))))) : vm_C 189 [vm_r 96] m (vm_qi Q) := by
  show vm_G 189 0 [some (vm_r 96), none, none] [] m (vm_qi Q)
  refine vm_gp [(.aload 0, 0, 0, [])] (pc1 := 1) (ls1 := [some (vm_r 96), none, none]) (st1 := [vm_r 96]) (m1 := m) (ob := true) (by decide +kernel) rfl rfl ?_
  refine vm_gc (g := 186) (na := 1) (av := [vm_r 96]) (rest := []) (i := (.invokevirtual 0, 186, 1, [])) (len := 3) (by decide +kernel) rfl rfl rfl (by decide +kernel) (by decide +kernel) rfl rfl (vm_u (vm_okh_v (c := 11) (by decide +kernel) (by decide +kernel)) (show vm_okn 186 1 0 0 0 1 = true by decide +kernel)) ?_
  refine vm_G.mono h ?_
  rintro _ m1 ⟨rfl, h⟩
  show vm_G 189 4 [some (vm_r 96), none, none] [] m1 _
  refine vm_gp [(.aload 0, 0, 0, []), (.getfield 0, 11, 14, [])] (pc1 := 8) (ls1 := [some (vm_r 96), none, none]) (st1 := [vm_i (m1 96 14)]) (m1 := m1) (ob := (true && vm_is 96 11)) (by decide +kernel) rfl (vm_u rfl (by decide +kernel)) ?_
  refine vm_gj (c := 0 < (m1 96 14)) (t := 21) (e := 11) (i := (.ifCond .gt 0, 21, 0, [])) (len := 3) (st1 := []) (by decide +kernel) rfl rfl (fun c1 => ?_) (fun c1 => ?_)
  · replace h := h.1 c1
    refine vm_gp [(.aload 0, 0, 0, [])] (pc1 := 22) (ls1 := [some (vm_r 96), none, none]) (st1 := [vm_r 96]) (m1 := m1) (ob := true) (by decide +kernel) rfl rfl ?_
    refine vm_gc (g := 188) (na := 1) (av := [vm_r 96]) (rest := []) (i := (.invokevirtual 0, 188, 1, [])) (len := 3) (by decide +kernel) rfl rfl rfl (by decide +kernel) (by decide +kernel) rfl rfl (vm_u (vm_okh_v (c := 11) (by decide +kernel) (by decide +kernel)) (show vm_okn 188 1 0 0 0 1 = true by decide +kernel)) ?_
    refine vm_G.mono h ?_
    rintro _ m2 ⟨z2, rfl, h⟩
    show vm_G 189 25 [some (vm_r 96), none, none] [vm_i z2] m2 _
    refine vm_gp [(.aload 0, 0, 0, []), (.getfield 2, 11, 7, [(100, 0)]), (.iconst 1, 0, 0, []), (.iaload, 1075, 0, [])] (pc1 := 31) (ls1 := [some (vm_r 96), none, none]) (st1 := [vm_i (m2 100 1), vm_i z2]) (m1 := m2) (ob := ((((true && vm_is 96 11) && true) && vm_ar 100 100 1075) && decide ((0 : Int) ≤ 1 ∧ (1 : Int) < 1075))) (by decide +kernel) rfl (vm_t (vm_u (vm_u (vm_u rfl (by decide +kernel)) rfl) (by decide +kernel)) (by decide)) ?_
    refine vm_gj (c := (m2 100 1) < z2) (t := 38) (e := 34) (i := (.if_icmp .gt 0, 38, 0, [])) (len := 3) (st1 := []) (by decide +kernel) rfl rfl (fun c2 => ?_) (fun c2 => ?_)
    · replace h := h.1 c2
      refine vm_gp [(.iconst 0, 0, 0, []), (.istore 1, 0, 0, []), (.iconst 0, 0, 0, []), (.istore 2, 0, 0, [])] (pc1 := 42) (ls1 := [some (vm_r 96), some (vm_i 0), some (vm_i 0)]) (st1 := []) (m1 := m2) (ob := true) (by decide +kernel) rfl rfl ?_
      exact h
    · replace h := h.2 c2
      refine vm_gp [(.iconst 1, 0, 0, []), (.goto 0, 39, 0, []), (.istore 1, 0, 0, []), (.iconst 0, 0, 0, []), (.istore 2, 0, 0, [])] (pc1 := 42) (ls1 := [some (vm_r 96), some (vm_i 1), some (vm_i 0)]) (st1 := []) (m1 := m2) (ob := true) (by decide +kernel) rfl rfl ?_
      exact h
  · replace h := h.2 c1
    refine vm_gp [(.aload 0, 0, 0, []), (.getfield 2, 11, 7, [(100, 0)]), (.iconst 8, 0, 0, []), (.iaload, 1075, 0, [])] (pc1 := 18) (ls1 := [some (vm_r 96), none, none]) (st1 := [vm_i (m1 100 8)]) (m1 := m1) (ob := ((((true && vm_is 96 11) && true) && vm_ar 100 100 1075) && decide ((0 : Int) ≤ 8 ∧ (8 : Int) < 1075))) (by decide +kernel) rfl (vm_t (vm_u (vm_u (vm_u rfl (by decide +kernel)) rfl) (by decide +kernel)) (by decide)) ?_
    refine vm_gj (c := ¬ (m1 100 8) = 0) (t := 38) (e := 21) (i := (.ifCond .ne 0, 38, 0, [])) (len := 3) (st1 := []) (by decide +kernel) rfl rfl (fun c3 => ?_) (fun c3 => ?_)
    · replace h := h.1 c3
      refine vm_gp [(.iconst 0, 0, 0, []), (.istore 1, 0, 0, []), (.iconst 0, 0, 0, []), (.istore 2, 0, 0, [])] (pc1 := 42) (ls1 := [some (vm_r 96), some (vm_i 0), some (vm_i 0)]) (st1 := []) (m1 := m1) (ob := true) (by decide +kernel) rfl rfl ?_
      exact h
    · replace h := h.2 c3
      refine vm_gp [(.aload 0, 0, 0, [])] (pc1 := 22) (ls1 := [some (vm_r 96), none, none]) (st1 := [vm_r 96]) (m1 := m1) (ob := true) (by decide +kernel) rfl rfl ?_
      refine vm_gc (g := 188) (na := 1) (av := [vm_r 96]) (rest := []) (i := (.invokevirtual 0, 188, 1, [])) (len := 3) (by decide +kernel) rfl rfl rfl (by decide +kernel) (by decide +kernel) rfl rfl (vm_u (vm_okh_v (c := 11) (by decide +kernel) (by decide +kernel)) (show vm_okn 188 1 0 0 0 1 = true by decide +kernel)) ?_
      refine vm_G.mono h ?_
      rintro _ m3 ⟨z3, rfl, h⟩
      show vm_G 189 25 [some (vm_r 96), none, none] [vm_i z3] m3 _
      refine vm_gp [(.aload 0, 0, 0, []), (.getfield 2, 11, 7, [(100, 0)]), (.iconst 1, 0, 0, []), (.iaload, 1075, 0, [])] (pc1 := 31) (ls1 := [some (vm_r 96), none, none]) (st1 := [vm_i (m3 100 1), vm_i z3]) (m1 := m3) (ob := ((((true && vm_is 96 11) && true) && vm_ar 100 100 1075) && decide ((0 : Int) ≤ 1 ∧ (1 : Int) < 1075))) (by decide +kernel) rfl (vm_t (vm_u (vm_u (vm_u rfl (by decide +kernel)) rfl) (by decide +kernel)) (by decide)) ?_
      refine vm_gj (c := (m3 100 1) < z3) (t := 38) (e := 34) (i := (.if_icmp .gt 0, 38, 0, [])) (len := 3) (st1 := []) (by decide +kernel) rfl rfl (fun c4 => ?_) (fun c4 => ?_)
      · replace h := h.1 c4
        refine vm_gp [(.iconst 0, 0, 0, []), (.istore 1, 0, 0, []), (.iconst 0, 0, 0, []), (.istore 2, 0, 0, [])] (pc1 := 42) (ls1 := [some (vm_r 96), some (vm_i 0), some (vm_i 0)]) (st1 := []) (m1 := m3) (ob := true) (by decide +kernel) rfl rfl ?_
        exact h
      · replace h := h.2 c4
        refine vm_gp [(.iconst 1, 0, 0, []), (.goto 0, 39, 0, []), (.istore 1, 0, 0, []), (.iconst 0, 0, 0, []), (.istore 2, 0, 0, [])] (pc1 := 42) (ls1 := [some (vm_r 96), some (vm_i 1), some (vm_i 0)]) (st1 := []) (m1 := m3) (ob := true) (by decide +kernel) rfl rfl ?_
        exact h
set_option maxRecDepth 20000 in
theorem ru11_fitsNow_42 {v1 : Int} {v2 : Int} {m : vm_M} {Q : Int → vm_M → Prop}  (h :
    (((m 96 14) ≤ v2 →
      ((v1 = 0 ∨ v1 = 1)) ∧
      Q v1 m) ∧ (¬ (m 96 14) ≤ v2 →
      ((v1 = 0 →
        ((vm_32 (v2 + 1))) ∧
        ku11_fitsNow_42 0 (v2 + 1) m Q) ∧ (¬ v1 = 0 →
        ((0 ≤ v2 ∧ v2 < 14) ∧ (vm_32 (v2 + 1)) ∧ (0 ≤ (v2 + 1) ∧ (v2 + 1) < 14)) ∧
        (vm_C 178 [vm_r 96, vm_i (m 105 v2), vm_i (m 105 (v2 + 1))] m (vm_qi (fun z1 m1 =>
          (((m1 100 0) < z1 →
            ((vm_32 (v2 + 1))) ∧
            ku11_fitsNow_42 0 (v2 + 1) m1 Q) ∧ (¬ (m1 100 0) < z1 →
            ((vm_32 (v2 + 1))) ∧
            ku11_fitsNow_42 1 (v2 + 1) m1 Q)))))))))) : ku11_fitsNow_42 v1 v2 m Q := by
  show vm_G 189 42 [some (vm_r 96), some (vm_i v1), some (vm_i v2)] [] m (vm_qi Q)
  refine vm_gp [(.iload 2, 0, 0, []), (.aload 0, 0, 0, []), (.getfield 0, 11, 14, [])] (pc1 := 47) (ls1 := [some (vm_r 96), some (vm_i v1), some (vm_i v2)]) (st1 := [vm_i (m 96 14), vm_i v2]) (m1 := m) (ob := (true && vm_is 96 11)) (by decide +kernel) rfl (vm_u rfl (by decide +kernel)) ?_
  refine vm_gj (c := (m 96 14) ≤ v2) (t := 93) (e := 50) (i := (.if_icmp .ge 0, 93, 0, [])) (len := 3) (st1 := []) (by decide +kernel) rfl rfl (fun c1 => ?_) (fun c1 => ?_)
  · replace h := h.1 c1
    refine vm_gp [(.iload 1, 0, 0, [])] (pc1 := 94) (ls1 := [some (vm_r 96), some (vm_i v1), some (vm_i v2)]) (st1 := [vm_i v1]) (m1 := m) (ob := true) (by decide +kernel) rfl rfl ?_
    exact vm_gr (r := some (vm_i v1)) (i := (.ireturn, 2, 0, [])) (len := 1) (by decide +kernel) rfl rfl (decide_eq_true h.1) ⟨_, rfl, h.2⟩
  · replace h := h.2 c1
    refine vm_gp [(.iload 1, 0, 0, [])] (pc1 := 51) (ls1 := [some (vm_r 96), some (vm_i v1), some (vm_i v2)]) (st1 := [vm_i v1]) (m1 := m) (ob := true) (by decide +kernel) rfl rfl ?_
    refine vm_gj (c := v1 = 0) (t := 85) (e := 54) (i := (.ifCond .eq 0, 85, 0, [])) (len := 3) (st1 := []) (by decide +kernel) rfl rfl (fun c2 => ?_) (fun c2 => ?_)
    · replace h := h.1 c2
      obtain ⟨o4_0, h⟩ := h
      refine vm_gp [(.iconst 0, 0, 0, []), (.istore 1, 0, 0, []), (.iinc 2 1, 0, 0, []), (.goto 0, 42, 0, [])] (pc1 := 42) (ls1 := [some (vm_r 96), some (vm_i 0), some (vm_i (v2 + 1))]) (st1 := []) (m1 := m) (ob := (true && decide (vm_32 (v2 + 1)))) (by decide +kernel) rfl (vm_t rfl o4_0) ?_
      exact h
    · replace h := h.2 c2
      obtain ⟨⟨o5_0, o5_1, o5_2⟩, h⟩ := h
      refine vm_gp [(.aload 0, 0, 0, []), (.aload 0, 0, 0, []), (.getfield 2, 11, 13, [(105, 0)]), (.iload 2, 0, 0, []), (.iaload, 14, 0, []), (.aload 0, 0, 0, []), (.getfield 2, 11, 13, [(105, 0)]), (.iload 2, 0, 0, []), (.iconst 1, 0, 0, []), (.iadd, 0, 0, []), (.iaload, 14, 0, [])] (pc1 := 69) (ls1 := [some (vm_r 96), some (vm_i v1), some (vm_i v2)]) (st1 := [vm_i (m 105 (v2 + 1)), vm_i (m 105 v2), vm_r 96]) (m1 := m) (ob := (((((((((true && vm_is 96 11) && true) && vm_ar 105 100 14) && decide (0 ≤ v2 ∧ v2 < 14)) && vm_is 96 11) && true) && decide (vm_32 (v2 + 1))) && vm_ar 105 100 14) && decide (0 ≤ (v2 + 1) ∧ (v2 + 1) < 14))) (by decide +kernel) rfl (vm_t (vm_u (vm_t (vm_u (vm_u (vm_t (vm_u (vm_u (vm_u rfl (by decide +kernel)) rfl) (by decide +kernel)) o5_0) (by decide +kernel)) rfl) o5_1) (by decide +kernel)) o5_2) ?_
      refine vm_gc (g := 178) (na := 3) (av := [vm_r 96, vm_i (m 105 v2), vm_i (m 105 (v2 + 1))]) (rest := []) (i := (.invokevirtual 0, 178, 3, [])) (len := 3) (by decide +kernel) rfl rfl rfl (by decide +kernel) (by decide +kernel) rfl rfl (vm_u (vm_okh_v (c := 11) (by decide +kernel) (by decide +kernel)) (show vm_okn 178 3 0 0 0 3 = true by decide +kernel)) ?_
      refine vm_G.mono h ?_
      rintro _ m1 ⟨z1, rfl, h⟩
      show vm_G 189 72 [some (vm_r 96), some (vm_i v1), some (vm_i v2)] [vm_i z1] m1 _
      refine vm_gp [(.aload 0, 0, 0, []), (.getfield 2, 11, 7, [(100, 0)]), (.iconst 0, 0, 0, []), (.iaload, 1075, 0, [])] (pc1 := 78) (ls1 := [some (vm_r 96), some (vm_i v1), some (vm_i v2)]) (st1 := [vm_i (m1 100 0), vm_i z1]) (m1 := m1) (ob := ((((true && vm_is 96 11) && true) && vm_ar 100 100 1075) && decide ((0 : Int) ≤ 0 ∧ (0 : Int) < 1075))) (by decide +kernel) rfl (vm_t (vm_u (vm_u (vm_u rfl (by decide +kernel)) rfl) (by decide +kernel)) (by decide)) ?_
      refine vm_gj (c := (m1 100 0) < z1) (t := 85) (e := 81) (i := (.if_icmp .gt 0, 85, 0, [])) (len := 3) (st1 := []) (by decide +kernel) rfl rfl (fun c3 => ?_) (fun c3 => ?_)
      · replace h := h.1 c3
        obtain ⟨o7_0, h⟩ := h
        refine vm_gp [(.iconst 0, 0, 0, []), (.istore 1, 0, 0, []), (.iinc 2 1, 0, 0, []), (.goto 0, 42, 0, [])] (pc1 := 42) (ls1 := [some (vm_r 96), some (vm_i 0), some (vm_i (v2 + 1))]) (st1 := []) (m1 := m1) (ob := (true && decide (vm_32 (v2 + 1)))) (by decide +kernel) rfl (vm_t rfl o7_0) ?_
        exact h
      · replace h := h.2 c3
        obtain ⟨o8_0, h⟩ := h
        refine vm_gp [(.iconst 1, 0, 0, []), (.goto 0, 86, 0, []), (.istore 1, 0, 0, []), (.iinc 2 1, 0, 0, []), (.goto 0, 42, 0, [])] (pc1 := 42) (ls1 := [some (vm_r 96), some (vm_i 1), some (vm_i (v2 + 1))]) (st1 := []) (m1 := m1) (ob := (true && decide (vm_32 (v2 + 1)))) (by decide +kernel) rfl (vm_t rfl o8_0) ?_
        exact h
abbrev ku11_widthFor_0 (v1 : Int) (v2 : Int) (m : vm_M) (Q : Int → vm_M → Prop) : Prop := vm_G 190 0 [some (vm_r 96), some (vm_i v1), some (vm_i v2), none, none] [] m (vm_qi Q)
abbrev ku11_widthFor_33 (v1 : Int) (v2 : Int) (v3 : Int) (v4 : Int) (m : vm_M) (Q : Int → vm_M → Prop) : Prop := vm_G 190 33 [some (vm_r 96), some (vm_i v1), some (vm_i v2), some (vm_i v3), some (vm_i v4)] [] m (vm_qi Q)
set_option maxRecDepth 20000 in
theorem ru11_widthFor_0 {v1 : Int} {v2 : Int} {m : vm_M} {Q : Int → vm_M → Prop}  (h :
    ((vm_32 (v1 + 1)) ∧ (0 ≤ (v1 + 1) ∧ (v1 + 1) < 14) ∧ (0 ≤ v1 ∧ v1 < 14) ∧ (vm_32 ((m 105 (v1 + 1)) - (m 105 v1))) ∧ (vm_32 (((m 105 (v1 + 1)) - (m 105 v1)) - 1)) ∧ (vm_32 ((m 100 4) * (((m 105 (v1 + 1)) - (m 105 v1)) - 1))) ∧ (0 ≤ v1 ∧ v1 < 14)) ∧
    ku11_widthFor_33 v1 v2 ((m 100 4) * (((m 105 (v1 + 1)) - (m 105 v1)) - 1)) (m 105 v1) m Q) : vm_C 190 [vm_r 96, vm_i v1, vm_i v2] m (vm_qi Q) := by
  show vm_G 190 0 [some (vm_r 96), some (vm_i v1), some (vm_i v2), none, none] [] m (vm_qi Q)
  obtain ⟨⟨o1_0, o1_1, o1_2, o1_3, o1_4, o1_5, o1_6⟩, h⟩ := h
  refine vm_gp [(.aload 0, 0, 0, []), (.getfield 2, 11, 7, [(100, 0)]), (.iconst 4, 0, 0, []), (.iaload, 1075, 0, []), (.aload 0, 0, 0, []), (.getfield 2, 11, 13, [(105, 0)]), (.iload 1, 0, 0, []), (.iconst 1, 0, 0, []), (.iadd, 0, 0, []), (.iaload, 14, 0, []), (.aload 0, 0, 0, []), (.getfield 2, 11, 13, [(105, 0)]), (.iload 1, 0, 0, []), (.iaload, 14, 0, []), (.isub, 0, 0, []), (.iconst 1, 0, 0, []), (.isub, 0, 0, []), (.imul, 0, 0, []), (.istore 3, 0, 0, []), (.aload 0, 0, 0, []), (.getfield 2, 11, 13, [(105, 0)]), (.iload 1, 0, 0, []), (.iaload, 14, 0, []), (.istore 4, 0, 0, [])] (pc1 := 33) (ls1 := [some (vm_r 96), some (vm_i v1), some (vm_i v2), some (vm_i ((m 100 4) * (((m 105 (v1 + 1)) - (m 105 v1)) - 1))), some (vm_i (m 105 v1))]) (st1 := []) (m1 := m) (ob := ((((((((((((((((((((true && vm_is 96 11) && true) && vm_ar 100 100 1075) && decide ((0 : Int) ≤ 4 ∧ (4 : Int) < 1075)) && vm_is 96 11) && true) && decide (vm_32 (v1 + 1))) && vm_ar 105 100 14) && decide (0 ≤ (v1 + 1) ∧ (v1 + 1) < 14)) && vm_is 96 11) && true) && vm_ar 105 100 14) && decide (0 ≤ v1 ∧ v1 < 14)) && decide (vm_32 ((m 105 (v1 + 1)) - (m 105 v1)))) && decide (vm_32 (((m 105 (v1 + 1)) - (m 105 v1)) - 1))) && decide (vm_32 ((m 100 4) * (((m 105 (v1 + 1)) - (m 105 v1)) - 1)))) && vm_is 96 11) && true) && vm_ar 105 100 14) && decide (0 ≤ v1 ∧ v1 < 14))) (by decide +kernel) rfl (vm_t (vm_u (vm_u (vm_u (vm_t (vm_t (vm_t (vm_t (vm_u (vm_u (vm_u (vm_t (vm_u (vm_t (vm_u (vm_u (vm_t (vm_u (vm_u (vm_u rfl (by decide +kernel)) rfl) (by decide +kernel)) (by decide)) (by decide +kernel)) rfl) o1_0) (by decide +kernel)) o1_1) (by decide +kernel)) rfl) (by decide +kernel)) o1_2) o1_3) o1_4) o1_5) (by decide +kernel)) rfl) (by decide +kernel)) o1_6) ?_
  exact h
set_option maxRecDepth 20000 in
theorem ru11_widthFor_33 {v1 : Int} {v2 : Int} {v3 : Int} {v4 : Int} {m : vm_M} {Q : Int → vm_M → Prop}  (h :
    ((vm_32 (v1 + 1)) ∧ (0 ≤ (v1 + 1) ∧ (v1 + 1) < 14)) ∧
    (((m 105 (v1 + 1)) ≤ v4 →
      ((vm_32 (v3 * (m 100 5)))) ∧
      Q (v3 * (m 100 5)) m) ∧ (¬ (m 105 (v1 + 1)) ≤ v4 →
      (vm_C 176 [vm_r 96, vm_i v4, vm_i v2] m (vm_qi (fun z1 m1 =>
        ((vm_32 (v3 + z1)) ∧ (vm_32 (v4 + 1))) ∧
        ku11_widthFor_33 v1 v2 (v3 + z1) (v4 + 1) m1 Q)))))) : ku11_widthFor_33 v1 v2 v3 v4 m Q := by
  show vm_G 190 33 [some (vm_r 96), some (vm_i v1), some (vm_i v2), some (vm_i v3), some (vm_i v4)] [] m (vm_qi Q)
  obtain ⟨⟨o1_0, o1_1⟩, h⟩ := h
  refine vm_gp [(.iload 4, 0, 0, []), (.aload 0, 0, 0, []), (.getfield 2, 11, 13, [(105, 0)]), (.iload 1, 0, 0, []), (.iconst 1, 0, 0, []), (.iadd, 0, 0, []), (.iaload, 14, 0, [])] (pc1 := 43) (ls1 := [some (vm_r 96), some (vm_i v1), some (vm_i v2), some (vm_i v3), some (vm_i v4)]) (st1 := [vm_i (m 105 (v1 + 1)), vm_i v4]) (m1 := m) (ob := (((((true && vm_is 96 11) && true) && decide (vm_32 (v1 + 1))) && vm_ar 105 100 14) && decide (0 ≤ (v1 + 1) ∧ (v1 + 1) < 14))) (by decide +kernel) rfl (vm_t (vm_u (vm_t (vm_u (vm_u rfl (by decide +kernel)) rfl) o1_0) (by decide +kernel)) o1_1) ?_
  refine vm_gj (c := (m 105 (v1 + 1)) ≤ v4) (t := 62) (e := 46) (i := (.if_icmp .ge 0, 62, 0, [])) (len := 3) (st1 := []) (by decide +kernel) rfl rfl (fun c1 => ?_) (fun c1 => ?_)
  · replace h := h.1 c1
    obtain ⟨o2_0, h⟩ := h
    refine vm_gp [(.iload 3, 0, 0, []), (.aload 0, 0, 0, []), (.getfield 2, 11, 7, [(100, 0)]), (.iconst 5, 0, 0, []), (.iaload, 1075, 0, []), (.imul, 0, 0, [])] (pc1 := 70) (ls1 := [some (vm_r 96), some (vm_i v1), some (vm_i v2), some (vm_i v3), some (vm_i v4)]) (st1 := [vm_i (v3 * (m 100 5))]) (m1 := m) (ob := (((((true && vm_is 96 11) && true) && vm_ar 100 100 1075) && decide ((0 : Int) ≤ 5 ∧ (5 : Int) < 1075)) && decide (vm_32 (v3 * (m 100 5))))) (by decide +kernel) rfl (vm_t (vm_t (vm_u (vm_u (vm_u rfl (by decide +kernel)) rfl) (by decide +kernel)) (by decide)) o2_0) ?_
    exact vm_gr (r := some (vm_i (v3 * (m 100 5)))) (i := (.ireturn, 1, 0, [])) (len := 1) (by decide +kernel) rfl rfl rfl ⟨_, rfl, h⟩
  · replace h := h.2 c1
    refine vm_gp [(.iload 3, 0, 0, []), (.aload 0, 0, 0, []), (.iload 4, 0, 0, []), (.iload 2, 0, 0, [])] (pc1 := 51) (ls1 := [some (vm_r 96), some (vm_i v1), some (vm_i v2), some (vm_i v3), some (vm_i v4)]) (st1 := [vm_i v2, vm_i v4, vm_r 96, vm_i v3]) (m1 := m) (ob := true) (by decide +kernel) rfl rfl ?_
    refine vm_gc (g := 176) (na := 3) (av := [vm_r 96, vm_i v4, vm_i v2]) (rest := [vm_i v3]) (i := (.invokevirtual 0, 176, 3, [])) (len := 3) (by decide +kernel) rfl rfl rfl (by decide +kernel) (by decide +kernel) rfl rfl (vm_u (vm_okh_v (c := 11) (by decide +kernel) (by decide +kernel)) (show vm_okn 176 3 1 0 0 3 = true by decide +kernel)) ?_
    refine vm_G.mono h ?_
    rintro _ m1 ⟨z1, rfl, h⟩
    show vm_G 190 54 [some (vm_r 96), some (vm_i v1), some (vm_i v2), some (vm_i v3), some (vm_i v4)] [vm_i z1, vm_i v3] m1 _
    obtain ⟨⟨o4_0, o4_1⟩, h⟩ := h
    refine vm_gp [(.iadd, 0, 0, []), (.istore 3, 0, 0, []), (.iinc 4 1, 0, 0, []), (.goto 0, 33, 0, [])] (pc1 := 33) (ls1 := [some (vm_r 96), some (vm_i v1), some (vm_i v2), some (vm_i (v3 + z1)), some (vm_i (v4 + 1))]) (st1 := []) (m1 := m1) (ob := ((true && decide (vm_32 (v3 + z1))) && decide (vm_32 (v4 + 1)))) (by decide +kernel) rfl (vm_t (vm_t rfl o4_0) o4_1) ?_
    exact h
abbrev ku11_filledGap_0 (v1 : Int) (m : vm_M) (Q : Int → vm_M → Prop) : Prop := vm_G 191 0 [some (vm_r 96), some (vm_i v1), none] [] m (vm_qi Q)
abbrev ku11_filledGap_5 (v1 : Int) (v2 : Int) (m : vm_M) (Q : Int → vm_M → Prop) : Prop := vm_G 191 5 [some (vm_r 96), some (vm_i v1), some (vm_i v2)] [] m (vm_qi Q)
set_option maxRecDepth 20000 in
theorem ru11_filledGap_0 {v1 : Int} {m : vm_M} {Q : Int → vm_M → Prop}  (h :
    ku11_filledGap_5 v1 (m 96 3) m Q) : vm_C 191 [vm_r 96, vm_i v1] m (vm_qi Q) := by
  show vm_G 191 0 [some (vm_r 96), some (vm_i v1), none] [] m (vm_qi Q)
  refine vm_gp [(.aload 0, 0, 0, []), (.getfield 0, 11, 3, []), (.istore 2, 0, 0, [])] (pc1 := 5) (ls1 := [some (vm_r 96), some (vm_i v1), some (vm_i (m 96 3))]) (st1 := []) (m1 := m) (ob := (true && vm_is 96 11)) (by decide +kernel) rfl (vm_u rfl (by decide +kernel)) ?_
  exact h
set_option maxRecDepth 20000 in
theorem ru11_filledGap_5 {v1 : Int} {v2 : Int} {m : vm_M} {Q : Int → vm_M → Prop}  (h :
    ((v2 ≤ (m 100 3) →
      Q v2 m) ∧ (¬ v2 ≤ (m 100 3) →
      (vm_C 190 [vm_r 96, vm_i v1, vm_i v2] m (vm_qi (fun z1 m1 =>
        ((z1 ≤ (m1 100 0) →
          Q v2 m1) ∧ (¬ z1 ≤ (m1 100 0) →
          ((vm_32 (v2 + (-1)))) ∧
          ku11_filledGap_5 v1 (v2 + (-1)) m1 Q)))))))) : ku11_filledGap_5 v1 v2 m Q := by
  show vm_G 191 5 [some (vm_r 96), some (vm_i v1), some (vm_i v2)] [] m (vm_qi Q)
  refine vm_gp [(.iload 2, 0, 0, []), (.aload 0, 0, 0, []), (.getfield 2, 11, 7, [(100, 0)]), (.iconst 3, 0, 0, []), (.iaload, 1075, 0, [])] (pc1 := 12) (ls1 := [some (vm_r 96), some (vm_i v1), some (vm_i v2)]) (st1 := [vm_i (m 100 3), vm_i v2]) (m1 := m) (ob := ((((true && vm_is 96 11) && true) && vm_ar 100 100 1075) && decide ((0 : Int) ≤ 3 ∧ (3 : Int) < 1075))) (by decide +kernel) rfl (vm_t (vm_u (vm_u (vm_u rfl (by decide +kernel)) rfl) (by decide +kernel)) (by decide)) ?_
  refine vm_gj (c := v2 ≤ (m 100 3)) (t := 36) (e := 15) (i := (.if_icmp .le 0, 36, 0, [])) (len := 3) (st1 := []) (by decide +kernel) rfl rfl (fun c1 => ?_) (fun c1 => ?_)
  · replace h := h.1 c1
    refine vm_gp [(.iload 2, 0, 0, [])] (pc1 := 37) (ls1 := [some (vm_r 96), some (vm_i v1), some (vm_i v2)]) (st1 := [vm_i v2]) (m1 := m) (ob := true) (by decide +kernel) rfl rfl ?_
    exact vm_gr (r := some (vm_i v2)) (i := (.ireturn, 1, 0, [])) (len := 1) (by decide +kernel) rfl rfl rfl ⟨_, rfl, h⟩
  · replace h := h.2 c1
    refine vm_gp [(.aload 0, 0, 0, []), (.iload 1, 0, 0, []), (.iload 2, 0, 0, [])] (pc1 := 18) (ls1 := [some (vm_r 96), some (vm_i v1), some (vm_i v2)]) (st1 := [vm_i v2, vm_i v1, vm_r 96]) (m1 := m) (ob := true) (by decide +kernel) rfl rfl ?_
    refine vm_gc (g := 190) (na := 3) (av := [vm_r 96, vm_i v1, vm_i v2]) (rest := []) (i := (.invokevirtual 0, 190, 3, [])) (len := 3) (by decide +kernel) rfl rfl rfl (by decide +kernel) (by decide +kernel) rfl rfl (vm_u (vm_okh_v (c := 11) (by decide +kernel) (by decide +kernel)) (show vm_okn 190 3 0 0 0 3 = true by decide +kernel)) ?_
    refine vm_G.mono h ?_
    rintro _ m1 ⟨z1, rfl, h⟩
    show vm_G 191 21 [some (vm_r 96), some (vm_i v1), some (vm_i v2)] [vm_i z1] m1 _
    refine vm_gp [(.aload 0, 0, 0, []), (.getfield 2, 11, 7, [(100, 0)]), (.iconst 0, 0, 0, []), (.iaload, 1075, 0, [])] (pc1 := 27) (ls1 := [some (vm_r 96), some (vm_i v1), some (vm_i v2)]) (st1 := [vm_i (m1 100 0), vm_i z1]) (m1 := m1) (ob := ((((true && vm_is 96 11) && true) && vm_ar 100 100 1075) && decide ((0 : Int) ≤ 0 ∧ (0 : Int) < 1075))) (by decide +kernel) rfl (vm_t (vm_u (vm_u (vm_u rfl (by decide +kernel)) rfl) (by decide +kernel)) (by decide)) ?_
    refine vm_gj (c := z1 ≤ (m1 100 0)) (t := 36) (e := 30) (i := (.if_icmp .le 0, 36, 0, [])) (len := 3) (st1 := []) (by decide +kernel) rfl rfl (fun c2 => ?_) (fun c2 => ?_)
    · replace h := h.1 c2
      refine vm_gp [(.iload 2, 0, 0, [])] (pc1 := 37) (ls1 := [some (vm_r 96), some (vm_i v1), some (vm_i v2)]) (st1 := [vm_i v2]) (m1 := m1) (ob := true) (by decide +kernel) rfl rfl ?_
      exact vm_gr (r := some (vm_i v2)) (i := (.ireturn, 1, 0, [])) (len := 1) (by decide +kernel) rfl rfl rfl ⟨_, rfl, h⟩
    · replace h := h.2 c2
      obtain ⟨o6_0, h⟩ := h
      refine vm_gp [(.iinc 2 (-1), 0, 0, []), (.goto 0, 5, 0, [])] (pc1 := 5) (ls1 := [some (vm_r 96), some (vm_i v1), some (vm_i (v2 + (-1)))]) (st1 := []) (m1 := m1) (ob := (true && decide (vm_32 (v2 + (-1))))) (by decide +kernel) rfl (vm_t rfl o6_0) ?_
      exact h
abbrev ku11_lacksFor_0 (v1 : Int) (m : vm_M) (Q : Int → vm_M → Prop) : Prop := vm_G 192 0 [some (vm_r 96), some (vm_i v1)] [] m (vm_qi Q)
set_option maxRecDepth 20000 in
theorem ru11_lacksFor_0 {v1 : Int} {m : vm_M} {Q : Int → vm_M → Prop}  (h :
    (((m 100 0) ≤ v1 →
      Q 0 m) ∧ (¬ (m 100 0) ≤ v1 →
      ((vm_32 ((m 100 0) - v1))) ∧
      Q ((m 100 0) - v1) m))) : vm_C 192 [vm_r 96, vm_i v1] m (vm_qi Q) := by
  show vm_G 192 0 [some (vm_r 96), some (vm_i v1)] [] m (vm_qi Q)
  refine vm_gp [(.iload 1, 0, 0, []), (.aload 0, 0, 0, []), (.getfield 2, 11, 7, [(100, 0)]), (.iconst 0, 0, 0, []), (.iaload, 1075, 0, [])] (pc1 := 7) (ls1 := [some (vm_r 96), some (vm_i v1)]) (st1 := [vm_i (m 100 0), vm_i v1]) (m1 := m) (ob := ((((true && vm_is 96 11) && true) && vm_ar 100 100 1075) && decide ((0 : Int) ≤ 0 ∧ (0 : Int) < 1075))) (by decide +kernel) rfl (vm_t (vm_u (vm_u (vm_u rfl (by decide +kernel)) rfl) (by decide +kernel)) (by decide)) ?_
  refine vm_gj (c := (m 100 0) ≤ v1) (t := 21) (e := 10) (i := (.if_icmp .ge 0, 21, 0, [])) (len := 3) (st1 := []) (by decide +kernel) rfl rfl (fun c1 => ?_) (fun c1 => ?_)
  · replace h := h.1 c1
    refine vm_gp [(.iconst 0, 0, 0, [])] (pc1 := 22) (ls1 := [some (vm_r 96), some (vm_i v1)]) (st1 := [vm_i 0]) (m1 := m) (ob := true) (by decide +kernel) rfl rfl ?_
    exact vm_gr (r := some (vm_i 0)) (i := (.ireturn, 1, 0, [])) (len := 1) (by decide +kernel) rfl rfl rfl ⟨_, rfl, h⟩
  · replace h := h.2 c1
    obtain ⟨o3_0, h⟩ := h
    refine vm_gp [(.aload 0, 0, 0, []), (.getfield 2, 11, 7, [(100, 0)]), (.iconst 0, 0, 0, []), (.iaload, 1075, 0, []), (.iload 1, 0, 0, []), (.isub, 0, 0, []), (.goto 0, 22, 0, [])] (pc1 := 22) (ls1 := [some (vm_r 96), some (vm_i v1)]) (st1 := [vm_i ((m 100 0) - v1)]) (m1 := m) (ob := (((((true && vm_is 96 11) && true) && vm_ar 100 100 1075) && decide ((0 : Int) ≤ 0 ∧ (0 : Int) < 1075)) && decide (vm_32 ((m 100 0) - v1)))) (by decide +kernel) rfl (vm_t (vm_t (vm_u (vm_u (vm_u rfl (by decide +kernel)) rfl) (by decide +kernel)) (by decide)) o3_0) ?_
    exact vm_gr (r := some (vm_i ((m 100 0) - v1))) (i := (.ireturn, 1, 0, [])) (len := 1) (by decide +kernel) rfl rfl rfl ⟨_, rfl, h⟩
abbrev ku11_laysRow_0 (v1 : Int) (m : vm_M) (Q : vm_M → Prop) : Prop := vm_G 193 0 [some (vm_r 96), some (vm_i v1), none, none, none] [] m (vm_qv Q)
abbrev ku11_laysRow_16 (v1 : Int) (w2 : Option vm_V) (w3 : Option vm_V) (w4 : Option vm_V) (y0 : Int) (m : vm_M) (Q : vm_M → Prop) : Prop := vm_G 193 16 [some (vm_r 96), some (vm_i v1), w2, w3, w4] [vm_i y0] m (vm_qv Q)
set_option maxRecDepth 20000 in
theorem ru11_laysRow_0 {v1 : Int} {m : vm_M} {Q : vm_M → Prop}  (h :
    ((¬ (m 100 7) = 1 →
      ku11_laysRow_16 v1 none none none 0 m Q) ∧ (¬ ¬ (m 100 7) = 1 →
      ku11_laysRow_16 v1 none none none 1 m Q))) : vm_C 193 [vm_r 96, vm_i v1] m (vm_qv Q) := by
  show vm_G 193 0 [some (vm_r 96), some (vm_i v1), none, none, none] [] m (vm_qv Q)
  refine vm_gp [(.aload 0, 0, 0, []), (.getfield 2, 11, 7, [(100, 0)]), (.iconst 7, 0, 0, []), (.iaload, 1075, 0, []), (.iconst 1, 0, 0, [])] (pc1 := 8) (ls1 := [some (vm_r 96), some (vm_i v1), none, none, none]) (st1 := [vm_i 1, vm_i (m 100 7)]) (m1 := m) (ob := ((((true && vm_is 96 11) && true) && vm_ar 100 100 1075) && decide ((0 : Int) ≤ 7 ∧ (7 : Int) < 1075))) (by decide +kernel) rfl (vm_t (vm_u (vm_u (vm_u rfl (by decide +kernel)) rfl) (by decide +kernel)) (by decide)) ?_
  refine vm_gj (c := ¬ (m 100 7) = 1) (t := 15) (e := 11) (i := (.if_icmp .ne 0, 15, 0, [])) (len := 3) (st1 := []) (by decide +kernel) rfl rfl (fun c1 => ?_) (fun c1 => ?_)
  · replace h := h.1 c1
    refine vm_gp [(.iconst 0, 0, 0, [])] (pc1 := 16) (ls1 := [some (vm_r 96), some (vm_i v1), none, none, none]) (st1 := [vm_i 0]) (m1 := m) (ob := true) (by decide +kernel) rfl rfl ?_
    exact h
  · replace h := h.2 c1
    refine vm_gp [(.iconst 1, 0, 0, []), (.goto 0, 16, 0, [])] (pc1 := 16) (ls1 := [some (vm_r 96), some (vm_i v1), none, none, none]) (st1 := [vm_i 1]) (m1 := m) (ob := true) (by decide +kernel) rfl rfl ?_
    exact h
set_option maxRecDepth 20000 in
theorem ru11_laysRow_16 {v1 : Int} {w2 : Option vm_V} {w3 : Option vm_V} {w4 : Option vm_V} {y0 : Int} {m : vm_M} {Q : vm_M → Prop}  (h :
    ((vm_32 (v1 + 1)) ∧ (0 ≤ (v1 + 1) ∧ (v1 + 1) < 14) ∧ (0 ≤ v1 ∧ v1 < 14) ∧ (vm_32 ((m 105 (v1 + 1)) - (m 105 v1))) ∧ (vm_32 (((m 105 (v1 + 1)) - (m 105 v1)) - 1))) ∧
    ((y0 = 0 →
      (vm_C 190 [vm_r 96, vm_i v1, vm_i ((vm_st m 96 17 (m 100 3)) 96 17)] (vm_st m 96 17 (m 100 3)) (vm_qi (fun z1 m1 =>
        ((vm_32 (((vm_st m1 96 18 z1) 100 4) * ((vm_st m1 96 18 z1) 100 5)))) ∧
        ((y0 = 0 →
          (vm_C 192 [vm_r 96, vm_i ((vm_st (vm_st (vm_st m1 96 18 z1) 96 19 (((vm_st m1 96 18 z1) 100 4) * ((vm_st m1 96 18 z1) 100 5))) 96 20 0) 96 18)] (vm_st (vm_st (vm_st m1 96 18 z1) 96 19 (((vm_st m1 96 18 z1) 100 4) * ((vm_st m1 96 18 z1) 100 5))) 96 20 0) (vm_qi (fun z2 m2 =>
            ((0 ≤ z2 ∧ (0 : Int) < 2)) ∧
            (vm_C 194 [vm_r 96, vm_i v1] (vm_st m2 96 21 (z2 / 2)) (vm_qv (fun m3 =>
              Q m3))))))) ∧ (¬ y0 = 0 →
          (((((m 105 (v1 + 1)) - (m 105 v1)) - 1) ≤ 0 →
            (vm_C 192 [vm_r 96, vm_i ((vm_st (vm_st (vm_st m1 96 18 z1) 96 19 (((vm_st m1 96 18 z1) 100 4) * ((vm_st m1 96 18 z1) 100 5))) 96 20 0) 96 18)] (vm_st (vm_st (vm_st m1 96 18 z1) 96 19 (((vm_st m1 96 18 z1) 100 4) * ((vm_st m1 96 18 z1) 100 5))) 96 20 0) (vm_qi (fun z4 m4 =>
              ((0 ≤ z4 ∧ (0 : Int) < 2)) ∧
              (vm_C 194 [vm_r 96, vm_i v1] (vm_st m4 96 21 (z4 / 2)) (vm_qv (fun m5 =>
                Q m5))))))) ∧ (¬ (((m 105 (v1 + 1)) - (m 105 v1)) - 1) ≤ 0 →
            (vm_C 192 [vm_r 96, vm_i ((vm_st (vm_st (vm_st m1 96 18 z1) 96 19 (((vm_st m1 96 18 z1) 100 4) * ((vm_st m1 96 18 z1) 100 5))) 96 20 0) 96 18)] (vm_st (vm_st (vm_st m1 96 18 z1) 96 19 (((vm_st m1 96 18 z1) 100 4) * ((vm_st m1 96 18 z1) 100 5))) 96 20 0) (vm_qi (fun z6 m6 =>
              ((0 ≤ z6 ∧ (0 : Int) < (((m 105 (v1 + 1)) - (m 105 v1)) - 1)) ∧ (vm_32 ((m6 96 19) + (z6 / (((m 105 (v1 + 1)) - (m 105 v1)) - 1)))) ∧ (0 ≤ z6 ∧ (0 : Int) < (((m 105 (v1 + 1)) - (m 105 v1)) - 1)) ∧ (vm_32 (((vm_st (vm_st m6 96 19 ((m6 96 19) + (z6 / (((m 105 (v1 + 1)) - (m 105 v1)) - 1)))) 96 20 (z6 % (((m 105 (v1 + 1)) - (m 105 v1)) - 1))) 96 18) + z6))) ∧
              (vm_C 192 [vm_r 96, vm_i ((vm_st (vm_st (vm_st m6 96 19 ((m6 96 19) + (z6 / (((m 105 (v1 + 1)) - (m 105 v1)) - 1)))) 96 20 (z6 % (((m 105 (v1 + 1)) - (m 105 v1)) - 1))) 96 18 (((vm_st (vm_st m6 96 19 ((m6 96 19) + (z6 / (((m 105 (v1 + 1)) - (m 105 v1)) - 1)))) 96 20 (z6 % (((m 105 (v1 + 1)) - (m 105 v1)) - 1))) 96 18) + z6)) 96 18)] (vm_st (vm_st (vm_st m6 96 19 ((m6 96 19) + (z6 / (((m 105 (v1 + 1)) - (m 105 v1)) - 1)))) 96 20 (z6 % (((m 105 (v1 + 1)) - (m 105 v1)) - 1))) 96 18 (((vm_st (vm_st m6 96 19 ((m6 96 19) + (z6 / (((m 105 (v1 + 1)) - (m 105 v1)) - 1)))) 96 20 (z6 % (((m 105 (v1 + 1)) - (m 105 v1)) - 1))) 96 18) + z6)) (vm_qi (fun z7 m7 =>
                ((0 ≤ z7 ∧ (0 : Int) < 2)) ∧
                (vm_C 194 [vm_r 96, vm_i v1] (vm_st m7 96 21 (z7 / 2)) (vm_qv (fun m8 =>
                  Q m8))))))))))))))))) ∧ (¬ y0 = 0 →
      (vm_C 191 [vm_r 96, vm_i v1] m (vm_qi (fun z9 m9 =>
        (vm_C 190 [vm_r 96, vm_i v1, vm_i ((vm_st m9 96 17 z9) 96 17)] (vm_st m9 96 17 z9) (vm_qi (fun z10 m10 =>
          ((vm_32 (((vm_st m10 96 18 z10) 100 4) * ((vm_st m10 96 18 z10) 100 5)))) ∧
          ((y0 = 0 →
            (vm_C 192 [vm_r 96, vm_i ((vm_st (vm_st (vm_st m10 96 18 z10) 96 19 (((vm_st m10 96 18 z10) 100 4) * ((vm_st m10 96 18 z10) 100 5))) 96 20 0) 96 18)] (vm_st (vm_st (vm_st m10 96 18 z10) 96 19 (((vm_st m10 96 18 z10) 100 4) * ((vm_st m10 96 18 z10) 100 5))) 96 20 0) (vm_qi (fun z11 m11 =>
              ((0 ≤ z11 ∧ (0 : Int) < 2)) ∧
              (vm_C 194 [vm_r 96, vm_i v1] (vm_st m11 96 21 (z11 / 2)) (vm_qv (fun m12 =>
                Q m12))))))) ∧ (¬ y0 = 0 →
            (((((m 105 (v1 + 1)) - (m 105 v1)) - 1) ≤ 0 →
              (vm_C 192 [vm_r 96, vm_i ((vm_st (vm_st (vm_st m10 96 18 z10) 96 19 (((vm_st m10 96 18 z10) 100 4) * ((vm_st m10 96 18 z10) 100 5))) 96 20 0) 96 18)] (vm_st (vm_st (vm_st m10 96 18 z10) 96 19 (((vm_st m10 96 18 z10) 100 4) * ((vm_st m10 96 18 z10) 100 5))) 96 20 0) (vm_qi (fun z13 m13 =>
                ((0 ≤ z13 ∧ (0 : Int) < 2)) ∧
                (vm_C 194 [vm_r 96, vm_i v1] (vm_st m13 96 21 (z13 / 2)) (vm_qv (fun m14 =>
                  Q m14))))))) ∧ (¬ (((m 105 (v1 + 1)) - (m 105 v1)) - 1) ≤ 0 →
              (vm_C 192 [vm_r 96, vm_i ((vm_st (vm_st (vm_st m10 96 18 z10) 96 19 (((vm_st m10 96 18 z10) 100 4) * ((vm_st m10 96 18 z10) 100 5))) 96 20 0) 96 18)] (vm_st (vm_st (vm_st m10 96 18 z10) 96 19 (((vm_st m10 96 18 z10) 100 4) * ((vm_st m10 96 18 z10) 100 5))) 96 20 0) (vm_qi (fun z15 m15 =>
                ((0 ≤ z15 ∧ (0 : Int) < (((m 105 (v1 + 1)) - (m 105 v1)) - 1)) ∧ (vm_32 ((m15 96 19) + (z15 / (((m 105 (v1 + 1)) - (m 105 v1)) - 1)))) ∧ (0 ≤ z15 ∧ (0 : Int) < (((m 105 (v1 + 1)) - (m 105 v1)) - 1)) ∧ (vm_32 (((vm_st (vm_st m15 96 19 ((m15 96 19) + (z15 / (((m 105 (v1 + 1)) - (m 105 v1)) - 1)))) 96 20 (z15 % (((m 105 (v1 + 1)) - (m 105 v1)) - 1))) 96 18) + z15))) ∧
                (vm_C 192 [vm_r 96, vm_i ((vm_st (vm_st (vm_st m15 96 19 ((m15 96 19) + (z15 / (((m 105 (v1 + 1)) - (m 105 v1)) - 1)))) 96 20 (z15 % (((m 105 (v1 + 1)) - (m 105 v1)) - 1))) 96 18 (((vm_st (vm_st m15 96 19 ((m15 96 19) + (z15 / (((m 105 (v1 + 1)) - (m 105 v1)) - 1)))) 96 20 (z15 % (((m 105 (v1 + 1)) - (m 105 v1)) - 1))) 96 18) + z15)) 96 18)] (vm_st (vm_st (vm_st m15 96 19 ((m15 96 19) + (z15 / (((m 105 (v1 + 1)) - (m 105 v1)) - 1)))) 96 20 (z15 % (((m 105 (v1 + 1)) - (m 105 v1)) - 1))) 96 18 (((vm_st (vm_st m15 96 19 ((m15 96 19) + (z15 / (((m 105 (v1 + 1)) - (m 105 v1)) - 1)))) 96 20 (z15 % (((m 105 (v1 + 1)) - (m 105 v1)) - 1))) 96 18) + z15)) (vm_qi (fun z16 m16 =>
                  ((0 ≤ z16 ∧ (0 : Int) < 2)) ∧
                  (vm_C 194 [vm_r 96, vm_i v1] (vm_st m16 96 21 (z16 / 2)) (vm_qv (fun m17 =>
                    Q m17)))))))))))))))))))))) : ku11_laysRow_16 v1 w2 w3 w4 y0 m Q := by
  show vm_G 193 16 [some (vm_r 96), some (vm_i v1), w2, w3, w4] [vm_i y0] m (vm_qv Q)
  obtain ⟨⟨o1_0, o1_1, o1_2, o1_3, o1_4⟩, h⟩ := h
  refine vm_gp [(.istore 2, 0, 0, []), (.aload 0, 0, 0, []), (.getfield 2, 11, 13, [(105, 0)]), (.iload 1, 0, 0, []), (.iconst 1, 0, 0, []), (.iadd, 0, 0, []), (.iaload, 14, 0, []), (.aload 0, 0, 0, []), (.getfield 2, 11, 13, [(105, 0)]), (.iload 1, 0, 0, []), (.iaload, 14, 0, []), (.isub, 0, 0, []), (.iconst 1, 0, 0, []), (.isub, 0, 0, []), (.istore 3, 0, 0, []), (.aload 0, 0, 0, []), (.iload 2, 0, 0, [])] (pc1 := 37) (ls1 := [some (vm_r 96), some (vm_i v1), some (vm_i y0), some (vm_i (((m 105 (v1 + 1)) - (m 105 v1)) - 1)), w4]) (st1 := [vm_i y0, vm_r 96]) (m1 := m) (ob := (((((((((((true && vm_is 96 11) && true) && decide (vm_32 (v1 + 1))) && vm_ar 105 100 14) && decide (0 ≤ (v1 + 1) ∧ (v1 + 1) < 14)) && vm_is 96 11) && true) && vm_ar 105 100 14) && decide (0 ≤ v1 ∧ v1 < 14)) && decide (vm_32 ((m 105 (v1 + 1)) - (m 105 v1)))) && decide (vm_32 (((m 105 (v1 + 1)) - (m 105 v1)) - 1)))) (by decide +kernel) rfl (vm_t (vm_t (vm_t (vm_u (vm_u (vm_u (vm_t (vm_u (vm_t (vm_u (vm_u rfl (by decide +kernel)) rfl) o1_0) (by decide +kernel)) o1_1) (by decide +kernel)) rfl) (by decide +kernel)) o1_2) o1_3) o1_4) ?_
  refine vm_gj (c := y0 = 0) (t := 48) (e := 40) (i := (.ifCond .eq 0, 48, 0, [])) (len := 3) (st1 := [vm_r 96]) (by decide +kernel) rfl rfl (fun c1 => ?_) (fun c1 => ?_)
  · replace h := h.1 c1
    refine vm_gp [(.aload 0, 0, 0, []), (.getfield 2, 11, 7, [(100, 0)]), (.iconst 3, 0, 0, []), (.iaload, 1075, 0, []), (.putfield 0, 11, 17, []), (.aload 0, 0, 0, []), (.aload 0, 0, 0, []), (.iload 1, 0, 0, []), (.aload 0, 0, 0, []), (.getfield 0, 11, 17, [])] (pc1 := 64) (ls1 := [some (vm_r 96), some (vm_i v1), some (vm_i y0), some (vm_i (((m 105 (v1 + 1)) - (m 105 v1)) - 1)), w4]) (st1 := [vm_i ((vm_st m 96 17 (m 100 3)) 96 17), vm_i v1, vm_r 96, vm_r 96]) (m1 := (vm_st m 96 17 (m 100 3))) (ob := ((((((true && vm_is 96 11) && true) && vm_ar 100 100 1075) && decide ((0 : Int) ≤ 3 ∧ (3 : Int) < 1075)) && vm_is 96 11) && vm_is 96 11)) (by decide +kernel) rfl (vm_u (vm_u (vm_t (vm_u (vm_u (vm_u rfl (by decide +kernel)) rfl) (by decide +kernel)) (by decide)) (by decide +kernel)) (by decide +kernel)) ?_
    refine vm_gc (g := 190) (na := 3) (av := [vm_r 96, vm_i v1, vm_i ((vm_st m 96 17 (m 100 3)) 96 17)]) (rest := [vm_r 96]) (i := (.invokevirtual 0, 190, 3, [])) (len := 3) (by decide +kernel) rfl rfl rfl (by decide +kernel) (by decide +kernel) rfl rfl (vm_u (vm_okh_v (c := 11) (by decide +kernel) (by decide +kernel)) (show vm_okn 190 3 1 0 0 3 = true by decide +kernel)) ?_
    refine vm_G.mono h ?_
    rintro _ m1 ⟨z1, rfl, h⟩
    show vm_G 193 67 [some (vm_r 96), some (vm_i v1), some (vm_i y0), some (vm_i (((m 105 (v1 + 1)) - (m 105 v1)) - 1)), w4] [vm_i z1, vm_r 96] m1 _
    obtain ⟨o3_0, h⟩ := h
    refine vm_gp [(.putfield 0, 11, 18, []), (.aload 0, 0, 0, []), (.aload 0, 0, 0, []), (.getfield 2, 11, 7, [(100, 0)]), (.iconst 4, 0, 0, []), (.iaload, 1075, 0, []), (.aload 0, 0, 0, []), (.getfield 2, 11, 7, [(100, 0)]), (.iconst 5, 0, 0, []), (.iaload, 1075, 0, []), (.imul, 0, 0, []), (.putfield 0, 11, 19, []), (.aload 0, 0, 0, []), (.iconst 0, 0, 0, []), (.putfield 0, 11, 20, []), (.iload 2, 0, 0, [])] (pc1 := 93) (ls1 := [some (vm_r 96), some (vm_i v1), some (vm_i y0), some (vm_i (((m 105 (v1 + 1)) - (m 105 v1)) - 1)), w4]) (st1 := [vm_i y0]) (m1 := (vm_st (vm_st (vm_st m1 96 18 z1) 96 19 (((vm_st m1 96 18 z1) 100 4) * ((vm_st m1 96 18 z1) 100 5))) 96 20 0)) (ob := ((((((((((((true && vm_is 96 11) && vm_is 96 11) && true) && vm_ar 100 100 1075) && decide ((0 : Int) ≤ 4 ∧ (4 : Int) < 1075)) && vm_is 96 11) && true) && vm_ar 100 100 1075) && decide ((0 : Int) ≤ 5 ∧ (5 : Int) < 1075)) && decide (vm_32 (((vm_st m1 96 18 z1) 100 4) * ((vm_st m1 96 18 z1) 100 5)))) && vm_is 96 11) && vm_is 96 11)) (by decide +kernel) rfl (vm_u (vm_u (vm_t (vm_t (vm_u (vm_u (vm_u (vm_t (vm_u (vm_u (vm_u (vm_u rfl (by decide +kernel)) (by decide +kernel)) rfl) (by decide +kernel)) (by decide)) (by decide +kernel)) rfl) (by decide +kernel)) (by decide)) o3_0) (by decide +kernel)) (by decide +kernel)) ?_
    refine vm_gj (c := y0 = 0) (t := 142) (e := 96) (i := (.ifCond .eq 0, 142, 0, [])) (len := 3) (st1 := []) (by decide +kernel) rfl rfl (fun c2 => ?_) (fun c2 => ?_)
    · replace h := h.1 c2
      refine vm_gp [(.aload 0, 0, 0, []), (.aload 0, 0, 0, []), (.aload 0, 0, 0, []), (.getfield 0, 11, 18, [])] (pc1 := 148) (ls1 := [some (vm_r 96), some (vm_i v1), some (vm_i y0), some (vm_i (((m 105 (v1 + 1)) - (m 105 v1)) - 1)), w4]) (st1 := [vm_i ((vm_st (vm_st (vm_st m1 96 18 z1) 96 19 (((vm_st m1 96 18 z1) 100 4) * ((vm_st m1 96 18 z1) 100 5))) 96 20 0) 96 18), vm_r 96, vm_r 96]) (m1 := (vm_st (vm_st (vm_st m1 96 18 z1) 96 19 (((vm_st m1 96 18 z1) 100 4) * ((vm_st m1 96 18 z1) 100 5))) 96 20 0)) (ob := (true && vm_is 96 11)) (by decide +kernel) rfl (vm_u rfl (by decide +kernel)) ?_
      refine vm_gc (g := 192) (na := 2) (av := [vm_r 96, vm_i ((vm_st (vm_st (vm_st m1 96 18 z1) 96 19 (((vm_st m1 96 18 z1) 100 4) * ((vm_st m1 96 18 z1) 100 5))) 96 20 0) 96 18)]) (rest := [vm_r 96]) (i := (.invokevirtual 0, 192, 2, [])) (len := 3) (by decide +kernel) rfl rfl rfl (by decide +kernel) (by decide +kernel) rfl rfl (vm_u (vm_okh_v (c := 11) (by decide +kernel) (by decide +kernel)) (show vm_okn 192 2 1 0 0 2 = true by decide +kernel)) ?_
      refine vm_G.mono h ?_
      rintro _ m2 ⟨z2, rfl, h⟩
      show vm_G 193 151 [some (vm_r 96), some (vm_i v1), some (vm_i y0), some (vm_i (((m 105 (v1 + 1)) - (m 105 v1)) - 1)), w4] [vm_i z2, vm_r 96] m2 _
      obtain ⟨o5_0, h⟩ := h
      refine vm_gp [(.iconst 2, 0, 0, []), (.idiv, 0, 0, []), (.putfield 0, 11, 21, []), (.aload 0, 0, 0, []), (.iload 1, 0, 0, [])] (pc1 := 158) (ls1 := [some (vm_r 96), some (vm_i v1), some (vm_i y0), some (vm_i (((m 105 (v1 + 1)) - (m 105 v1)) - 1)), w4]) (st1 := [vm_i v1, vm_r 96]) (m1 := (vm_st m2 96 21 (z2 / 2))) (ob := ((true && decide (0 ≤ z2 ∧ (0 : Int) < 2)) && vm_is 96 11)) (by decide +kernel) rfl (vm_u (vm_t rfl o5_0) (by decide +kernel)) ?_
      refine vm_gc (g := 194) (na := 2) (av := [vm_r 96, vm_i v1]) (rest := []) (i := (.invokevirtual 0, 194, 2, [])) (len := 3) (by decide +kernel) rfl rfl rfl (by decide +kernel) (by decide +kernel) rfl rfl (vm_u (vm_okh_v (c := 11) (by decide +kernel) (by decide +kernel)) (show vm_okn 194 2 0 0 0 2 = true by decide +kernel)) ?_
      refine vm_G.mono h ?_
      rintro _ m3 ⟨rfl, h⟩
      show vm_G 193 161 [some (vm_r 96), some (vm_i v1), some (vm_i y0), some (vm_i (((m 105 (v1 + 1)) - (m 105 v1)) - 1)), w4] [] m3 _
      exact vm_gr (r := none) (i := (.return_, 0, 0, [])) (len := 1) (by decide +kernel) rfl rfl rfl ⟨rfl, h⟩
    · replace h := h.2 c2
      refine vm_gp [(.iload 3, 0, 0, [])] (pc1 := 97) (ls1 := [some (vm_r 96), some (vm_i v1), some (vm_i y0), some (vm_i (((m 105 (v1 + 1)) - (m 105 v1)) - 1)), w4]) (st1 := [vm_i (((m 105 (v1 + 1)) - (m 105 v1)) - 1)]) (m1 := (vm_st (vm_st (vm_st m1 96 18 z1) 96 19 (((vm_st m1 96 18 z1) 100 4) * ((vm_st m1 96 18 z1) 100 5))) 96 20 0)) (ob := true) (by decide +kernel) rfl rfl ?_
      refine vm_gj (c := (((m 105 (v1 + 1)) - (m 105 v1)) - 1) ≤ 0) (t := 142) (e := 100) (i := (.ifCond .le 0, 142, 0, [])) (len := 3) (st1 := []) (by decide +kernel) rfl rfl (fun c3 => ?_) (fun c3 => ?_)
      · replace h := h.1 c3
        refine vm_gp [(.aload 0, 0, 0, []), (.aload 0, 0, 0, []), (.aload 0, 0, 0, []), (.getfield 0, 11, 18, [])] (pc1 := 148) (ls1 := [some (vm_r 96), some (vm_i v1), some (vm_i y0), some (vm_i (((m 105 (v1 + 1)) - (m 105 v1)) - 1)), w4]) (st1 := [vm_i ((vm_st (vm_st (vm_st m1 96 18 z1) 96 19 (((vm_st m1 96 18 z1) 100 4) * ((vm_st m1 96 18 z1) 100 5))) 96 20 0) 96 18), vm_r 96, vm_r 96]) (m1 := (vm_st (vm_st (vm_st m1 96 18 z1) 96 19 (((vm_st m1 96 18 z1) 100 4) * ((vm_st m1 96 18 z1) 100 5))) 96 20 0)) (ob := (true && vm_is 96 11)) (by decide +kernel) rfl (vm_u rfl (by decide +kernel)) ?_
        refine vm_gc (g := 192) (na := 2) (av := [vm_r 96, vm_i ((vm_st (vm_st (vm_st m1 96 18 z1) 96 19 (((vm_st m1 96 18 z1) 100 4) * ((vm_st m1 96 18 z1) 100 5))) 96 20 0) 96 18)]) (rest := [vm_r 96]) (i := (.invokevirtual 0, 192, 2, [])) (len := 3) (by decide +kernel) rfl rfl rfl (by decide +kernel) (by decide +kernel) rfl rfl (vm_u (vm_okh_v (c := 11) (by decide +kernel) (by decide +kernel)) (show vm_okn 192 2 1 0 0 2 = true by decide +kernel)) ?_
        refine vm_G.mono h ?_
        rintro _ m4 ⟨z4, rfl, h⟩
        show vm_G 193 151 [some (vm_r 96), some (vm_i v1), some (vm_i y0), some (vm_i (((m 105 (v1 + 1)) - (m 105 v1)) - 1)), w4] [vm_i z4, vm_r 96] m4 _
        obtain ⟨o9_0, h⟩ := h
        refine vm_gp [(.iconst 2, 0, 0, []), (.idiv, 0, 0, []), (.putfield 0, 11, 21, []), (.aload 0, 0, 0, []), (.iload 1, 0, 0, [])] (pc1 := 158) (ls1 := [some (vm_r 96), some (vm_i v1), some (vm_i y0), some (vm_i (((m 105 (v1 + 1)) - (m 105 v1)) - 1)), w4]) (st1 := [vm_i v1, vm_r 96]) (m1 := (vm_st m4 96 21 (z4 / 2))) (ob := ((true && decide (0 ≤ z4 ∧ (0 : Int) < 2)) && vm_is 96 11)) (by decide +kernel) rfl (vm_u (vm_t rfl o9_0) (by decide +kernel)) ?_
        refine vm_gc (g := 194) (na := 2) (av := [vm_r 96, vm_i v1]) (rest := []) (i := (.invokevirtual 0, 194, 2, [])) (len := 3) (by decide +kernel) rfl rfl rfl (by decide +kernel) (by decide +kernel) rfl rfl (vm_u (vm_okh_v (c := 11) (by decide +kernel) (by decide +kernel)) (show vm_okn 194 2 0 0 0 2 = true by decide +kernel)) ?_
        refine vm_G.mono h ?_
        rintro _ m5 ⟨rfl, h⟩
        show vm_G 193 161 [some (vm_r 96), some (vm_i v1), some (vm_i y0), some (vm_i (((m 105 (v1 + 1)) - (m 105 v1)) - 1)), w4] [] m5 _
        exact vm_gr (r := none) (i := (.return_, 0, 0, [])) (len := 1) (by decide +kernel) rfl rfl rfl ⟨rfl, h⟩
      · replace h := h.2 c3
        refine vm_gp [(.aload 0, 0, 0, []), (.aload 0, 0, 0, []), (.getfield 0, 11, 18, [])] (pc1 := 105) (ls1 := [some (vm_r 96), some (vm_i v1), some (vm_i y0), some (vm_i (((m 105 (v1 + 1)) - (m 105 v1)) - 1)), w4]) (st1 := [vm_i ((vm_st (vm_st (vm_st m1 96 18 z1) 96 19 (((vm_st m1 96 18 z1) 100 4) * ((vm_st m1 96 18 z1) 100 5))) 96 20 0) 96 18), vm_r 96]) (m1 := (vm_st (vm_st (vm_st m1 96 18 z1) 96 19 (((vm_st m1 96 18 z1) 100 4) * ((vm_st m1 96 18 z1) 100 5))) 96 20 0)) (ob := (true && vm_is 96 11)) (by decide +kernel) rfl (vm_u rfl (by decide +kernel)) ?_
        refine vm_gc (g := 192) (na := 2) (av := [vm_r 96, vm_i ((vm_st (vm_st (vm_st m1 96 18 z1) 96 19 (((vm_st m1 96 18 z1) 100 4) * ((vm_st m1 96 18 z1) 100 5))) 96 20 0) 96 18)]) (rest := []) (i := (.invokevirtual 0, 192, 2, [])) (len := 3) (by decide +kernel) rfl rfl rfl (by decide +kernel) (by decide +kernel) rfl rfl (vm_u (vm_okh_v (c := 11) (by decide +kernel) (by decide +kernel)) (show vm_okn 192 2 0 0 0 2 = true by decide +kernel)) ?_
        refine vm_G.mono h ?_
        rintro _ m6 ⟨z6, rfl, h⟩
        show vm_G 193 108 [some (vm_r 96), some (vm_i v1), some (vm_i y0), some (vm_i (((m 105 (v1 + 1)) - (m 105 v1)) - 1)), w4] [vm_i z6] m6 _
        obtain ⟨⟨o12_0, o12_1, o12_2, o12_3⟩, h⟩ := h
        refine vm_gp [(.istore 4, 0, 0, []), (.aload 0, 0, 0, []), (.dup, 0, 0, []), (.getfield 0, 11, 19, []), (.iload 4, 0, 0, []), (.iload 3, 0, 0, []), (.idiv, 0, 0, []), (.iadd, 0, 0, []), (.putfield 0, 11, 19, []), (.aload 0, 0, 0, []), (.iload 4, 0, 0, []), (.iload 3, 0, 0, []), (.irem, 0, 0, []), (.putfield 0, 11, 20, []), (.aload 0, 0, 0, []), (.dup, 0, 0, []), (.getfield 0, 11, 18, []), (.iload 4, 0, 0, []), (.iadd, 0, 0, []), (.putfield 0, 11, 18, []), (.aload 0, 0, 0, []), (.aload 0, 0, 0, []), (.aload 0, 0, 0, []), (.getfield 0, 11, 18, [])] (pc1 := 148) (ls1 := [some (vm_r 96), some (vm_i v1), some (vm_i y0), some (vm_i (((m 105 (v1 + 1)) - (m 105 v1)) - 1)), some (vm_i z6)]) (st1 := [vm_i ((vm_st (vm_st (vm_st m6 96 19 ((m6 96 19) + (z6 / (((m 105 (v1 + 1)) - (m 105 v1)) - 1)))) 96 20 (z6 % (((m 105 (v1 + 1)) - (m 105 v1)) - 1))) 96 18 (((vm_st (vm_st m6 96 19 ((m6 96 19) + (z6 / (((m 105 (v1 + 1)) - (m 105 v1)) - 1)))) 96 20 (z6 % (((m 105 (v1 + 1)) - (m 105 v1)) - 1))) 96 18) + z6)) 96 18), vm_r 96, vm_r 96]) (m1 := (vm_st (vm_st (vm_st m6 96 19 ((m6 96 19) + (z6 / (((m 105 (v1 + 1)) - (m 105 v1)) - 1)))) 96 20 (z6 % (((m 105 (v1 + 1)) - (m 105 v1)) - 1))) 96 18 (((vm_st (vm_st m6 96 19 ((m6 96 19) + (z6 / (((m 105 (v1 + 1)) - (m 105 v1)) - 1)))) 96 20 (z6 % (((m 105 (v1 + 1)) - (m 105 v1)) - 1))) 96 18) + z6))) (ob := ((((((((((true && vm_is 96 11) && decide (0 ≤ z6 ∧ (0 : Int) < (((m 105 (v1 + 1)) - (m 105 v1)) - 1))) && decide (vm_32 ((m6 96 19) + (z6 / (((m 105 (v1 + 1)) - (m 105 v1)) - 1))))) && vm_is 96 11) && decide (0 ≤ z6 ∧ (0 : Int) < (((m 105 (v1 + 1)) - (m 105 v1)) - 1))) && vm_is 96 11) && vm_is 96 11) && decide (vm_32 (((vm_st (vm_st m6 96 19 ((m6 96 19) + (z6 / (((m 105 (v1 + 1)) - (m 105 v1)) - 1)))) 96 20 (z6 % (((m 105 (v1 + 1)) - (m 105 v1)) - 1))) 96 18) + z6))) && vm_is 96 11) && vm_is 96 11)) (by decide +kernel) rfl (vm_u (vm_u (vm_t (vm_u (vm_u (vm_t (vm_u (vm_t (vm_t (vm_u rfl (by decide +kernel)) o12_0) o12_1) (by decide +kernel)) o12_2) (by decide +kernel)) (by decide +kernel)) o12_3) (by decide +kernel)) (by decide +kernel)) ?_
        refine vm_gc (g := 192) (na := 2) (av := [vm_r 96, vm_i ((vm_st (vm_st (vm_st m6 96 19 ((m6 96 19) + (z6 / (((m 105 (v1 + 1)) - (m 105 v1)) - 1)))) 96 20 (z6 % (((m 105 (v1 + 1)) - (m 105 v1)) - 1))) 96 18 (((vm_st (vm_st m6 96 19 ((m6 96 19) + (z6 / (((m 105 (v1 + 1)) - (m 105 v1)) - 1)))) 96 20 (z6 % (((m 105 (v1 + 1)) - (m 105 v1)) - 1))) 96 18) + z6)) 96 18)]) (rest := [vm_r 96]) (i := (.invokevirtual 0, 192, 2, [])) (len := 3) (by decide +kernel) rfl rfl rfl (by decide +kernel) (by decide +kernel) rfl rfl (vm_u (vm_okh_v (c := 11) (by decide +kernel) (by decide +kernel)) (show vm_okn 192 2 1 0 0 2 = true by decide +kernel)) ?_
        refine vm_G.mono h ?_
        rintro _ m7 ⟨z7, rfl, h⟩
        show vm_G 193 151 [some (vm_r 96), some (vm_i v1), some (vm_i y0), some (vm_i (((m 105 (v1 + 1)) - (m 105 v1)) - 1)), some (vm_i z6)] [vm_i z7, vm_r 96] m7 _
        obtain ⟨o13_0, h⟩ := h
        refine vm_gp [(.iconst 2, 0, 0, []), (.idiv, 0, 0, []), (.putfield 0, 11, 21, []), (.aload 0, 0, 0, []), (.iload 1, 0, 0, [])] (pc1 := 158) (ls1 := [some (vm_r 96), some (vm_i v1), some (vm_i y0), some (vm_i (((m 105 (v1 + 1)) - (m 105 v1)) - 1)), some (vm_i z6)]) (st1 := [vm_i v1, vm_r 96]) (m1 := (vm_st m7 96 21 (z7 / 2))) (ob := ((true && decide (0 ≤ z7 ∧ (0 : Int) < 2)) && vm_is 96 11)) (by decide +kernel) rfl (vm_u (vm_t rfl o13_0) (by decide +kernel)) ?_
        refine vm_gc (g := 194) (na := 2) (av := [vm_r 96, vm_i v1]) (rest := []) (i := (.invokevirtual 0, 194, 2, [])) (len := 3) (by decide +kernel) rfl rfl rfl (by decide +kernel) (by decide +kernel) rfl rfl (vm_u (vm_okh_v (c := 11) (by decide +kernel) (by decide +kernel)) (show vm_okn 194 2 0 0 0 2 = true by decide +kernel)) ?_
        refine vm_G.mono h ?_
        rintro _ m8 ⟨rfl, h⟩
        show vm_G 193 161 [some (vm_r 96), some (vm_i v1), some (vm_i y0), some (vm_i (((m 105 (v1 + 1)) - (m 105 v1)) - 1)), some (vm_i z6)] [] m8 _
        exact vm_gr (r := none) (i := (.return_, 0, 0, [])) (len := 1) (by decide +kernel) rfl rfl rfl ⟨rfl, h⟩
  · replace h := h.2 c1
    refine vm_gp [(.aload 0, 0, 0, []), (.iload 1, 0, 0, [])] (pc1 := 42) (ls1 := [some (vm_r 96), some (vm_i v1), some (vm_i y0), some (vm_i (((m 105 (v1 + 1)) - (m 105 v1)) - 1)), w4]) (st1 := [vm_i v1, vm_r 96, vm_r 96]) (m1 := m) (ob := true) (by decide +kernel) rfl rfl ?_
    refine vm_gc (g := 191) (na := 2) (av := [vm_r 96, vm_i v1]) (rest := [vm_r 96]) (i := (.invokevirtual 0, 191, 2, [])) (len := 3) (by decide +kernel) rfl rfl rfl (by decide +kernel) (by decide +kernel) rfl rfl (vm_u (vm_okh_v (c := 11) (by decide +kernel) (by decide +kernel)) (show vm_okn 191 2 1 0 0 2 = true by decide +kernel)) ?_
    refine vm_G.mono h ?_
    rintro _ m9 ⟨z9, rfl, h⟩
    show vm_G 193 45 [some (vm_r 96), some (vm_i v1), some (vm_i y0), some (vm_i (((m 105 (v1 + 1)) - (m 105 v1)) - 1)), w4] [vm_i z9, vm_r 96] m9 _
    refine vm_gp [(.goto 0, 54, 0, []), (.putfield 0, 11, 17, []), (.aload 0, 0, 0, []), (.aload 0, 0, 0, []), (.iload 1, 0, 0, []), (.aload 0, 0, 0, []), (.getfield 0, 11, 17, [])] (pc1 := 64) (ls1 := [some (vm_r 96), some (vm_i v1), some (vm_i y0), some (vm_i (((m 105 (v1 + 1)) - (m 105 v1)) - 1)), w4]) (st1 := [vm_i ((vm_st m9 96 17 z9) 96 17), vm_i v1, vm_r 96, vm_r 96]) (m1 := (vm_st m9 96 17 z9)) (ob := ((true && vm_is 96 11) && vm_is 96 11)) (by decide +kernel) rfl (vm_u (vm_u rfl (by decide +kernel)) (by decide +kernel)) ?_
    refine vm_gc (g := 190) (na := 3) (av := [vm_r 96, vm_i v1, vm_i ((vm_st m9 96 17 z9) 96 17)]) (rest := [vm_r 96]) (i := (.invokevirtual 0, 190, 3, [])) (len := 3) (by decide +kernel) rfl rfl rfl (by decide +kernel) (by decide +kernel) rfl rfl (vm_u (vm_okh_v (c := 11) (by decide +kernel) (by decide +kernel)) (show vm_okn 190 3 1 0 0 3 = true by decide +kernel)) ?_
    refine vm_G.mono h ?_
    rintro _ m10 ⟨z10, rfl, h⟩
    show vm_G 193 67 [some (vm_r 96), some (vm_i v1), some (vm_i y0), some (vm_i (((m 105 (v1 + 1)) - (m 105 v1)) - 1)), w4] [vm_i z10, vm_r 96] m10 _
    obtain ⟨o17_0, h⟩ := h
    refine vm_gp [(.putfield 0, 11, 18, []), (.aload 0, 0, 0, []), (.aload 0, 0, 0, []), (.getfield 2, 11, 7, [(100, 0)]), (.iconst 4, 0, 0, []), (.iaload, 1075, 0, []), (.aload 0, 0, 0, []), (.getfield 2, 11, 7, [(100, 0)]), (.iconst 5, 0, 0, []), (.iaload, 1075, 0, []), (.imul, 0, 0, []), (.putfield 0, 11, 19, []), (.aload 0, 0, 0, []), (.iconst 0, 0, 0, []), (.putfield 0, 11, 20, []), (.iload 2, 0, 0, [])] (pc1 := 93) (ls1 := [some (vm_r 96), some (vm_i v1), some (vm_i y0), some (vm_i (((m 105 (v1 + 1)) - (m 105 v1)) - 1)), w4]) (st1 := [vm_i y0]) (m1 := (vm_st (vm_st (vm_st m10 96 18 z10) 96 19 (((vm_st m10 96 18 z10) 100 4) * ((vm_st m10 96 18 z10) 100 5))) 96 20 0)) (ob := ((((((((((((true && vm_is 96 11) && vm_is 96 11) && true) && vm_ar 100 100 1075) && decide ((0 : Int) ≤ 4 ∧ (4 : Int) < 1075)) && vm_is 96 11) && true) && vm_ar 100 100 1075) && decide ((0 : Int) ≤ 5 ∧ (5 : Int) < 1075)) && decide (vm_32 (((vm_st m10 96 18 z10) 100 4) * ((vm_st m10 96 18 z10) 100 5)))) && vm_is 96 11) && vm_is 96 11)) (by decide +kernel) rfl (vm_u (vm_u (vm_t (vm_t (vm_u (vm_u (vm_u (vm_t (vm_u (vm_u (vm_u (vm_u rfl (by decide +kernel)) (by decide +kernel)) rfl) (by decide +kernel)) (by decide)) (by decide +kernel)) rfl) (by decide +kernel)) (by decide)) o17_0) (by decide +kernel)) (by decide +kernel)) ?_
    refine vm_gj (c := y0 = 0) (t := 142) (e := 96) (i := (.ifCond .eq 0, 142, 0, [])) (len := 3) (st1 := []) (by decide +kernel) rfl rfl (fun c4 => ?_) (fun c4 => ?_)
    · replace h := h.1 c4
      refine vm_gp [(.aload 0, 0, 0, []), (.aload 0, 0, 0, []), (.aload 0, 0, 0, []), (.getfield 0, 11, 18, [])] (pc1 := 148) (ls1 := [some (vm_r 96), some (vm_i v1), some (vm_i y0), some (vm_i (((m 105 (v1 + 1)) - (m 105 v1)) - 1)), w4]) (st1 := [vm_i ((vm_st (vm_st (vm_st m10 96 18 z10) 96 19 (((vm_st m10 96 18 z10) 100 4) * ((vm_st m10 96 18 z10) 100 5))) 96 20 0) 96 18), vm_r 96, vm_r 96]) (m1 := (vm_st (vm_st (vm_st m10 96 18 z10) 96 19 (((vm_st m10 96 18 z10) 100 4) * ((vm_st m10 96 18 z10) 100 5))) 96 20 0)) (ob := (true && vm_is 96 11)) (by decide +kernel) rfl (vm_u rfl (by decide +kernel)) ?_
      refine vm_gc (g := 192) (na := 2) (av := [vm_r 96, vm_i ((vm_st (vm_st (vm_st m10 96 18 z10) 96 19 (((vm_st m10 96 18 z10) 100 4) * ((vm_st m10 96 18 z10) 100 5))) 96 20 0) 96 18)]) (rest := [vm_r 96]) (i := (.invokevirtual 0, 192, 2, [])) (len := 3) (by decide +kernel) rfl rfl rfl (by decide +kernel) (by decide +kernel) rfl rfl (vm_u (vm_okh_v (c := 11) (by decide +kernel) (by decide +kernel)) (show vm_okn 192 2 1 0 0 2 = true by decide +kernel)) ?_
      refine vm_G.mono h ?_
      rintro _ m11 ⟨z11, rfl, h⟩
      show vm_G 193 151 [some (vm_r 96), some (vm_i v1), some (vm_i y0), some (vm_i (((m 105 (v1 + 1)) - (m 105 v1)) - 1)), w4] [vm_i z11, vm_r 96] m11 _
      obtain ⟨o19_0, h⟩ := h
      refine vm_gp [(.iconst 2, 0, 0, []), (.idiv, 0, 0, []), (.putfield 0, 11, 21, []), (.aload 0, 0, 0, []), (.iload 1, 0, 0, [])] (pc1 := 158) (ls1 := [some (vm_r 96), some (vm_i v1), some (vm_i y0), some (vm_i (((m 105 (v1 + 1)) - (m 105 v1)) - 1)), w4]) (st1 := [vm_i v1, vm_r 96]) (m1 := (vm_st m11 96 21 (z11 / 2))) (ob := ((true && decide (0 ≤ z11 ∧ (0 : Int) < 2)) && vm_is 96 11)) (by decide +kernel) rfl (vm_u (vm_t rfl o19_0) (by decide +kernel)) ?_
      refine vm_gc (g := 194) (na := 2) (av := [vm_r 96, vm_i v1]) (rest := []) (i := (.invokevirtual 0, 194, 2, [])) (len := 3) (by decide +kernel) rfl rfl rfl (by decide +kernel) (by decide +kernel) rfl rfl (vm_u (vm_okh_v (c := 11) (by decide +kernel) (by decide +kernel)) (show vm_okn 194 2 0 0 0 2 = true by decide +kernel)) ?_
      refine vm_G.mono h ?_
      rintro _ m12 ⟨rfl, h⟩
      show vm_G 193 161 [some (vm_r 96), some (vm_i v1), some (vm_i y0), some (vm_i (((m 105 (v1 + 1)) - (m 105 v1)) - 1)), w4] [] m12 _
      exact vm_gr (r := none) (i := (.return_, 0, 0, [])) (len := 1) (by decide +kernel) rfl rfl rfl ⟨rfl, h⟩
    · replace h := h.2 c4
      refine vm_gp [(.iload 3, 0, 0, [])] (pc1 := 97) (ls1 := [some (vm_r 96), some (vm_i v1), some (vm_i y0), some (vm_i (((m 105 (v1 + 1)) - (m 105 v1)) - 1)), w4]) (st1 := [vm_i (((m 105 (v1 + 1)) - (m 105 v1)) - 1)]) (m1 := (vm_st (vm_st (vm_st m10 96 18 z10) 96 19 (((vm_st m10 96 18 z10) 100 4) * ((vm_st m10 96 18 z10) 100 5))) 96 20 0)) (ob := true) (by decide +kernel) rfl rfl ?_
      refine vm_gj (c := (((m 105 (v1 + 1)) - (m 105 v1)) - 1) ≤ 0) (t := 142) (e := 100) (i := (.ifCond .le 0, 142, 0, [])) (len := 3) (st1 := []) (by decide +kernel) rfl rfl (fun c5 => ?_) (fun c5 => ?_)
      · replace h := h.1 c5
        refine vm_gp [(.aload 0, 0, 0, []), (.aload 0, 0, 0, []), (.aload 0, 0, 0, []), (.getfield 0, 11, 18, [])] (pc1 := 148) (ls1 := [some (vm_r 96), some (vm_i v1), some (vm_i y0), some (vm_i (((m 105 (v1 + 1)) - (m 105 v1)) - 1)), w4]) (st1 := [vm_i ((vm_st (vm_st (vm_st m10 96 18 z10) 96 19 (((vm_st m10 96 18 z10) 100 4) * ((vm_st m10 96 18 z10) 100 5))) 96 20 0) 96 18), vm_r 96, vm_r 96]) (m1 := (vm_st (vm_st (vm_st m10 96 18 z10) 96 19 (((vm_st m10 96 18 z10) 100 4) * ((vm_st m10 96 18 z10) 100 5))) 96 20 0)) (ob := (true && vm_is 96 11)) (by decide +kernel) rfl (vm_u rfl (by decide +kernel)) ?_
        refine vm_gc (g := 192) (na := 2) (av := [vm_r 96, vm_i ((vm_st (vm_st (vm_st m10 96 18 z10) 96 19 (((vm_st m10 96 18 z10) 100 4) * ((vm_st m10 96 18 z10) 100 5))) 96 20 0) 96 18)]) (rest := [vm_r 96]) (i := (.invokevirtual 0, 192, 2, [])) (len := 3) (by decide +kernel) rfl rfl rfl (by decide +kernel) (by decide +kernel) rfl rfl (vm_u (vm_okh_v (c := 11) (by decide +kernel) (by decide +kernel)) (show vm_okn 192 2 1 0 0 2 = true by decide +kernel)) ?_
        refine vm_G.mono h ?_
        rintro _ m13 ⟨z13, rfl, h⟩
        show vm_G 193 151 [some (vm_r 96), some (vm_i v1), some (vm_i y0), some (vm_i (((m 105 (v1 + 1)) - (m 105 v1)) - 1)), w4] [vm_i z13, vm_r 96] m13 _
        obtain ⟨o23_0, h⟩ := h
        refine vm_gp [(.iconst 2, 0, 0, []), (.idiv, 0, 0, []), (.putfield 0, 11, 21, []), (.aload 0, 0, 0, []), (.iload 1, 0, 0, [])] (pc1 := 158) (ls1 := [some (vm_r 96), some (vm_i v1), some (vm_i y0), some (vm_i (((m 105 (v1 + 1)) - (m 105 v1)) - 1)), w4]) (st1 := [vm_i v1, vm_r 96]) (m1 := (vm_st m13 96 21 (z13 / 2))) (ob := ((true && decide (0 ≤ z13 ∧ (0 : Int) < 2)) && vm_is 96 11)) (by decide +kernel) rfl (vm_u (vm_t rfl o23_0) (by decide +kernel)) ?_
        refine vm_gc (g := 194) (na := 2) (av := [vm_r 96, vm_i v1]) (rest := []) (i := (.invokevirtual 0, 194, 2, [])) (len := 3) (by decide +kernel) rfl rfl rfl (by decide +kernel) (by decide +kernel) rfl rfl (vm_u (vm_okh_v (c := 11) (by decide +kernel) (by decide +kernel)) (show vm_okn 194 2 0 0 0 2 = true by decide +kernel)) ?_
        refine vm_G.mono h ?_
        rintro _ m14 ⟨rfl, h⟩
        show vm_G 193 161 [some (vm_r 96), some (vm_i v1), some (vm_i y0), some (vm_i (((m 105 (v1 + 1)) - (m 105 v1)) - 1)), w4] [] m14 _
        exact vm_gr (r := none) (i := (.return_, 0, 0, [])) (len := 1) (by decide +kernel) rfl rfl rfl ⟨rfl, h⟩
      · replace h := h.2 c5
        refine vm_gp [(.aload 0, 0, 0, []), (.aload 0, 0, 0, []), (.getfield 0, 11, 18, [])] (pc1 := 105) (ls1 := [some (vm_r 96), some (vm_i v1), some (vm_i y0), some (vm_i (((m 105 (v1 + 1)) - (m 105 v1)) - 1)), w4]) (st1 := [vm_i ((vm_st (vm_st (vm_st m10 96 18 z10) 96 19 (((vm_st m10 96 18 z10) 100 4) * ((vm_st m10 96 18 z10) 100 5))) 96 20 0) 96 18), vm_r 96]) (m1 := (vm_st (vm_st (vm_st m10 96 18 z10) 96 19 (((vm_st m10 96 18 z10) 100 4) * ((vm_st m10 96 18 z10) 100 5))) 96 20 0)) (ob := (true && vm_is 96 11)) (by decide +kernel) rfl (vm_u rfl (by decide +kernel)) ?_
        refine vm_gc (g := 192) (na := 2) (av := [vm_r 96, vm_i ((vm_st (vm_st (vm_st m10 96 18 z10) 96 19 (((vm_st m10 96 18 z10) 100 4) * ((vm_st m10 96 18 z10) 100 5))) 96 20 0) 96 18)]) (rest := []) (i := (.invokevirtual 0, 192, 2, [])) (len := 3) (by decide +kernel) rfl rfl rfl (by decide +kernel) (by decide +kernel) rfl rfl (vm_u (vm_okh_v (c := 11) (by decide +kernel) (by decide +kernel)) (show vm_okn 192 2 0 0 0 2 = true by decide +kernel)) ?_
        refine vm_G.mono h ?_
        rintro _ m15 ⟨z15, rfl, h⟩
        show vm_G 193 108 [some (vm_r 96), some (vm_i v1), some (vm_i y0), some (vm_i (((m 105 (v1 + 1)) - (m 105 v1)) - 1)), w4] [vm_i z15] m15 _
        obtain ⟨⟨o26_0, o26_1, o26_2, o26_3⟩, h⟩ := h
        refine vm_gp [(.istore 4, 0, 0, []), (.aload 0, 0, 0, []), (.dup, 0, 0, []), (.getfield 0, 11, 19, []), (.iload 4, 0, 0, []), (.iload 3, 0, 0, []), (.idiv, 0, 0, []), (.iadd, 0, 0, []), (.putfield 0, 11, 19, []), (.aload 0, 0, 0, []), (.iload 4, 0, 0, []), (.iload 3, 0, 0, []), (.irem, 0, 0, []), (.putfield 0, 11, 20, []), (.aload 0, 0, 0, []), (.dup, 0, 0, []), (.getfield 0, 11, 18, []), (.iload 4, 0, 0, []), (.iadd, 0, 0, []), (.putfield 0, 11, 18, []), (.aload 0, 0, 0, []), (.aload 0, 0, 0, []), (.aload 0, 0, 0, []), (.getfield 0, 11, 18, [])] (pc1 := 148) (ls1 := [some (vm_r 96), some (vm_i v1), some (vm_i y0), some (vm_i (((m 105 (v1 + 1)) - (m 105 v1)) - 1)), some (vm_i z15)]) (st1 := [vm_i ((vm_st (vm_st (vm_st m15 96 19 ((m15 96 19) + (z15 / (((m 105 (v1 + 1)) - (m 105 v1)) - 1)))) 96 20 (z15 % (((m 105 (v1 + 1)) - (m 105 v1)) - 1))) 96 18 (((vm_st (vm_st m15 96 19 ((m15 96 19) + (z15 / (((m 105 (v1 + 1)) - (m 105 v1)) - 1)))) 96 20 (z15 % (((m 105 (v1 + 1)) - (m 105 v1)) - 1))) 96 18) + z15)) 96 18), vm_r 96, vm_r 96]) (m1 := (vm_st (vm_st (vm_st m15 96 19 ((m15 96 19) + (z15 / (((m 105 (v1 + 1)) - (m 105 v1)) - 1)))) 96 20 (z15 % (((m 105 (v1 + 1)) - (m 105 v1)) - 1))) 96 18 (((vm_st (vm_st m15 96 19 ((m15 96 19) + (z15 / (((m 105 (v1 + 1)) - (m 105 v1)) - 1)))) 96 20 (z15 % (((m 105 (v1 + 1)) - (m 105 v1)) - 1))) 96 18) + z15))) (ob := ((((((((((true && vm_is 96 11) && decide (0 ≤ z15 ∧ (0 : Int) < (((m 105 (v1 + 1)) - (m 105 v1)) - 1))) && decide (vm_32 ((m15 96 19) + (z15 / (((m 105 (v1 + 1)) - (m 105 v1)) - 1))))) && vm_is 96 11) && decide (0 ≤ z15 ∧ (0 : Int) < (((m 105 (v1 + 1)) - (m 105 v1)) - 1))) && vm_is 96 11) && vm_is 96 11) && decide (vm_32 (((vm_st (vm_st m15 96 19 ((m15 96 19) + (z15 / (((m 105 (v1 + 1)) - (m 105 v1)) - 1)))) 96 20 (z15 % (((m 105 (v1 + 1)) - (m 105 v1)) - 1))) 96 18) + z15))) && vm_is 96 11) && vm_is 96 11)) (by decide +kernel) rfl (vm_u (vm_u (vm_t (vm_u (vm_u (vm_t (vm_u (vm_t (vm_t (vm_u rfl (by decide +kernel)) o26_0) o26_1) (by decide +kernel)) o26_2) (by decide +kernel)) (by decide +kernel)) o26_3) (by decide +kernel)) (by decide +kernel)) ?_
        refine vm_gc (g := 192) (na := 2) (av := [vm_r 96, vm_i ((vm_st (vm_st (vm_st m15 96 19 ((m15 96 19) + (z15 / (((m 105 (v1 + 1)) - (m 105 v1)) - 1)))) 96 20 (z15 % (((m 105 (v1 + 1)) - (m 105 v1)) - 1))) 96 18 (((vm_st (vm_st m15 96 19 ((m15 96 19) + (z15 / (((m 105 (v1 + 1)) - (m 105 v1)) - 1)))) 96 20 (z15 % (((m 105 (v1 + 1)) - (m 105 v1)) - 1))) 96 18) + z15)) 96 18)]) (rest := [vm_r 96]) (i := (.invokevirtual 0, 192, 2, [])) (len := 3) (by decide +kernel) rfl rfl rfl (by decide +kernel) (by decide +kernel) rfl rfl (vm_u (vm_okh_v (c := 11) (by decide +kernel) (by decide +kernel)) (show vm_okn 192 2 1 0 0 2 = true by decide +kernel)) ?_
        refine vm_G.mono h ?_
        rintro _ m16 ⟨z16, rfl, h⟩
        show vm_G 193 151 [some (vm_r 96), some (vm_i v1), some (vm_i y0), some (vm_i (((m 105 (v1 + 1)) - (m 105 v1)) - 1)), some (vm_i z15)] [vm_i z16, vm_r 96] m16 _
        obtain ⟨o27_0, h⟩ := h
        refine vm_gp [(.iconst 2, 0, 0, []), (.idiv, 0, 0, []), (.putfield 0, 11, 21, []), (.aload 0, 0, 0, []), (.iload 1, 0, 0, [])] (pc1 := 158) (ls1 := [some (vm_r 96), some (vm_i v1), some (vm_i y0), some (vm_i (((m 105 (v1 + 1)) - (m 105 v1)) - 1)), some (vm_i z15)]) (st1 := [vm_i v1, vm_r 96]) (m1 := (vm_st m16 96 21 (z16 / 2))) (ob := ((true && decide (0 ≤ z16 ∧ (0 : Int) < 2)) && vm_is 96 11)) (by decide +kernel) rfl (vm_u (vm_t rfl o27_0) (by decide +kernel)) ?_
        refine vm_gc (g := 194) (na := 2) (av := [vm_r 96, vm_i v1]) (rest := []) (i := (.invokevirtual 0, 194, 2, [])) (len := 3) (by decide +kernel) rfl rfl rfl (by decide +kernel) (by decide +kernel) rfl rfl (vm_u (vm_okh_v (c := 11) (by decide +kernel) (by decide +kernel)) (show vm_okn 194 2 0 0 0 2 = true by decide +kernel)) ?_
        refine vm_G.mono h ?_
        rintro _ m17 ⟨rfl, h⟩
        show vm_G 193 161 [some (vm_r 96), some (vm_i v1), some (vm_i y0), some (vm_i (((m 105 (v1 + 1)) - (m 105 v1)) - 1)), some (vm_i z15)] [] m17 _
        exact vm_gr (r := none) (i := (.return_, 0, 0, [])) (len := 1) (by decide +kernel) rfl rfl rfl ⟨rfl, h⟩
abbrev ku11_laysLetters_0 (v1 : Int) (m : vm_M) (Q : vm_M → Prop) : Prop := vm_G 194 0 [some (vm_r 96), some (vm_i v1), none, none] [] m (vm_qv Q)
abbrev ku11_laysLetters_17 (v1 : Int) (v2 : Int) (v3 : Int) (m : vm_M) (Q : vm_M → Prop) : Prop := vm_G 194 17 [some (vm_r 96), some (vm_i v1), some (vm_i v2), some (vm_i v3)] [] m (vm_qv Q)
set_option maxRecDepth 20000 in
theorem ru11_laysLetters_0 {v1 : Int} {m : vm_M} {Q : vm_M → Prop}  (h :
    ((0 ≤ v1 ∧ v1 < 14)) ∧
    ku11_laysLetters_17 v1 ((vm_st m 96 22 0) 96 21) ((vm_st m 96 22 0) 105 v1) (vm_st m 96 22 0) Q) : vm_C 194 [vm_r 96, vm_i v1] m (vm_qv Q) := by
  show vm_G 194 0 [some (vm_r 96), some (vm_i v1), none, none] [] m (vm_qv Q)
  obtain ⟨o1_0, h⟩ := h
  refine vm_gp [(.aload 0, 0, 0, []), (.iconst 0, 0, 0, []), (.putfield 0, 11, 22, []), (.aload 0, 0, 0, []), (.getfield 0, 11, 21, []), (.istore 2, 0, 0, []), (.aload 0, 0, 0, []), (.getfield 2, 11, 13, [(105, 0)]), (.iload 1, 0, 0, []), (.iaload, 14, 0, []), (.istore 3, 0, 0, [])] (pc1 := 17) (ls1 := [some (vm_r 96), some (vm_i v1), some (vm_i ((vm_st m 96 22 0) 96 21)), some (vm_i ((vm_st m 96 22 0) 105 v1))]) (st1 := []) (m1 := (vm_st m 96 22 0)) (ob := ((((((true && vm_is 96 11) && vm_is 96 11) && vm_is 96 11) && true) && vm_ar 105 100 14) && decide (0 ≤ v1 ∧ v1 < 14))) (by decide +kernel) rfl (vm_t (vm_u (vm_u (vm_u (vm_u (vm_u rfl (by decide +kernel)) (by decide +kernel)) (by decide +kernel)) rfl) (by decide +kernel)) o1_0) ?_
  exact h
set_option maxRecDepth 20000 in
theorem ru11_laysLetters_17 {v1 : Int} {v2 : Int} {v3 : Int} {m : vm_M} {Q : vm_M → Prop}  (h :
    ((vm_32 (v1 + 1)) ∧ (0 ≤ (v1 + 1) ∧ (v1 + 1) < 14)) ∧
    (((m 105 (v1 + 1)) ≤ v3 →
      Q m) ∧ (¬ (m 105 (v1 + 1)) ≤ v3 →
      (vm_C 195 [vm_r 96, vm_i v3, vm_i v2] m (vm_qv (fun m1 =>
        (vm_C 176 [vm_r 96, vm_i v3, vm_i (m1 96 17)] m1 (vm_qi (fun z2 m2 =>
          ((vm_32 (z2 * (m2 100 5))) ∧ (vm_32 ((z2 * (m2 100 5)) + (m2 96 19))) ∧ (0 ≤ v1 ∧ v1 < 14) ∧ (vm_32 (v3 - (m2 105 v1)))) ∧
          (((m2 96 20) ≤ (v3 - (m2 105 v1)) →
            ((vm_32 (((z2 * (m2 100 5)) + (m2 96 19)) + 0)) ∧ (vm_32 (v2 + (((z2 * (m2 100 5)) + (m2 96 19)) + 0))) ∧ (vm_32 (v3 + 1))) ∧
            ku11_laysLetters_17 v1 (v2 + (((z2 * (m2 100 5)) + (m2 96 19)) + 0)) (v3 + 1) m2 Q) ∧ (¬ (m2 96 20) ≤ (v3 - (m2 105 v1)) →
            ((vm_32 (((z2 * (m2 100 5)) + (m2 96 19)) + 1)) ∧ (vm_32 (v2 + (((z2 * (m2 100 5)) + (m2 96 19)) + 1))) ∧ (vm_32 (v3 + 1))) ∧
            ku11_laysLetters_17 v1 (v2 + (((z2 * (m2 100 5)) + (m2 96 19)) + 1)) (v3 + 1) m2 Q))))))))))) : ku11_laysLetters_17 v1 v2 v3 m Q := by
  show vm_G 194 17 [some (vm_r 96), some (vm_i v1), some (vm_i v2), some (vm_i v3)] [] m (vm_qv Q)
  obtain ⟨⟨o1_0, o1_1⟩, h⟩ := h
  refine vm_gp [(.iload 3, 0, 0, []), (.aload 0, 0, 0, []), (.getfield 2, 11, 13, [(105, 0)]), (.iload 1, 0, 0, []), (.iconst 1, 0, 0, []), (.iadd, 0, 0, []), (.iaload, 14, 0, [])] (pc1 := 26) (ls1 := [some (vm_r 96), some (vm_i v1), some (vm_i v2), some (vm_i v3)]) (st1 := [vm_i (m 105 (v1 + 1)), vm_i v3]) (m1 := m) (ob := (((((true && vm_is 96 11) && true) && decide (vm_32 (v1 + 1))) && vm_ar 105 100 14) && decide (0 ≤ (v1 + 1) ∧ (v1 + 1) < 14))) (by decide +kernel) rfl (vm_t (vm_u (vm_t (vm_u (vm_u rfl (by decide +kernel)) rfl) o1_0) (by decide +kernel)) o1_1) ?_
  refine vm_gj (c := (m 105 (v1 + 1)) ≤ v3) (t := 86) (e := 29) (i := (.if_icmp .ge 0, 86, 0, [])) (len := 3) (st1 := []) (by decide +kernel) rfl rfl (fun c1 => ?_) (fun c1 => ?_)
  · replace h := h.1 c1
    exact vm_gr (r := none) (i := (.return_, 0, 0, [])) (len := 1) (by decide +kernel) rfl rfl rfl ⟨rfl, h⟩
  · replace h := h.2 c1
    refine vm_gp [(.aload 0, 0, 0, []), (.iload 3, 0, 0, []), (.iload 2, 0, 0, [])] (pc1 := 32) (ls1 := [some (vm_r 96), some (vm_i v1), some (vm_i v2), some (vm_i v3)]) (st1 := [vm_i v2, vm_i v3, vm_r 96]) (m1 := m) (ob := true) (by decide +kernel) rfl rfl ?_
    refine vm_gc (g := 195) (na := 3) (av := [vm_r 96, vm_i v3, vm_i v2]) (rest := []) (i := (.invokevirtual 0, 195, 3, [])) (len := 3) (by decide +kernel) rfl rfl rfl (by decide +kernel) (by decide +kernel) rfl rfl (vm_u (vm_okh_v (c := 11) (by decide +kernel) (by decide +kernel)) (show vm_okn 195 3 0 0 0 3 = true by decide +kernel)) ?_
    refine vm_G.mono h ?_
    rintro _ m1 ⟨rfl, h⟩
    show vm_G 194 35 [some (vm_r 96), some (vm_i v1), some (vm_i v2), some (vm_i v3)] [] m1 _
    refine vm_gp [(.iload 2, 0, 0, []), (.aload 0, 0, 0, []), (.iload 3, 0, 0, []), (.aload 0, 0, 0, []), (.getfield 0, 11, 17, [])] (pc1 := 42) (ls1 := [some (vm_r 96), some (vm_i v1), some (vm_i v2), some (vm_i v3)]) (st1 := [vm_i (m1 96 17), vm_i v3, vm_r 96, vm_i v2]) (m1 := m1) (ob := (true && vm_is 96 11)) (by decide +kernel) rfl (vm_u rfl (by decide +kernel)) ?_
    refine vm_gc (g := 176) (na := 3) (av := [vm_r 96, vm_i v3, vm_i (m1 96 17)]) (rest := [vm_i v2]) (i := (.invokevirtual 0, 176, 3, [])) (len := 3) (by decide +kernel) rfl rfl rfl (by decide +kernel) (by decide +kernel) rfl rfl (vm_u (vm_okh_v (c := 11) (by decide +kernel) (by decide +kernel)) (show vm_okn 176 3 1 0 0 3 = true by decide +kernel)) ?_
    refine vm_G.mono h ?_
    rintro _ m2 ⟨z2, rfl, h⟩
    show vm_G 194 45 [some (vm_r 96), some (vm_i v1), some (vm_i v2), some (vm_i v3)] [vm_i z2, vm_i v2] m2 _
    obtain ⟨⟨o5_0, o5_1, o5_2, o5_3⟩, h⟩ := h
    refine vm_gp [(.aload 0, 0, 0, []), (.getfield 2, 11, 7, [(100, 0)]), (.iconst 5, 0, 0, []), (.iaload, 1075, 0, []), (.imul, 0, 0, []), (.aload 0, 0, 0, []), (.getfield 0, 11, 19, []), (.iadd, 0, 0, []), (.iload 3, 0, 0, []), (.aload 0, 0, 0, []), (.getfield 2, 11, 13, [(105, 0)]), (.iload 1, 0, 0, []), (.iaload, 14, 0, []), (.isub, 0, 0, []), (.aload 0, 0, 0, []), (.getfield 0, 11, 20, [])] (pc1 := 69) (ls1 := [some (vm_r 96), some (vm_i v1), some (vm_i v2), some (vm_i v3)]) (st1 := [vm_i (m2 96 20), vm_i (v3 - (m2 105 v1)), vm_i ((z2 * (m2 100 5)) + (m2 96 19)), vm_i v2]) (m1 := m2) (ob := (((((((((((((true && vm_is 96 11) && true) && vm_ar 100 100 1075) && decide ((0 : Int) ≤ 5 ∧ (5 : Int) < 1075)) && decide (vm_32 (z2 * (m2 100 5)))) && vm_is 96 11) && decide (vm_32 ((z2 * (m2 100 5)) + (m2 96 19)))) && vm_is 96 11) && true) && vm_ar 105 100 14) && decide (0 ≤ v1 ∧ v1 < 14)) && decide (vm_32 (v3 - (m2 105 v1)))) && vm_is 96 11)) (by decide +kernel) rfl (vm_u (vm_t (vm_t (vm_u (vm_u (vm_u (vm_t (vm_u (vm_t (vm_t (vm_u (vm_u (vm_u rfl (by decide +kernel)) rfl) (by decide +kernel)) (by decide)) o5_0) (by decide +kernel)) o5_1) (by decide +kernel)) rfl) (by decide +kernel)) o5_2) o5_3) (by decide +kernel)) ?_
    refine vm_gj (c := (m2 96 20) ≤ (v3 - (m2 105 v1))) (t := 76) (e := 72) (i := (.if_icmp .ge 0, 76, 0, [])) (len := 3) (st1 := [vm_i ((z2 * (m2 100 5)) + (m2 96 19)), vm_i v2]) (by decide +kernel) rfl rfl (fun c2 => ?_) (fun c2 => ?_)
    · replace h := h.1 c2
      obtain ⟨⟨o6_0, o6_1, o6_2⟩, h⟩ := h
      refine vm_gp [(.iconst 0, 0, 0, []), (.iadd, 0, 0, []), (.iadd, 0, 0, []), (.istore 2, 0, 0, []), (.iinc 3 1, 0, 0, []), (.goto 0, 17, 0, [])] (pc1 := 17) (ls1 := [some (vm_r 96), some (vm_i v1), some (vm_i (v2 + (((z2 * (m2 100 5)) + (m2 96 19)) + 0))), some (vm_i (v3 + 1))]) (st1 := []) (m1 := m2) (ob := (((true && decide (vm_32 (((z2 * (m2 100 5)) + (m2 96 19)) + 0))) && decide (vm_32 (v2 + (((z2 * (m2 100 5)) + (m2 96 19)) + 0)))) && decide (vm_32 (v3 + 1)))) (by decide +kernel) rfl (vm_t (vm_t (vm_t rfl o6_0) o6_1) o6_2) ?_
      exact h
    · replace h := h.2 c2
      obtain ⟨⟨o7_0, o7_1, o7_2⟩, h⟩ := h
      refine vm_gp [(.iconst 1, 0, 0, []), (.goto 0, 77, 0, []), (.iadd, 0, 0, []), (.iadd, 0, 0, []), (.istore 2, 0, 0, []), (.iinc 3 1, 0, 0, []), (.goto 0, 17, 0, [])] (pc1 := 17) (ls1 := [some (vm_r 96), some (vm_i v1), some (vm_i (v2 + (((z2 * (m2 100 5)) + (m2 96 19)) + 1))), some (vm_i (v3 + 1))]) (st1 := []) (m1 := m2) (ob := (((true && decide (vm_32 (((z2 * (m2 100 5)) + (m2 96 19)) + 1))) && decide (vm_32 (v2 + (((z2 * (m2 100 5)) + (m2 96 19)) + 1)))) && decide (vm_32 (v3 + 1)))) (by decide +kernel) rfl (vm_t (vm_t (vm_t rfl o7_0) o7_1) o7_2) ?_
      exact h
abbrev ku11_laysWord_0 (v1 : Int) (v2 : Int) (m : vm_M) (Q : vm_M → Prop) : Prop := vm_G 195 0 [some (vm_r 96), some (vm_i v1), some (vm_i v2), none, none, none] [] m (vm_qv Q)
abbrev ku11_laysWord_5 (v1 : Int) (v2 : Int) (v3 : Int) (v4 : Int) (w5 : Option vm_V) (m : vm_M) (Q : vm_M → Prop) : Prop := vm_G 195 5 [some (vm_r 96), some (vm_i v1), some (vm_i v2), some (vm_i v3), some (vm_i v4), w5] [] m (vm_qv Q)
set_option maxRecDepth 20000 in
theorem ru11_laysWord_0 {v1 : Int} {v2 : Int} {m : vm_M} {Q : vm_M → Prop}  (h :
    ku11_laysWord_5 v1 v2 v2 0 none m Q) : vm_C 195 [vm_r 96, vm_i v1, vm_i v2] m (vm_qv Q) := by
  show vm_G 195 0 [some (vm_r 96), some (vm_i v1), some (vm_i v2), none, none, none] [] m (vm_qv Q)
  refine vm_gp [(.iload 2, 0, 0, []), (.istore 3, 0, 0, []), (.iconst 0, 0, 0, []), (.istore 4, 0, 0, [])] (pc1 := 5) (ls1 := [some (vm_r 96), some (vm_i v1), some (vm_i v2), some (vm_i v2), some (vm_i 0), none]) (st1 := []) (m1 := m) (ob := true) (by decide +kernel) rfl rfl ?_
  exact h
set_option maxRecDepth 20000 in
theorem ru11_laysWord_5 {v1 : Int} {v2 : Int} {v3 : Int} {v4 : Int} {w5 : Option vm_V} {m : vm_M} {Q : vm_M → Prop}  (h :
    (vm_C 167 [vm_r 96, vm_i v1] m (vm_qi (fun z1 m1 =>
      ((z1 ≤ v4 →
        Q m1) ∧ (¬ z1 ≤ v4 →
        (vm_C 168 [vm_r 96, vm_i v1, vm_i v4] m1 (vm_qi (fun z2 m2 =>
          ((0 ≤ (m2 96 22) ∧ (m2 96 22) < 360) ∧ (0 ≤ ((vm_st m2 108 (m2 96 22) z2) 96 22) ∧ ((vm_st m2 108 (m2 96 22) z2) 96 22) < 360) ∧ (vm_32 (v4 + 1))) ∧
          (vm_C 167 [vm_r 96, vm_i v1] (vm_st (vm_st m2 108 (m2 96 22) z2) 109 ((vm_st m2 108 (m2 96 22) z2) 96 22) v3) (vm_qi (fun z3 m3 =>
            ((z3 ≤ (v4 + 1) →
              ((0 ≤ ((vm_st (vm_st m2 108 (m2 96 22) z2) 109 ((vm_st m2 108 (m2 96 22) z2) 96 22) v3) 96 22) ∧ ((vm_st (vm_st m2 108 (m2 96 22) z2) 109 ((vm_st m2 108 (m2 96 22) z2) 96 22) v3) 96 22) < 360) ∧ (0 ≤ z2 ∧ z2 < 26) ∧ (0 ≤ ((vm_st m3 110 ((vm_st (vm_st m2 108 (m2 96 22) z2) 109 ((vm_st m2 108 (m2 96 22) z2) 96 22) v3) 96 22) 1000) 96 22) ∧ ((vm_st m3 110 ((vm_st (vm_st m2 108 (m2 96 22) z2) 109 ((vm_st m2 108 (m2 96 22) z2) 96 22) v3) 96 22) 1000) 96 22) < 360) ∧ (vm_32 (((vm_st m3 110 ((vm_st (vm_st m2 108 (m2 96 22) z2) 109 ((vm_st m2 108 (m2 96 22) z2) 96 22) v3) 96 22) 1000) 98 z2) + ((vm_st m3 110 ((vm_st (vm_st m2 108 (m2 96 22) z2) 109 ((vm_st m2 108 (m2 96 22) z2) 96 22) v3) 96 22) 1000) 110 ((vm_st m3 110 ((vm_st (vm_st m2 108 (m2 96 22) z2) 109 ((vm_st m2 108 (m2 96 22) z2) 96 22) v3) 96 22) 1000) 96 22)))) ∧ (vm_32 ((((vm_st m3 110 ((vm_st (vm_st m2 108 (m2 96 22) z2) 109 ((vm_st m2 108 (m2 96 22) z2) 96 22) v3) 96 22) 1000) 98 z2) + ((vm_st m3 110 ((vm_st (vm_st m2 108 (m2 96 22) z2) 109 ((vm_st m2 108 (m2 96 22) z2) 96 22) v3) 96 22) 1000) 110 ((vm_st m3 110 ((vm_st (vm_st m2 108 (m2 96 22) z2) 109 ((vm_st m2 108 (m2 96 22) z2) 96 22) v3) 96 22) 1000) 96 22))) * ((vm_st m3 110 ((vm_st (vm_st m2 108 (m2 96 22) z2) 109 ((vm_st m2 108 (m2 96 22) z2) 96 22) v3) 96 22) 1000) 100 5))) ∧ (vm_32 (v3 + ((((vm_st m3 110 ((vm_st (vm_st m2 108 (m2 96 22) z2) 109 ((vm_st m2 108 (m2 96 22) z2) 96 22) v3) 96 22) 1000) 98 z2) + ((vm_st m3 110 ((vm_st (vm_st m2 108 (m2 96 22) z2) 109 ((vm_st m2 108 (m2 96 22) z2) 96 22) v3) 96 22) 1000) 110 ((vm_st m3 110 ((vm_st (vm_st m2 108 (m2 96 22) z2) 109 ((vm_st m2 108 (m2 96 22) z2) 96 22) v3) 96 22) 1000) 96 22))) * ((vm_st m3 110 ((vm_st (vm_st m2 108 (m2 96 22) z2) 109 ((vm_st m2 108 (m2 96 22) z2) 96 22) v3) 96 22) 1000) 100 5)))) ∧ (vm_32 (((vm_st m3 110 ((vm_st (vm_st m2 108 (m2 96 22) z2) 109 ((vm_st m2 108 (m2 96 22) z2) 96 22) v3) 96 22) 1000) 96 22) + 1)) ∧ (vm_32 (v4 + 1))) ∧
              ku11_laysWord_5 v1 v2 (v3 + ((((vm_st m3 110 ((vm_st (vm_st m2 108 (m2 96 22) z2) 109 ((vm_st m2 108 (m2 96 22) z2) 96 22) v3) 96 22) 1000) 98 z2) + ((vm_st m3 110 ((vm_st (vm_st m2 108 (m2 96 22) z2) 109 ((vm_st m2 108 (m2 96 22) z2) 96 22) v3) 96 22) 1000) 110 ((vm_st m3 110 ((vm_st (vm_st m2 108 (m2 96 22) z2) 109 ((vm_st m2 108 (m2 96 22) z2) 96 22) v3) 96 22) 1000) 96 22))) * ((vm_st m3 110 ((vm_st (vm_st m2 108 (m2 96 22) z2) 109 ((vm_st m2 108 (m2 96 22) z2) 96 22) v3) 96 22) 1000) 100 5))) (v4 + 1) (some (vm_i z2)) (vm_st (vm_st m3 110 ((vm_st (vm_st m2 108 (m2 96 22) z2) 109 ((vm_st m2 108 (m2 96 22) z2) 96 22) v3) 96 22) 1000) 96 22 (((vm_st m3 110 ((vm_st (vm_st m2 108 (m2 96 22) z2) 109 ((vm_st m2 108 (m2 96 22) z2) 96 22) v3) 96 22) 1000) 96 22) + 1)) Q) ∧ (¬ z3 ≤ (v4 + 1) →
              ((vm_32 (v4 + 1))) ∧
              (vm_C 168 [vm_r 96, vm_i v1, vm_i (v4 + 1)] m3 (vm_qi (fun z4 m4 =>
                (vm_C 175 [vm_r 96, vm_i z2, vm_i z4, vm_i (m4 96 17)] m4 (vm_qi (fun z5 m5 =>
                  ((0 ≤ ((vm_st (vm_st m2 108 (m2 96 22) z2) 109 ((vm_st m2 108 (m2 96 22) z2) 96 22) v3) 96 22) ∧ ((vm_st (vm_st m2 108 (m2 96 22) z2) 109 ((vm_st m2 108 (m2 96 22) z2) 96 22) v3) 96 22) < 360) ∧ (0 ≤ z2 ∧ z2 < 26) ∧ (0 ≤ ((vm_st m5 110 ((vm_st (vm_st m2 108 (m2 96 22) z2) 109 ((vm_st m2 108 (m2 96 22) z2) 96 22) v3) 96 22) z5) 96 22) ∧ ((vm_st m5 110 ((vm_st (vm_st m2 108 (m2 96 22) z2) 109 ((vm_st m2 108 (m2 96 22) z2) 96 22) v3) 96 22) z5) 96 22) < 360) ∧ (vm_32 (((vm_st m5 110 ((vm_st (vm_st m2 108 (m2 96 22) z2) 109 ((vm_st m2 108 (m2 96 22) z2) 96 22) v3) 96 22) z5) 98 z2) + ((vm_st m5 110 ((vm_st (vm_st m2 108 (m2 96 22) z2) 109 ((vm_st m2 108 (m2 96 22) z2) 96 22) v3) 96 22) z5) 110 ((vm_st m5 110 ((vm_st (vm_st m2 108 (m2 96 22) z2) 109 ((vm_st m2 108 (m2 96 22) z2) 96 22) v3) 96 22) z5) 96 22)))) ∧ (vm_32 ((((vm_st m5 110 ((vm_st (vm_st m2 108 (m2 96 22) z2) 109 ((vm_st m2 108 (m2 96 22) z2) 96 22) v3) 96 22) z5) 98 z2) + ((vm_st m5 110 ((vm_st (vm_st m2 108 (m2 96 22) z2) 109 ((vm_st m2 108 (m2 96 22) z2) 96 22) v3) 96 22) z5) 110 ((vm_st m5 110 ((vm_st (vm_st m2 108 (m2 96 22) z2) 109 ((vm_st m2 108 (m2 96 22) z2) 96 22) v3) 96 22) z5) 96 22))) * ((vm_st m5 110 ((vm_st (vm_st m2 108 (m2 96 22) z2) 109 ((vm_st m2 108 (m2 96 22) z2) 96 22) v3) 96 22) z5) 100 5))) ∧ (vm_32 (v3 + ((((vm_st m5 110 ((vm_st (vm_st m2 108 (m2 96 22) z2) 109 ((vm_st m2 108 (m2 96 22) z2) 96 22) v3) 96 22) z5) 98 z2) + ((vm_st m5 110 ((vm_st (vm_st m2 108 (m2 96 22) z2) 109 ((vm_st m2 108 (m2 96 22) z2) 96 22) v3) 96 22) z5) 110 ((vm_st m5 110 ((vm_st (vm_st m2 108 (m2 96 22) z2) 109 ((vm_st m2 108 (m2 96 22) z2) 96 22) v3) 96 22) z5) 96 22))) * ((vm_st m5 110 ((vm_st (vm_st m2 108 (m2 96 22) z2) 109 ((vm_st m2 108 (m2 96 22) z2) 96 22) v3) 96 22) z5) 100 5)))) ∧ (vm_32 (((vm_st m5 110 ((vm_st (vm_st m2 108 (m2 96 22) z2) 109 ((vm_st m2 108 (m2 96 22) z2) 96 22) v3) 96 22) z5) 96 22) + 1)) ∧ (vm_32 (v4 + 1))) ∧
                  ku11_laysWord_5 v1 v2 (v3 + ((((vm_st m5 110 ((vm_st (vm_st m2 108 (m2 96 22) z2) 109 ((vm_st m2 108 (m2 96 22) z2) 96 22) v3) 96 22) z5) 98 z2) + ((vm_st m5 110 ((vm_st (vm_st m2 108 (m2 96 22) z2) 109 ((vm_st m2 108 (m2 96 22) z2) 96 22) v3) 96 22) z5) 110 ((vm_st m5 110 ((vm_st (vm_st m2 108 (m2 96 22) z2) 109 ((vm_st m2 108 (m2 96 22) z2) 96 22) v3) 96 22) z5) 96 22))) * ((vm_st m5 110 ((vm_st (vm_st m2 108 (m2 96 22) z2) 109 ((vm_st m2 108 (m2 96 22) z2) 96 22) v3) 96 22) z5) 100 5))) (v4 + 1) (some (vm_i z2)) (vm_st (vm_st m5 110 ((vm_st (vm_st m2 108 (m2 96 22) z2) 109 ((vm_st m2 108 (m2 96 22) z2) 96 22) v3) 96 22) z5) 96 22 (((vm_st m5 110 ((vm_st (vm_st m2 108 (m2 96 22) z2) 109 ((vm_st m2 108 (m2 96 22) z2) 96 22) v3) 96 22) z5) 96 22) + 1)) Q)))))))))))))))))))) : ku11_laysWord_5 v1 v2 v3 v4 w5 m Q := by
  show vm_G 195 5 [some (vm_r 96), some (vm_i v1), some (vm_i v2), some (vm_i v3), some (vm_i v4), w5] [] m (vm_qv Q)
  refine vm_gp [(.iload 4, 0, 0, []), (.aload 0, 0, 0, []), (.iload 1, 0, 0, [])] (pc1 := 9) (ls1 := [some (vm_r 96), some (vm_i v1), some (vm_i v2), some (vm_i v3), some (vm_i v4), w5]) (st1 := [vm_i v1, vm_r 96, vm_i v4]) (m1 := m) (ob := true) (by decide +kernel) rfl rfl ?_
  refine vm_gc (g := 167) (na := 2) (av := [vm_r 96, vm_i v1]) (rest := [vm_i v4]) (i := (.invokevirtual 0, 167, 2, [])) (len := 3) (by decide +kernel) rfl rfl rfl (by decide +kernel) (by decide +kernel) rfl rfl (vm_u (vm_okh_v (c := 11) (by decide +kernel) (by decide +kernel)) (show vm_okn 167 2 1 0 0 2 = true by decide +kernel)) ?_
  refine vm_G.mono h ?_
  rintro _ m1 ⟨z1, rfl, h⟩
  show vm_G 195 12 [some (vm_r 96), some (vm_i v1), some (vm_i v2), some (vm_i v3), some (vm_i v4), w5] [vm_i z1, vm_i v4] m1 _
  refine vm_gj (c := z1 ≤ v4) (t := 134) (e := 15) (i := (.if_icmp .ge 0, 134, 0, [])) (len := 3) (st1 := []) (by decide +kernel) rfl rfl (fun c1 => ?_) (fun c1 => ?_)
  · replace h := h.1 c1
    exact vm_gr (r := none) (i := (.return_, 0, 0, [])) (len := 1) (by decide +kernel) rfl rfl rfl ⟨rfl, h⟩
  · replace h := h.2 c1
    refine vm_gp [(.aload 0, 0, 0, []), (.iload 1, 0, 0, []), (.iload 4, 0, 0, [])] (pc1 := 19) (ls1 := [some (vm_r 96), some (vm_i v1), some (vm_i v2), some (vm_i v3), some (vm_i v4), w5]) (st1 := [vm_i v4, vm_i v1, vm_r 96]) (m1 := m1) (ob := true) (by decide +kernel) rfl rfl ?_
    refine vm_gc (g := 168) (na := 3) (av := [vm_r 96, vm_i v1, vm_i v4]) (rest := []) (i := (.invokevirtual 0, 168, 3, [])) (len := 3) (by decide +kernel) rfl rfl rfl (by decide +kernel) (by decide +kernel) rfl rfl (vm_u (vm_okh_v (c := 11) (by decide +kernel) (by decide +kernel)) (show vm_okn 168 3 0 0 0 3 = true by decide +kernel)) ?_
    refine vm_G.mono h ?_
    rintro _ m2 ⟨z2, rfl, h⟩
    show vm_G 195 22 [some (vm_r 96), some (vm_i v1), some (vm_i v2), some (vm_i v3), some (vm_i v4), w5] [vm_i z2] m2 _
    obtain ⟨⟨o5_0, o5_1, o5_2⟩, h⟩ := h
    refine vm_gp [(.istore 5, 0, 0, []), (.aload 0, 0, 0, []), (.getfield 2, 11, 23, [(108, 0)]), (.aload 0, 0, 0, []), (.getfield 0, 11, 22, []), (.iload 5, 0, 0, []), (.iastore, 360, 0, []), (.aload 0, 0, 0, []), (.getfield 2, 11, 24, [(109, 0)]), (.aload 0, 0, 0, []), (.getfield 0, 11, 22, []), (.iload 3, 0, 0, []), (.iastore, 360, 0, []), (.aload 0, 0, 0, []), (.getfield 2, 11, 25, [(110, 0)]), (.aload 0, 0, 0, []), (.getfield 0, 11, 22, []), (.iload 4, 0, 0, []), (.iconst 1, 0, 0, []), (.iadd, 0, 0, []), (.aload 0, 0, 0, []), (.iload 1, 0, 0, [])] (pc1 := 59) (ls1 := [some (vm_r 96), some (vm_i v1), some (vm_i v2), some (vm_i v3), some (vm_i v4), some (vm_i z2)]) (st1 := [vm_i v1, vm_r 96, vm_i (v4 + 1), vm_i ((vm_st (vm_st m2 108 (m2 96 22) z2) 109 ((vm_st m2 108 (m2 96 22) z2) 96 22) v3) 96 22), vm_r 110]) (m1 := (vm_st (vm_st m2 108 (m2 96 22) z2) 109 ((vm_st m2 108 (m2 96 22) z2) 96 22) v3)) (ob := ((((((((((((((true && vm_is 96 11) && true) && vm_is 96 11) && vm_ar 108 100 360) && decide (0 ≤ (m2 96 22) ∧ (m2 96 22) < 360)) && vm_is 96 11) && true) && vm_is 96 11) && vm_ar 109 100 360) && decide (0 ≤ ((vm_st m2 108 (m2 96 22) z2) 96 22) ∧ ((vm_st m2 108 (m2 96 22) z2) 96 22) < 360)) && vm_is 96 11) && true) && vm_is 96 11) && decide (vm_32 (v4 + 1)))) (by decide +kernel) rfl (vm_t (vm_u (vm_u (vm_u (vm_t (vm_u (vm_u (vm_u (vm_u (vm_t (vm_u (vm_u (vm_u (vm_u rfl (by decide +kernel)) rfl) (by decide +kernel)) (by decide +kernel)) o5_0) (by decide +kernel)) rfl) (by decide +kernel)) (by decide +kernel)) o5_1) (by decide +kernel)) rfl) (by decide +kernel)) o5_2) ?_
    refine vm_gc (g := 167) (na := 2) (av := [vm_r 96, vm_i v1]) (rest := [vm_i (v4 + 1), vm_i ((vm_st (vm_st m2 108 (m2 96 22) z2) 109 ((vm_st m2 108 (m2 96 22) z2) 96 22) v3) 96 22), vm_r 110]) (i := (.invokevirtual 0, 167, 2, [])) (len := 3) (by decide +kernel) rfl rfl rfl (by decide +kernel) (by decide +kernel) rfl rfl (vm_u (vm_okh_v (c := 11) (by decide +kernel) (by decide +kernel)) (show vm_okn 167 2 3 0 0 2 = true by decide +kernel)) ?_
    refine vm_G.mono h ?_
    rintro _ m3 ⟨z3, rfl, h⟩
    show vm_G 195 62 [some (vm_r 96), some (vm_i v1), some (vm_i v2), some (vm_i v3), some (vm_i v4), some (vm_i z2)] [vm_i z3, vm_i (v4 + 1), vm_i ((vm_st (vm_st m2 108 (m2 96 22) z2) 109 ((vm_st m2 108 (m2 96 22) z2) 96 22) v3) 96 22), vm_r 110] m3 _
    refine vm_gj (c := z3 ≤ (v4 + 1)) (t := 87) (e := 65) (i := (.if_icmp .ge 0, 87, 0, [])) (len := 3) (st1 := [vm_i ((vm_st (vm_st m2 108 (m2 96 22) z2) 109 ((vm_st m2 108 (m2 96 22) z2) 96 22) v3) 96 22), vm_r 110]) (by decide +kernel) rfl rfl (fun c2 => ?_) (fun c2 => ?_)
    · replace h := h.1 c2
      obtain ⟨⟨o7_0, o7_1, o7_2, o7_3, o7_4, o7_5, o7_6, o7_7⟩, h⟩ := h
      refine vm_gp [(.iconst 1000, 0, 0, []), (.iastore, 360, 0, []), (.iload 3, 0, 0, []), (.aload 0, 0, 0, []), (.getfield 2, 11, 5, [(98, 0)]), (.iload 5, 0, 0, []), (.iaload, 26, 0, []), (.aload 0, 0, 0, []), (.getfield 2, 11, 25, [(110, 0)]), (.aload 0, 0, 0, []), (.getfield 0, 11, 22, []), (.iaload, 360, 0, []), (.iadd, 0, 0, []), (.aload 0, 0, 0, []), (.getfield 2, 11, 7, [(100, 0)]), (.iconst 5, 0, 0, []), (.iaload, 1075, 0, []), (.imul, 0, 0, []), (.iadd, 0, 0, []), (.istore 3, 0, 0, []), (.aload 0, 0, 0, []), (.dup, 0, 0, []), (.getfield 0, 11, 22, []), (.iconst 1, 0, 0, []), (.iadd, 0, 0, []), (.putfield 0, 11, 22, []), (.iinc 4 1, 0, 0, []), (.goto 0, 5, 0, [])] (pc1 := 5) (ls1 := [some (vm_r 96), some (vm_i v1), some (vm_i v2), some (vm_i (v3 + ((((vm_st m3 110 ((vm_st (vm_st m2 108 (m2 96 22) z2) 109 ((vm_st m2 108 (m2 96 22) z2) 96 22) v3) 96 22) 1000) 98 z2) + ((vm_st m3 110 ((vm_st (vm_st m2 108 (m2 96 22) z2) 109 ((vm_st m2 108 (m2 96 22) z2) 96 22) v3) 96 22) 1000) 110 ((vm_st m3 110 ((vm_st (vm_st m2 108 (m2 96 22) z2) 109 ((vm_st m2 108 (m2 96 22) z2) 96 22) v3) 96 22) 1000) 96 22))) * ((vm_st m3 110 ((vm_st (vm_st m2 108 (m2 96 22) z2) 109 ((vm_st m2 108 (m2 96 22) z2) 96 22) v3) 96 22) 1000) 100 5)))), some (vm_i (v4 + 1)), some (vm_i z2)]) (st1 := []) (m1 := (vm_st (vm_st m3 110 ((vm_st (vm_st m2 108 (m2 96 22) z2) 109 ((vm_st m2 108 (m2 96 22) z2) 96 22) v3) 96 22) 1000) 96 22 (((vm_st m3 110 ((vm_st (vm_st m2 108 (m2 96 22) z2) 109 ((vm_st m2 108 (m2 96 22) z2) 96 22) v3) 96 22) 1000) 96 22) + 1))) (ob := ((((((((((((((((((((((true && vm_ar 110 100 360) && decide (0 ≤ ((vm_st (vm_st m2 108 (m2 96 22) z2) 109 ((vm_st m2 108 (m2 96 22) z2) 96 22) v3) 96 22) ∧ ((vm_st (vm_st m2 108 (m2 96 22) z2) 109 ((vm_st m2 108 (m2 96 22) z2) 96 22) v3) 96 22) < 360)) && vm_is 96 11) && true) && vm_ar 98 100 26) && decide (0 ≤ z2 ∧ z2 < 26)) && vm_is 96 11) && true) && vm_is 96 11) && vm_ar 110 100 360) && decide (0 ≤ ((vm_st m3 110 ((vm_st (vm_st m2 108 (m2 96 22) z2) 109 ((vm_st m2 108 (m2 96 22) z2) 96 22) v3) 96 22) 1000) 96 22) ∧ ((vm_st m3 110 ((vm_st (vm_st m2 108 (m2 96 22) z2) 109 ((vm_st m2 108 (m2 96 22) z2) 96 22) v3) 96 22) 1000) 96 22) < 360)) && decide (vm_32 (((vm_st m3 110 ((vm_st (vm_st m2 108 (m2 96 22) z2) 109 ((vm_st m2 108 (m2 96 22) z2) 96 22) v3) 96 22) 1000) 98 z2) + ((vm_st m3 110 ((vm_st (vm_st m2 108 (m2 96 22) z2) 109 ((vm_st m2 108 (m2 96 22) z2) 96 22) v3) 96 22) 1000) 110 ((vm_st m3 110 ((vm_st (vm_st m2 108 (m2 96 22) z2) 109 ((vm_st m2 108 (m2 96 22) z2) 96 22) v3) 96 22) 1000) 96 22))))) && vm_is 96 11) && true) && vm_ar 100 100 1075) && decide ((0 : Int) ≤ 5 ∧ (5 : Int) < 1075)) && decide (vm_32 ((((vm_st m3 110 ((vm_st (vm_st m2 108 (m2 96 22) z2) 109 ((vm_st m2 108 (m2 96 22) z2) 96 22) v3) 96 22) 1000) 98 z2) + ((vm_st m3 110 ((vm_st (vm_st m2 108 (m2 96 22) z2) 109 ((vm_st m2 108 (m2 96 22) z2) 96 22) v3) 96 22) 1000) 110 ((vm_st m3 110 ((vm_st (vm_st m2 108 (m2 96 22) z2) 109 ((vm_st m2 108 (m2 96 22) z2) 96 22) v3) 96 22) 1000) 96 22))) * ((vm_st m3 110 ((vm_st (vm_st m2 108 (m2 96 22) z2) 109 ((vm_st m2 108 (m2 96 22) z2) 96 22) v3) 96 22) 1000) 100 5)))) && decide (vm_32 (v3 + ((((vm_st m3 110 ((vm_st (vm_st m2 108 (m2 96 22) z2) 109 ((vm_st m2 108 (m2 96 22) z2) 96 22) v3) 96 22) 1000) 98 z2) + ((vm_st m3 110 ((vm_st (vm_st m2 108 (m2 96 22) z2) 109 ((vm_st m2 108 (m2 96 22) z2) 96 22) v3) 96 22) 1000) 110 ((vm_st m3 110 ((vm_st (vm_st m2 108 (m2 96 22) z2) 109 ((vm_st m2 108 (m2 96 22) z2) 96 22) v3) 96 22) 1000) 96 22))) * ((vm_st m3 110 ((vm_st (vm_st m2 108 (m2 96 22) z2) 109 ((vm_st m2 108 (m2 96 22) z2) 96 22) v3) 96 22) 1000) 100 5))))) && vm_is 96 11) && decide (vm_32 (((vm_st m3 110 ((vm_st (vm_st m2 108 (m2 96 22) z2) 109 ((vm_st m2 108 (m2 96 22) z2) 96 22) v3) 96 22) 1000) 96 22) + 1))) && vm_is 96 11) && decide (vm_32 (v4 + 1)))) (by decide +kernel) rfl (vm_t (vm_u (vm_t (vm_u (vm_t (vm_t (vm_t (vm_u (vm_u (vm_u (vm_t (vm_t (vm_u (vm_u (vm_u (vm_u (vm_t (vm_u (vm_u (vm_u (vm_t (vm_u rfl (by decide +kernel)) o7_0) (by decide +kernel)) rfl) (by decide +kernel)) o7_1) (by decide +kernel)) rfl) (by decide +kernel)) (by decide +kernel)) o7_2) o7_3) (by decide +kernel)) rfl) (by decide +kernel)) (by decide)) o7_4) o7_5) (by decide +kernel)) o7_6) (by decide +kernel)) o7_7) ?_
      exact h
    · replace h := h.2 c2
      obtain ⟨o8_0, h⟩ := h
      refine vm_gp [(.aload 0, 0, 0, []), (.iload 5, 0, 0, []), (.aload 0, 0, 0, []), (.iload 1, 0, 0, []), (.iload 4, 0, 0, []), (.iconst 1, 0, 0, []), (.iadd, 0, 0, [])] (pc1 := 74) (ls1 := [some (vm_r 96), some (vm_i v1), some (vm_i v2), some (vm_i v3), some (vm_i v4), some (vm_i z2)]) (st1 := [vm_i (v4 + 1), vm_i v1, vm_r 96, vm_i z2, vm_r 96, vm_i ((vm_st (vm_st m2 108 (m2 96 22) z2) 109 ((vm_st m2 108 (m2 96 22) z2) 96 22) v3) 96 22), vm_r 110]) (m1 := m3) (ob := (true && decide (vm_32 (v4 + 1)))) (by decide +kernel) rfl (vm_t rfl o8_0) ?_
      refine vm_gc (g := 168) (na := 3) (av := [vm_r 96, vm_i v1, vm_i (v4 + 1)]) (rest := [vm_i z2, vm_r 96, vm_i ((vm_st (vm_st m2 108 (m2 96 22) z2) 109 ((vm_st m2 108 (m2 96 22) z2) 96 22) v3) 96 22), vm_r 110]) (i := (.invokevirtual 0, 168, 3, [])) (len := 3) (by decide +kernel) rfl rfl rfl (by decide +kernel) (by decide +kernel) rfl rfl (vm_u (vm_okh_v (c := 11) (by decide +kernel) (by decide +kernel)) (show vm_okn 168 3 4 0 0 3 = true by decide +kernel)) ?_
      refine vm_G.mono h ?_
      rintro _ m4 ⟨z4, rfl, h⟩
      show vm_G 195 77 [some (vm_r 96), some (vm_i v1), some (vm_i v2), some (vm_i v3), some (vm_i v4), some (vm_i z2)] [vm_i z4, vm_i z2, vm_r 96, vm_i ((vm_st (vm_st m2 108 (m2 96 22) z2) 109 ((vm_st m2 108 (m2 96 22) z2) 96 22) v3) 96 22), vm_r 110] m4 _
      refine vm_gp [(.aload 0, 0, 0, []), (.getfield 0, 11, 17, [])] (pc1 := 81) (ls1 := [some (vm_r 96), some (vm_i v1), some (vm_i v2), some (vm_i v3), some (vm_i v4), some (vm_i z2)]) (st1 := [vm_i (m4 96 17), vm_i z4, vm_i z2, vm_r 96, vm_i ((vm_st (vm_st m2 108 (m2 96 22) z2) 109 ((vm_st m2 108 (m2 96 22) z2) 96 22) v3) 96 22), vm_r 110]) (m1 := m4) (ob := (true && vm_is 96 11)) (by decide +kernel) rfl (vm_u rfl (by decide +kernel)) ?_
      refine vm_gc (g := 175) (na := 4) (av := [vm_r 96, vm_i z2, vm_i z4, vm_i (m4 96 17)]) (rest := [vm_i ((vm_st (vm_st m2 108 (m2 96 22) z2) 109 ((vm_st m2 108 (m2 96 22) z2) 96 22) v3) 96 22), vm_r 110]) (i := (.invokevirtual 0, 175, 4, [])) (len := 3) (by decide +kernel) rfl rfl rfl (by decide +kernel) (by decide +kernel) rfl rfl (vm_u (vm_okh_v (c := 11) (by decide +kernel) (by decide +kernel)) (show vm_okn 175 4 2 0 0 4 = true by decide +kernel)) ?_
      refine vm_G.mono h ?_
      rintro _ m5 ⟨z5, rfl, h⟩
      show vm_G 195 84 [some (vm_r 96), some (vm_i v1), some (vm_i v2), some (vm_i v3), some (vm_i v4), some (vm_i z2)] [vm_i z5, vm_i ((vm_st (vm_st m2 108 (m2 96 22) z2) 109 ((vm_st m2 108 (m2 96 22) z2) 96 22) v3) 96 22), vm_r 110] m5 _
      obtain ⟨⟨o10_0, o10_1, o10_2, o10_3, o10_4, o10_5, o10_6, o10_7⟩, h⟩ := h
      refine vm_gp [(.goto 0, 90, 0, []), (.iastore, 360, 0, []), (.iload 3, 0, 0, []), (.aload 0, 0, 0, []), (.getfield 2, 11, 5, [(98, 0)]), (.iload 5, 0, 0, []), (.iaload, 26, 0, []), (.aload 0, 0, 0, []), (.getfield 2, 11, 25, [(110, 0)]), (.aload 0, 0, 0, []), (.getfield 0, 11, 22, []), (.iaload, 360, 0, []), (.iadd, 0, 0, []), (.aload 0, 0, 0, []), (.getfield 2, 11, 7, [(100, 0)]), (.iconst 5, 0, 0, []), (.iaload, 1075, 0, []), (.imul, 0, 0, []), (.iadd, 0, 0, []), (.istore 3, 0, 0, []), (.aload 0, 0, 0, []), (.dup, 0, 0, []), (.getfield 0, 11, 22, []), (.iconst 1, 0, 0, []), (.iadd, 0, 0, []), (.putfield 0, 11, 22, []), (.iinc 4 1, 0, 0, []), (.goto 0, 5, 0, [])] (pc1 := 5) (ls1 := [some (vm_r 96), some (vm_i v1), some (vm_i v2), some (vm_i (v3 + ((((vm_st m5 110 ((vm_st (vm_st m2 108 (m2 96 22) z2) 109 ((vm_st m2 108 (m2 96 22) z2) 96 22) v3) 96 22) z5) 98 z2) + ((vm_st m5 110 ((vm_st (vm_st m2 108 (m2 96 22) z2) 109 ((vm_st m2 108 (m2 96 22) z2) 96 22) v3) 96 22) z5) 110 ((vm_st m5 110 ((vm_st (vm_st m2 108 (m2 96 22) z2) 109 ((vm_st m2 108 (m2 96 22) z2) 96 22) v3) 96 22) z5) 96 22))) * ((vm_st m5 110 ((vm_st (vm_st m2 108 (m2 96 22) z2) 109 ((vm_st m2 108 (m2 96 22) z2) 96 22) v3) 96 22) z5) 100 5)))), some (vm_i (v4 + 1)), some (vm_i z2)]) (st1 := []) (m1 := (vm_st (vm_st m5 110 ((vm_st (vm_st m2 108 (m2 96 22) z2) 109 ((vm_st m2 108 (m2 96 22) z2) 96 22) v3) 96 22) z5) 96 22 (((vm_st m5 110 ((vm_st (vm_st m2 108 (m2 96 22) z2) 109 ((vm_st m2 108 (m2 96 22) z2) 96 22) v3) 96 22) z5) 96 22) + 1))) (ob := ((((((((((((((((((((((true && vm_ar 110 100 360) && decide (0 ≤ ((vm_st (vm_st m2 108 (m2 96 22) z2) 109 ((vm_st m2 108 (m2 96 22) z2) 96 22) v3) 96 22) ∧ ((vm_st (vm_st m2 108 (m2 96 22) z2) 109 ((vm_st m2 108 (m2 96 22) z2) 96 22) v3) 96 22) < 360)) && vm_is 96 11) && true) && vm_ar 98 100 26) && decide (0 ≤ z2 ∧ z2 < 26)) && vm_is 96 11) && true) && vm_is 96 11) && vm_ar 110 100 360) && decide (0 ≤ ((vm_st m5 110 ((vm_st (vm_st m2 108 (m2 96 22) z2) 109 ((vm_st m2 108 (m2 96 22) z2) 96 22) v3) 96 22) z5) 96 22) ∧ ((vm_st m5 110 ((vm_st (vm_st m2 108 (m2 96 22) z2) 109 ((vm_st m2 108 (m2 96 22) z2) 96 22) v3) 96 22) z5) 96 22) < 360)) && decide (vm_32 (((vm_st m5 110 ((vm_st (vm_st m2 108 (m2 96 22) z2) 109 ((vm_st m2 108 (m2 96 22) z2) 96 22) v3) 96 22) z5) 98 z2) + ((vm_st m5 110 ((vm_st (vm_st m2 108 (m2 96 22) z2) 109 ((vm_st m2 108 (m2 96 22) z2) 96 22) v3) 96 22) z5) 110 ((vm_st m5 110 ((vm_st (vm_st m2 108 (m2 96 22) z2) 109 ((vm_st m2 108 (m2 96 22) z2) 96 22) v3) 96 22) z5) 96 22))))) && vm_is 96 11) && true) && vm_ar 100 100 1075) && decide ((0 : Int) ≤ 5 ∧ (5 : Int) < 1075)) && decide (vm_32 ((((vm_st m5 110 ((vm_st (vm_st m2 108 (m2 96 22) z2) 109 ((vm_st m2 108 (m2 96 22) z2) 96 22) v3) 96 22) z5) 98 z2) + ((vm_st m5 110 ((vm_st (vm_st m2 108 (m2 96 22) z2) 109 ((vm_st m2 108 (m2 96 22) z2) 96 22) v3) 96 22) z5) 110 ((vm_st m5 110 ((vm_st (vm_st m2 108 (m2 96 22) z2) 109 ((vm_st m2 108 (m2 96 22) z2) 96 22) v3) 96 22) z5) 96 22))) * ((vm_st m5 110 ((vm_st (vm_st m2 108 (m2 96 22) z2) 109 ((vm_st m2 108 (m2 96 22) z2) 96 22) v3) 96 22) z5) 100 5)))) && decide (vm_32 (v3 + ((((vm_st m5 110 ((vm_st (vm_st m2 108 (m2 96 22) z2) 109 ((vm_st m2 108 (m2 96 22) z2) 96 22) v3) 96 22) z5) 98 z2) + ((vm_st m5 110 ((vm_st (vm_st m2 108 (m2 96 22) z2) 109 ((vm_st m2 108 (m2 96 22) z2) 96 22) v3) 96 22) z5) 110 ((vm_st m5 110 ((vm_st (vm_st m2 108 (m2 96 22) z2) 109 ((vm_st m2 108 (m2 96 22) z2) 96 22) v3) 96 22) z5) 96 22))) * ((vm_st m5 110 ((vm_st (vm_st m2 108 (m2 96 22) z2) 109 ((vm_st m2 108 (m2 96 22) z2) 96 22) v3) 96 22) z5) 100 5))))) && vm_is 96 11) && decide (vm_32 (((vm_st m5 110 ((vm_st (vm_st m2 108 (m2 96 22) z2) 109 ((vm_st m2 108 (m2 96 22) z2) 96 22) v3) 96 22) z5) 96 22) + 1))) && vm_is 96 11) && decide (vm_32 (v4 + 1)))) (by decide +kernel) rfl (vm_t (vm_u (vm_t (vm_u (vm_t (vm_t (vm_t (vm_u (vm_u (vm_u (vm_t (vm_t (vm_u (vm_u (vm_u (vm_u (vm_t (vm_u (vm_u (vm_u (vm_t (vm_u rfl (by decide +kernel)) o10_0) (by decide +kernel)) rfl) (by decide +kernel)) o10_1) (by decide +kernel)) rfl) (by decide +kernel)) (by decide +kernel)) o10_2) o10_3) (by decide +kernel)) rfl) (by decide +kernel)) (by decide)) o10_4) o10_5) (by decide +kernel)) o10_6) (by decide +kernel)) o10_7) ?_
      exact h
abbrev ku11_laysRowAt_0 (v1 : Int) (m : vm_M) (Q : Int → vm_M → Prop) : Prop := vm_G 196 0 [some (vm_r 96), some (vm_i v1)] [] m (vm_qi Q)
set_option maxRecDepth 20000 in
theorem ru11_laysRowAt_0 {v1 : Int} {m : vm_M} {Q : Int → vm_M → Prop}  (h :
    (vm_C 186 [vm_r 96] m (vm_qv (fun m1 =>
      ((vm_32 ((m1 96 14) - 1))) ∧
      (vm_C 164 [vm_l v1, vm_l 0, vm_l ((m1 96 14) - 1)] m1 (vm_qi (fun z2 m2 =>
        ((¬ z2 = 0 →
          (vm_C 193 [vm_r 96, vm_i v1] m2 (vm_qv (fun m3 =>
            Q 1 m3)))) ∧ (¬ ¬ z2 = 0 →
          Q 0 m2))))))))) : vm_C 196 [vm_r 96, vm_i v1] m (vm_qi Q) := by
  show vm_G 196 0 [some (vm_r 96), some (vm_i v1)] [] m (vm_qi Q)
  refine vm_gp [(.aload 0, 0, 0, [])] (pc1 := 1) (ls1 := [some (vm_r 96), some (vm_i v1)]) (st1 := [vm_r 96]) (m1 := m) (ob := true) (by decide +kernel) rfl rfl ?_
  refine vm_gc (g := 186) (na := 1) (av := [vm_r 96]) (rest := []) (i := (.invokevirtual 0, 186, 1, [])) (len := 3) (by decide +kernel) rfl rfl rfl (by decide +kernel) (by decide +kernel) rfl rfl (vm_u (vm_okh_v (c := 11) (by decide +kernel) (by decide +kernel)) (show vm_okn 186 1 0 0 0 1 = true by decide +kernel)) ?_
  refine vm_G.mono h ?_
  rintro _ m1 ⟨rfl, h⟩
  show vm_G 196 4 [some (vm_r 96), some (vm_i v1)] [] m1 _
  obtain ⟨o2_0, h⟩ := h
  refine vm_gp [(.iload 1, 0, 0, []), (.i2l, 0, 0, []), (.ldc2_w 0, 0, 0, [(0, 0)]), (.aload 0, 0, 0, []), (.getfield 0, 11, 14, []), (.iconst 1, 0, 0, []), (.isub, 0, 0, []), (.i2l, 0, 0, [])] (pc1 := 14) (ls1 := [some (vm_r 96), some (vm_i v1)]) (st1 := [vm_l ((m1 96 14) - 1), vm_l 0, vm_l v1]) (m1 := m1) (ob := ((true && vm_is 96 11) && decide (vm_32 ((m1 96 14) - 1)))) (by decide +kernel) rfl (vm_t (vm_u rfl (by decide +kernel)) o2_0) ?_
  refine vm_gc (g := 164) (na := 3) (av := [vm_l v1, vm_l 0, vm_l ((m1 96 14) - 1)]) (rest := []) (i := (.invokestatic 0, 164, 3, [])) (len := 3) (by decide +kernel) rfl rfl rfl (by decide +kernel) (by decide +kernel) rfl rfl (vm_u (vm_okh_s (by decide +kernel)) (show vm_okn 164 3 0 0 0 6 = true by decide +kernel)) ?_
  refine vm_G.mono h ?_
  rintro _ m2 ⟨z2, rfl, h⟩
  show vm_G 196 17 [some (vm_r 96), some (vm_i v1)] [vm_i z2] m2 _
  refine vm_gj (c := ¬ z2 = 0) (t := 22) (e := 20) (i := (.ifCond .ne 0, 22, 0, [])) (len := 3) (st1 := []) (by decide +kernel) rfl rfl (fun c1 => ?_) (fun c1 => ?_)
  · replace h := h.1 c1
    refine vm_gp [(.aload 0, 0, 0, []), (.iload 1, 0, 0, [])] (pc1 := 24) (ls1 := [some (vm_r 96), some (vm_i v1)]) (st1 := [vm_i v1, vm_r 96]) (m1 := m2) (ob := true) (by decide +kernel) rfl rfl ?_
    refine vm_gc (g := 193) (na := 2) (av := [vm_r 96, vm_i v1]) (rest := []) (i := (.invokevirtual 0, 193, 2, [])) (len := 3) (by decide +kernel) rfl rfl rfl (by decide +kernel) (by decide +kernel) rfl rfl (vm_u (vm_okh_v (c := 11) (by decide +kernel) (by decide +kernel)) (show vm_okn 193 2 0 0 0 2 = true by decide +kernel)) ?_
    refine vm_G.mono h ?_
    rintro _ m3 ⟨rfl, h⟩
    show vm_G 196 27 [some (vm_r 96), some (vm_i v1)] [] m3 _
    refine vm_gp [(.iconst 1, 0, 0, [])] (pc1 := 28) (ls1 := [some (vm_r 96), some (vm_i v1)]) (st1 := [vm_i 1]) (m1 := m3) (ob := true) (by decide +kernel) rfl rfl ?_
    exact vm_gr (r := some (vm_i 1)) (i := (.ireturn, 2, 0, [])) (len := 1) (by decide +kernel) rfl rfl (by decide) ⟨_, rfl, h⟩
  · replace h := h.2 c1
    refine vm_gp [(.iconst 0, 0, 0, [])] (pc1 := 21) (ls1 := [some (vm_r 96), some (vm_i v1)]) (st1 := [vm_i 0]) (m1 := m2) (ob := true) (by decide +kernel) rfl rfl ?_
    exact vm_gr (r := some (vm_i 0)) (i := (.ireturn, 2, 0, [])) (len := 1) (by decide +kernel) rfl rfl (by decide) ⟨_, rfl, h⟩
abbrev ku11_isByte_0 (v1 : Int) (v2 : Int) (m : vm_M) (Q : Int → vm_M → Prop) : Prop := vm_G 197 0 [some (vm_r 96), some (vm_i v1), some (vm_i v2)] [] m (vm_qi Q)
set_option maxRecDepth 20000 in
theorem ru11_isByte_0 {v1 : Int} {v2 : Int} {m : vm_M} {Q : Int → vm_M → Prop}  (h :
    (((m 96 1) ≤ (m 96 26) →
      Q 0 m) ∧ (¬ (m 96 1) ≤ (m 96 26) →
      ((0 ≤ (m 96 26) ∧ (m 96 26) < 2000)) ∧
      (((m 97 (m 96 26)) < v1 →
        Q 0 m) ∧ (¬ (m 97 (m 96 26)) < v1 →
        ((0 ≤ (m 96 26) ∧ (m 96 26) < 2000)) ∧
        ((v2 < (m 97 (m 96 26)) →
          Q 0 m) ∧ (¬ v2 < (m 97 (m 96 26)) →
          Q 1 m))))))) : vm_C 197 [vm_r 96, vm_i v1, vm_i v2] m (vm_qi Q) := by
  show vm_G 197 0 [some (vm_r 96), some (vm_i v1), some (vm_i v2)] [] m (vm_qi Q)
  refine vm_gp [(.aload 0, 0, 0, []), (.getfield 0, 11, 26, []), (.aload 0, 0, 0, []), (.getfield 0, 11, 1, [])] (pc1 := 8) (ls1 := [some (vm_r 96), some (vm_i v1), some (vm_i v2)]) (st1 := [vm_i (m 96 1), vm_i (m 96 26)]) (m1 := m) (ob := ((true && vm_is 96 11) && vm_is 96 11)) (by decide +kernel) rfl (vm_u (vm_u rfl (by decide +kernel)) (by decide +kernel)) ?_
  refine vm_gj (c := (m 96 1) ≤ (m 96 26)) (t := 41) (e := 11) (i := (.if_icmp .ge 0, 41, 0, [])) (len := 3) (st1 := []) (by decide +kernel) rfl rfl (fun c1 => ?_) (fun c1 => ?_)
  · replace h := h.1 c1
    refine vm_gp [(.iconst 0, 0, 0, [])] (pc1 := 42) (ls1 := [some (vm_r 96), some (vm_i v1), some (vm_i v2)]) (st1 := [vm_i 0]) (m1 := m) (ob := true) (by decide +kernel) rfl rfl ?_
    exact vm_gr (r := some (vm_i 0)) (i := (.ireturn, 2, 0, [])) (len := 1) (by decide +kernel) rfl rfl (by decide) ⟨_, rfl, h⟩
  · replace h := h.2 c1
    obtain ⟨o3_0, h⟩ := h
    refine vm_gp [(.aload 0, 0, 0, []), (.getfield 2, 11, 0, [(97, 0)]), (.aload 0, 0, 0, []), (.getfield 0, 11, 26, []), (.baload, 2000, 101, []), (.iload 1, 0, 0, [])] (pc1 := 21) (ls1 := [some (vm_r 96), some (vm_i v1), some (vm_i v2)]) (st1 := [vm_i v1, vm_i (m 97 (m 96 26))]) (m1 := m) (ob := (((((true && vm_is 96 11) && true) && vm_is 96 11) && vm_ar 97 101 2000) && decide (0 ≤ (m 96 26) ∧ (m 96 26) < 2000))) (by decide +kernel) rfl (vm_t (vm_u (vm_u (vm_u (vm_u rfl (by decide +kernel)) rfl) (by decide +kernel)) (by decide +kernel)) o3_0) ?_
    refine vm_gj (c := (m 97 (m 96 26)) < v1) (t := 41) (e := 24) (i := (.if_icmp .lt 0, 41, 0, [])) (len := 3) (st1 := []) (by decide +kernel) rfl rfl (fun c2 => ?_) (fun c2 => ?_)
    · replace h := h.1 c2
      refine vm_gp [(.iconst 0, 0, 0, [])] (pc1 := 42) (ls1 := [some (vm_r 96), some (vm_i v1), some (vm_i v2)]) (st1 := [vm_i 0]) (m1 := m) (ob := true) (by decide +kernel) rfl rfl ?_
      exact vm_gr (r := some (vm_i 0)) (i := (.ireturn, 2, 0, [])) (len := 1) (by decide +kernel) rfl rfl (by decide) ⟨_, rfl, h⟩
    · replace h := h.2 c2
      obtain ⟨o5_0, h⟩ := h
      refine vm_gp [(.aload 0, 0, 0, []), (.getfield 2, 11, 0, [(97, 0)]), (.aload 0, 0, 0, []), (.getfield 0, 11, 26, []), (.baload, 2000, 101, []), (.iload 2, 0, 0, [])] (pc1 := 34) (ls1 := [some (vm_r 96), some (vm_i v1), some (vm_i v2)]) (st1 := [vm_i v2, vm_i (m 97 (m 96 26))]) (m1 := m) (ob := (((((true && vm_is 96 11) && true) && vm_is 96 11) && vm_ar 97 101 2000) && decide (0 ≤ (m 96 26) ∧ (m 96 26) < 2000))) (by decide +kernel) rfl (vm_t (vm_u (vm_u (vm_u (vm_u rfl (by decide +kernel)) rfl) (by decide +kernel)) (by decide +kernel)) o5_0) ?_
      refine vm_gj (c := v2 < (m 97 (m 96 26))) (t := 41) (e := 37) (i := (.if_icmp .gt 0, 41, 0, [])) (len := 3) (st1 := []) (by decide +kernel) rfl rfl (fun c3 => ?_) (fun c3 => ?_)
      · replace h := h.1 c3
        refine vm_gp [(.iconst 0, 0, 0, [])] (pc1 := 42) (ls1 := [some (vm_r 96), some (vm_i v1), some (vm_i v2)]) (st1 := [vm_i 0]) (m1 := m) (ob := true) (by decide +kernel) rfl rfl ?_
        exact vm_gr (r := some (vm_i 0)) (i := (.ireturn, 2, 0, [])) (len := 1) (by decide +kernel) rfl rfl (by decide) ⟨_, rfl, h⟩
      · replace h := h.2 c3
        refine vm_gp [(.iconst 1, 0, 0, []), (.goto 0, 42, 0, [])] (pc1 := 42) (ls1 := [some (vm_r 96), some (vm_i v1), some (vm_i v2)]) (st1 := [vm_i 1]) (m1 := m) (ob := true) (by decide +kernel) rfl rfl ?_
        exact vm_gr (r := some (vm_i 1)) (i := (.ireturn, 2, 0, [])) (len := 1) (by decide +kernel) rfl rfl (by decide) ⟨_, rfl, h⟩
abbrev ku11_isKey_0 (v0 : Int) (m : vm_M) (Q : Int → vm_M → Prop) : Prop := vm_G 198 0 [some (vm_l v0), none, none] [] m (vm_qi Q)
abbrev ku11_isKey_61 (v0 : Int) (w2 : Option vm_V) (y0 : Int) (m : vm_M) (Q : Int → vm_M → Prop) : Prop := vm_G 198 61 [some (vm_l v0), none, w2] [vm_i y0] m (vm_qi Q)
set_option maxRecDepth 20000 in
theorem ru11_isKey_0 {v0 : Int} {m : vm_M} {Q : Int → vm_M → Prop}  (h :
    (((if v0 < 2590276 then -1 else if v0 = 2590276 then 0 else 1) = 0 →
      ku11_isKey_61 v0 none 1 m Q) ∧ (¬ (if v0 < 2590276 then -1 else if v0 = 2590276 then 0 else 1) = 0 →
      (((if v0 < 398372 then -1 else if v0 = 398372 then 0 else 1) = 0 →
        ku11_isKey_61 v0 none 1 m Q) ∧ (¬ (if v0 < 398372 then -1 else if v0 = 398372 then 0 else 1) = 0 →
        (((if v0 < 3120 then -1 else if v0 = 3120 then 0 else 1) = 0 →
          ku11_isKey_61 v0 none 1 m Q) ∧ (¬ (if v0 < 3120 then -1 else if v0 = 3120 then 0 else 1) = 0 →
          (((if v0 < 7216 then -1 else if v0 = 7216 then 0 else 1) = 0 →
            ku11_isKey_61 v0 none 1 m Q) ∧ (¬ (if v0 < 7216 then -1 else if v0 = 7216 then 0 else 1) = 0 →
            (((if v0 < 769604 then -1 else if v0 = 769604 then 0 else 1) = 0 →
              ku11_isKey_61 v0 none 1 m Q) ∧ (¬ (if v0 < 769604 then -1 else if v0 = 769604 then 0 else 1) = 0 →
              (((if v0 < 632645 then -1 else if v0 = 632645 then 0 else 1) = 0 →
                ku11_isKey_61 v0 none 1 m Q) ∧ (¬ (if v0 < 632645 then -1 else if v0 = 632645 then 0 else 1) = 0 →
                ((¬ (if v0 < 408572082 then -1 else if v0 = 408572082 then 0 else 1) = 0 →
                  ku11_isKey_61 v0 none 0 m Q) ∧ (¬ ¬ (if v0 < 408572082 then -1 else if v0 = 408572082 then 0 else 1) = 0 →
                  ku11_isKey_61 v0 none 1 m Q))))))))))))))) : vm_C 198 [vm_l v0] m (vm_qi Q) := by
  show vm_G 198 0 [some (vm_l v0), none, none] [] m (vm_qi Q)
  refine vm_gp [(.lload 0, 0, 0, []), (.ldc2_w 0, 0, 0, [(2590276, 0)]), (.lcmp, 0, 0, [])] (pc1 := 5) (ls1 := [some (vm_l v0), none, none]) (st1 := [vm_i (if v0 < 2590276 then -1 else if v0 = 2590276 then 0 else 1)]) (m1 := m) (ob := true) (by decide +kernel) rfl rfl ?_
  refine vm_gj (c := (if v0 < 2590276 then -1 else if v0 = 2590276 then 0 else 1) = 0) (t := 56) (e := 8) (i := (.ifCond .eq 0, 56, 0, [])) (len := 3) (st1 := []) (by decide +kernel) rfl rfl (fun c1 => ?_) (fun c1 => ?_)
  · replace h := h.1 c1
    refine vm_gp [(.iconst 1, 0, 0, []), (.goto 0, 61, 0, [])] (pc1 := 61) (ls1 := [some (vm_l v0), none, none]) (st1 := [vm_i 1]) (m1 := m) (ob := true) (by decide +kernel) rfl rfl ?_
    exact h
  · replace h := h.2 c1
    refine vm_gp [(.lload 0, 0, 0, []), (.ldc2_w 0, 0, 0, [(398372, 0)]), (.lcmp, 0, 0, [])] (pc1 := 13) (ls1 := [some (vm_l v0), none, none]) (st1 := [vm_i (if v0 < 398372 then -1 else if v0 = 398372 then 0 else 1)]) (m1 := m) (ob := true) (by decide +kernel) rfl rfl ?_
    refine vm_gj (c := (if v0 < 398372 then -1 else if v0 = 398372 then 0 else 1) = 0) (t := 56) (e := 16) (i := (.ifCond .eq 0, 56, 0, [])) (len := 3) (st1 := []) (by decide +kernel) rfl rfl (fun c2 => ?_) (fun c2 => ?_)
    · replace h := h.1 c2
      refine vm_gp [(.iconst 1, 0, 0, []), (.goto 0, 61, 0, [])] (pc1 := 61) (ls1 := [some (vm_l v0), none, none]) (st1 := [vm_i 1]) (m1 := m) (ob := true) (by decide +kernel) rfl rfl ?_
      exact h
    · replace h := h.2 c2
      refine vm_gp [(.lload 0, 0, 0, []), (.ldc2_w 0, 0, 0, [(3120, 0)]), (.lcmp, 0, 0, [])] (pc1 := 21) (ls1 := [some (vm_l v0), none, none]) (st1 := [vm_i (if v0 < 3120 then -1 else if v0 = 3120 then 0 else 1)]) (m1 := m) (ob := true) (by decide +kernel) rfl rfl ?_
      refine vm_gj (c := (if v0 < 3120 then -1 else if v0 = 3120 then 0 else 1) = 0) (t := 56) (e := 24) (i := (.ifCond .eq 0, 56, 0, [])) (len := 3) (st1 := []) (by decide +kernel) rfl rfl (fun c3 => ?_) (fun c3 => ?_)
      · replace h := h.1 c3
        refine vm_gp [(.iconst 1, 0, 0, []), (.goto 0, 61, 0, [])] (pc1 := 61) (ls1 := [some (vm_l v0), none, none]) (st1 := [vm_i 1]) (m1 := m) (ob := true) (by decide +kernel) rfl rfl ?_
        exact h
      · replace h := h.2 c3
        refine vm_gp [(.lload 0, 0, 0, []), (.ldc2_w 0, 0, 0, [(7216, 0)]), (.lcmp, 0, 0, [])] (pc1 := 29) (ls1 := [some (vm_l v0), none, none]) (st1 := [vm_i (if v0 < 7216 then -1 else if v0 = 7216 then 0 else 1)]) (m1 := m) (ob := true) (by decide +kernel) rfl rfl ?_
        refine vm_gj (c := (if v0 < 7216 then -1 else if v0 = 7216 then 0 else 1) = 0) (t := 56) (e := 32) (i := (.ifCond .eq 0, 56, 0, [])) (len := 3) (st1 := []) (by decide +kernel) rfl rfl (fun c4 => ?_) (fun c4 => ?_)
        · replace h := h.1 c4
          refine vm_gp [(.iconst 1, 0, 0, []), (.goto 0, 61, 0, [])] (pc1 := 61) (ls1 := [some (vm_l v0), none, none]) (st1 := [vm_i 1]) (m1 := m) (ob := true) (by decide +kernel) rfl rfl ?_
          exact h
        · replace h := h.2 c4
          refine vm_gp [(.lload 0, 0, 0, []), (.ldc2_w 0, 0, 0, [(769604, 0)]), (.lcmp, 0, 0, [])] (pc1 := 37) (ls1 := [some (vm_l v0), none, none]) (st1 := [vm_i (if v0 < 769604 then -1 else if v0 = 769604 then 0 else 1)]) (m1 := m) (ob := true) (by decide +kernel) rfl rfl ?_
          refine vm_gj (c := (if v0 < 769604 then -1 else if v0 = 769604 then 0 else 1) = 0) (t := 56) (e := 40) (i := (.ifCond .eq 0, 56, 0, [])) (len := 3) (st1 := []) (by decide +kernel) rfl rfl (fun c5 => ?_) (fun c5 => ?_)
          · replace h := h.1 c5
            refine vm_gp [(.iconst 1, 0, 0, []), (.goto 0, 61, 0, [])] (pc1 := 61) (ls1 := [some (vm_l v0), none, none]) (st1 := [vm_i 1]) (m1 := m) (ob := true) (by decide +kernel) rfl rfl ?_
            exact h
          · replace h := h.2 c5
            refine vm_gp [(.lload 0, 0, 0, []), (.ldc2_w 0, 0, 0, [(632645, 0)]), (.lcmp, 0, 0, [])] (pc1 := 45) (ls1 := [some (vm_l v0), none, none]) (st1 := [vm_i (if v0 < 632645 then -1 else if v0 = 632645 then 0 else 1)]) (m1 := m) (ob := true) (by decide +kernel) rfl rfl ?_
            refine vm_gj (c := (if v0 < 632645 then -1 else if v0 = 632645 then 0 else 1) = 0) (t := 56) (e := 48) (i := (.ifCond .eq 0, 56, 0, [])) (len := 3) (st1 := []) (by decide +kernel) rfl rfl (fun c6 => ?_) (fun c6 => ?_)
            · replace h := h.1 c6
              refine vm_gp [(.iconst 1, 0, 0, []), (.goto 0, 61, 0, [])] (pc1 := 61) (ls1 := [some (vm_l v0), none, none]) (st1 := [vm_i 1]) (m1 := m) (ob := true) (by decide +kernel) rfl rfl ?_
              exact h
            · replace h := h.2 c6
              refine vm_gp [(.lload 0, 0, 0, []), (.ldc2_w 0, 0, 0, [(408572082, 0)]), (.lcmp, 0, 0, [])] (pc1 := 53) (ls1 := [some (vm_l v0), none, none]) (st1 := [vm_i (if v0 < 408572082 then -1 else if v0 = 408572082 then 0 else 1)]) (m1 := m) (ob := true) (by decide +kernel) rfl rfl ?_
              refine vm_gj (c := ¬ (if v0 < 408572082 then -1 else if v0 = 408572082 then 0 else 1) = 0) (t := 60) (e := 56) (i := (.ifCond .ne 0, 60, 0, [])) (len := 3) (st1 := []) (by decide +kernel) rfl rfl (fun c7 => ?_) (fun c7 => ?_)
              · replace h := h.1 c7
                refine vm_gp [(.iconst 0, 0, 0, [])] (pc1 := 61) (ls1 := [some (vm_l v0), none, none]) (st1 := [vm_i 0]) (m1 := m) (ob := true) (by decide +kernel) rfl rfl ?_
                exact h
              · replace h := h.2 c7
                refine vm_gp [(.iconst 1, 0, 0, []), (.goto 0, 61, 0, [])] (pc1 := 61) (ls1 := [some (vm_l v0), none, none]) (st1 := [vm_i 1]) (m1 := m) (ob := true) (by decide +kernel) rfl rfl ?_
                exact h
set_option maxRecDepth 20000 in
theorem ru11_isKey_61 {v0 : Int} {w2 : Option vm_V} {y0 : Int} {m : vm_M} {Q : Int → vm_M → Prop}  (h :
    ((¬ y0 = 0 →
      Q 1 m) ∧ (¬ ¬ y0 = 0 →
      (((if v0 < 763013 then -1 else if v0 = 763013 then 0 else 1) = 0 →
        Q 1 m) ∧ (¬ (if v0 < 763013 then -1 else if v0 = 763013 then 0 else 1) = 0 →
        (((if v0 < 398548 then -1 else if v0 = 398548 then 0 else 1) = 0 →
          Q 1 m) ∧ (¬ (if v0 < 398548 then -1 else if v0 = 398548 then 0 else 1) = 0 →
          (((if v0 < 19176724 then -1 else if v0 = 19176724 then 0 else 1) = 0 →
            Q 1 m) ∧ (¬ (if v0 < 19176724 then -1 else if v0 = 19176724 then 0 else 1) = 0 →
            (((if v0 < 508078 then -1 else if v0 = 508078 then 0 else 1) = 0 →
              Q 1 m) ∧ (¬ (if v0 < 508078 then -1 else if v0 = 508078 then 0 else 1) = 0 →
              (((if v0 < 525618 then -1 else if v0 = 525618 then 0 else 1) = 0 →
                Q 1 m) ∧ (¬ (if v0 < 525618 then -1 else if v0 = 525618 then 0 else 1) = 0 →
                (((if v0 < 113757362 then -1 else if v0 = 113757362 then 0 else 1) = 0 →
                  Q 1 m) ∧ (¬ (if v0 < 113757362 then -1 else if v0 = 113757362 then 0 else 1) = 0 →
                  ((¬ (if v0 < 24416434 then -1 else if v0 = 24416434 then 0 else 1) = 0 →
                    Q 0 m) ∧ (¬ ¬ (if v0 < 24416434 then -1 else if v0 = 24416434 then 0 else 1) = 0 →
                    Q 1 m))))))))))))))))) : ku11_isKey_61 v0 w2 y0 m Q := by
  show vm_G 198 61 [some (vm_l v0), none, w2] [vm_i y0] m (vm_qi Q)
  refine vm_gp [(.istore 2, 0, 0, []), (.iload 2, 0, 0, [])] (pc1 := 63) (ls1 := [some (vm_l v0), none, some (vm_i y0)]) (st1 := [vm_i y0]) (m1 := m) (ob := true) (by decide +kernel) rfl rfl ?_
  refine vm_gj (c := ¬ y0 = 0) (t := 122) (e := 66) (i := (.ifCond .ne 0, 122, 0, [])) (len := 3) (st1 := []) (by decide +kernel) rfl rfl (fun c1 => ?_) (fun c1 => ?_)
  · replace h := h.1 c1
    refine vm_gp [(.iconst 1, 0, 0, []), (.goto 0, 127, 0, [])] (pc1 := 127) (ls1 := [some (vm_l v0), none, some (vm_i y0)]) (st1 := [vm_i 1]) (m1 := m) (ob := true) (by decide +kernel) rfl rfl ?_
    exact vm_gr (r := some (vm_i 1)) (i := (.ireturn, 2, 0, [])) (len := 1) (by decide +kernel) rfl rfl (by decide) ⟨_, rfl, h⟩
  · replace h := h.2 c1
    refine vm_gp [(.lload 0, 0, 0, []), (.ldc2_w 0, 0, 0, [(763013, 0)]), (.lcmp, 0, 0, [])] (pc1 := 71) (ls1 := [some (vm_l v0), none, some (vm_i y0)]) (st1 := [vm_i (if v0 < 763013 then -1 else if v0 = 763013 then 0 else 1)]) (m1 := m) (ob := true) (by decide +kernel) rfl rfl ?_
    refine vm_gj (c := (if v0 < 763013 then -1 else if v0 = 763013 then 0 else 1) = 0) (t := 122) (e := 74) (i := (.ifCond .eq 0, 122, 0, [])) (len := 3) (st1 := []) (by decide +kernel) rfl rfl (fun c2 => ?_) (fun c2 => ?_)
    · replace h := h.1 c2
      refine vm_gp [(.iconst 1, 0, 0, []), (.goto 0, 127, 0, [])] (pc1 := 127) (ls1 := [some (vm_l v0), none, some (vm_i y0)]) (st1 := [vm_i 1]) (m1 := m) (ob := true) (by decide +kernel) rfl rfl ?_
      exact vm_gr (r := some (vm_i 1)) (i := (.ireturn, 2, 0, [])) (len := 1) (by decide +kernel) rfl rfl (by decide) ⟨_, rfl, h⟩
    · replace h := h.2 c2
      refine vm_gp [(.lload 0, 0, 0, []), (.ldc2_w 0, 0, 0, [(398548, 0)]), (.lcmp, 0, 0, [])] (pc1 := 79) (ls1 := [some (vm_l v0), none, some (vm_i y0)]) (st1 := [vm_i (if v0 < 398548 then -1 else if v0 = 398548 then 0 else 1)]) (m1 := m) (ob := true) (by decide +kernel) rfl rfl ?_
      refine vm_gj (c := (if v0 < 398548 then -1 else if v0 = 398548 then 0 else 1) = 0) (t := 122) (e := 82) (i := (.ifCond .eq 0, 122, 0, [])) (len := 3) (st1 := []) (by decide +kernel) rfl rfl (fun c3 => ?_) (fun c3 => ?_)
      · replace h := h.1 c3
        refine vm_gp [(.iconst 1, 0, 0, []), (.goto 0, 127, 0, [])] (pc1 := 127) (ls1 := [some (vm_l v0), none, some (vm_i y0)]) (st1 := [vm_i 1]) (m1 := m) (ob := true) (by decide +kernel) rfl rfl ?_
        exact vm_gr (r := some (vm_i 1)) (i := (.ireturn, 2, 0, [])) (len := 1) (by decide +kernel) rfl rfl (by decide) ⟨_, rfl, h⟩
      · replace h := h.2 c3
        refine vm_gp [(.lload 0, 0, 0, []), (.ldc2_w 0, 0, 0, [(19176724, 0)]), (.lcmp, 0, 0, [])] (pc1 := 87) (ls1 := [some (vm_l v0), none, some (vm_i y0)]) (st1 := [vm_i (if v0 < 19176724 then -1 else if v0 = 19176724 then 0 else 1)]) (m1 := m) (ob := true) (by decide +kernel) rfl rfl ?_
        refine vm_gj (c := (if v0 < 19176724 then -1 else if v0 = 19176724 then 0 else 1) = 0) (t := 122) (e := 90) (i := (.ifCond .eq 0, 122, 0, [])) (len := 3) (st1 := []) (by decide +kernel) rfl rfl (fun c4 => ?_) (fun c4 => ?_)
        · replace h := h.1 c4
          refine vm_gp [(.iconst 1, 0, 0, []), (.goto 0, 127, 0, [])] (pc1 := 127) (ls1 := [some (vm_l v0), none, some (vm_i y0)]) (st1 := [vm_i 1]) (m1 := m) (ob := true) (by decide +kernel) rfl rfl ?_
          exact vm_gr (r := some (vm_i 1)) (i := (.ireturn, 2, 0, [])) (len := 1) (by decide +kernel) rfl rfl (by decide) ⟨_, rfl, h⟩
        · replace h := h.2 c4
          refine vm_gp [(.lload 0, 0, 0, []), (.ldc2_w 0, 0, 0, [(508078, 0)]), (.lcmp, 0, 0, [])] (pc1 := 95) (ls1 := [some (vm_l v0), none, some (vm_i y0)]) (st1 := [vm_i (if v0 < 508078 then -1 else if v0 = 508078 then 0 else 1)]) (m1 := m) (ob := true) (by decide +kernel) rfl rfl ?_
          refine vm_gj (c := (if v0 < 508078 then -1 else if v0 = 508078 then 0 else 1) = 0) (t := 122) (e := 98) (i := (.ifCond .eq 0, 122, 0, [])) (len := 3) (st1 := []) (by decide +kernel) rfl rfl (fun c5 => ?_) (fun c5 => ?_)
          · replace h := h.1 c5
            refine vm_gp [(.iconst 1, 0, 0, []), (.goto 0, 127, 0, [])] (pc1 := 127) (ls1 := [some (vm_l v0), none, some (vm_i y0)]) (st1 := [vm_i 1]) (m1 := m) (ob := true) (by decide +kernel) rfl rfl ?_
            exact vm_gr (r := some (vm_i 1)) (i := (.ireturn, 2, 0, [])) (len := 1) (by decide +kernel) rfl rfl (by decide) ⟨_, rfl, h⟩
          · replace h := h.2 c5
            refine vm_gp [(.lload 0, 0, 0, []), (.ldc2_w 0, 0, 0, [(525618, 0)]), (.lcmp, 0, 0, [])] (pc1 := 103) (ls1 := [some (vm_l v0), none, some (vm_i y0)]) (st1 := [vm_i (if v0 < 525618 then -1 else if v0 = 525618 then 0 else 1)]) (m1 := m) (ob := true) (by decide +kernel) rfl rfl ?_
            refine vm_gj (c := (if v0 < 525618 then -1 else if v0 = 525618 then 0 else 1) = 0) (t := 122) (e := 106) (i := (.ifCond .eq 0, 122, 0, [])) (len := 3) (st1 := []) (by decide +kernel) rfl rfl (fun c6 => ?_) (fun c6 => ?_)
            · replace h := h.1 c6
              refine vm_gp [(.iconst 1, 0, 0, []), (.goto 0, 127, 0, [])] (pc1 := 127) (ls1 := [some (vm_l v0), none, some (vm_i y0)]) (st1 := [vm_i 1]) (m1 := m) (ob := true) (by decide +kernel) rfl rfl ?_
              exact vm_gr (r := some (vm_i 1)) (i := (.ireturn, 2, 0, [])) (len := 1) (by decide +kernel) rfl rfl (by decide) ⟨_, rfl, h⟩
            · replace h := h.2 c6
              refine vm_gp [(.lload 0, 0, 0, []), (.ldc2_w 0, 0, 0, [(113757362, 0)]), (.lcmp, 0, 0, [])] (pc1 := 111) (ls1 := [some (vm_l v0), none, some (vm_i y0)]) (st1 := [vm_i (if v0 < 113757362 then -1 else if v0 = 113757362 then 0 else 1)]) (m1 := m) (ob := true) (by decide +kernel) rfl rfl ?_
              refine vm_gj (c := (if v0 < 113757362 then -1 else if v0 = 113757362 then 0 else 1) = 0) (t := 122) (e := 114) (i := (.ifCond .eq 0, 122, 0, [])) (len := 3) (st1 := []) (by decide +kernel) rfl rfl (fun c7 => ?_) (fun c7 => ?_)
              · replace h := h.1 c7
                refine vm_gp [(.iconst 1, 0, 0, []), (.goto 0, 127, 0, [])] (pc1 := 127) (ls1 := [some (vm_l v0), none, some (vm_i y0)]) (st1 := [vm_i 1]) (m1 := m) (ob := true) (by decide +kernel) rfl rfl ?_
                exact vm_gr (r := some (vm_i 1)) (i := (.ireturn, 2, 0, [])) (len := 1) (by decide +kernel) rfl rfl (by decide) ⟨_, rfl, h⟩
              · replace h := h.2 c7
                refine vm_gp [(.lload 0, 0, 0, []), (.ldc2_w 0, 0, 0, [(24416434, 0)]), (.lcmp, 0, 0, [])] (pc1 := 119) (ls1 := [some (vm_l v0), none, some (vm_i y0)]) (st1 := [vm_i (if v0 < 24416434 then -1 else if v0 = 24416434 then 0 else 1)]) (m1 := m) (ob := true) (by decide +kernel) rfl rfl ?_
                refine vm_gj (c := ¬ (if v0 < 24416434 then -1 else if v0 = 24416434 then 0 else 1) = 0) (t := 126) (e := 122) (i := (.ifCond .ne 0, 126, 0, [])) (len := 3) (st1 := []) (by decide +kernel) rfl rfl (fun c8 => ?_) (fun c8 => ?_)
                · replace h := h.1 c8
                  refine vm_gp [(.iconst 0, 0, 0, [])] (pc1 := 127) (ls1 := [some (vm_l v0), none, some (vm_i y0)]) (st1 := [vm_i 0]) (m1 := m) (ob := true) (by decide +kernel) rfl rfl ?_
                  exact vm_gr (r := some (vm_i 0)) (i := (.ireturn, 2, 0, [])) (len := 1) (by decide +kernel) rfl rfl (by decide) ⟨_, rfl, h⟩
                · replace h := h.2 c8
                  refine vm_gp [(.iconst 1, 0, 0, []), (.goto 0, 127, 0, [])] (pc1 := 127) (ls1 := [some (vm_l v0), none, some (vm_i y0)]) (st1 := [vm_i 1]) (m1 := m) (ob := true) (by decide +kernel) rfl rfl ?_
                  exact vm_gr (r := some (vm_i 1)) (i := (.ireturn, 2, 0, [])) (len := 1) (by decide +kernel) rfl rfl (by decide) ⟨_, rfl, h⟩
abbrev ku11_nextWord_0  (m : vm_M) (Q : vm_M → Prop) : Prop := vm_G 199 0 [some (vm_r 96), none] [] m (vm_qv Q)
abbrev ku11_nextWord_5 (w1 : Option vm_V) (m : vm_M) (Q : vm_M → Prop) : Prop := vm_G 199 5 [some (vm_r 96), w1] [] m (vm_qv Q)
set_option maxRecDepth 20000 in
theorem ru11_nextWord_0  {m : vm_M} {Q : vm_M → Prop}  (h :
    ku11_nextWord_5 none (vm_st m 96 29 0) Q) : vm_C 199 [vm_r 96] m (vm_qv Q) := by
  show vm_G 199 0 [some (vm_r 96), none] [] m (vm_qv Q)
  refine vm_gp [(.aload 0, 0, 0, []), (.ldc2_w 0, 0, 0, [(0, 0)]), (.putfield 1, 11, 29, [])] (pc1 := 5) (ls1 := [some (vm_r 96), none]) (st1 := []) (m1 := (vm_st m 96 29 0)) (ob := (true && vm_is 96 11)) (by decide +kernel) rfl (vm_u rfl (by decide +kernel)) ?_
  exact h
set_option maxRecDepth 20000 in
theorem ru11_nextWord_5 {w1 : Option vm_V} {m : vm_M} {Q : vm_M → Prop}  (h :
    (vm_C 197 [vm_r 96, vm_i 97, vm_i 122] m (vm_qi (fun z1 m1 =>
      ((z1 = 0 →
        ((vm_32 ((m1 96 26) - (m1 96 27)))) ∧
        ((¬ ((m1 96 26) - (m1 96 27)) = 1 →
          ((vm_32 ((m1 96 26) - (m1 96 27)))) ∧
          ((9 ≤ ((m1 96 26) - (m1 96 27)) →
            Q (vm_st m1 96 28 5)) ∧ (¬ 9 ≤ ((m1 96 26) - (m1 96 27)) →
            (vm_C 198 [vm_l (m1 96 29)] m1 (vm_qi (fun z2 m2 =>
              ((z2 = 0 →
                Q (vm_st m2 96 28 5)) ∧ (¬ z2 = 0 →
                Q (vm_st m2 96 28 1))))))))) ∧ (¬ ¬ ((m1 96 26) - (m1 96 27)) = 1 →
          Q (vm_st m1 96 28 2)))) ∧ (¬ z1 = 0 →
        ((vm_32 ((m1 96 26) - (m1 96 27)))) ∧
        ((8 ≤ ((m1 96 26) - (m1 96 27)) →
          ((vm_32 (((vm_st m1 96 29 0) 96 26) + 1))) ∧
          ku11_nextWord_5 (some (vm_i ((m1 96 26) - (m1 96 27)))) (vm_st (vm_st m1 96 29 0) 96 26 (((vm_st m1 96 29 0) 96 26) + 1)) Q) ∧ (¬ 8 ≤ ((m1 96 26) - (m1 96 27)) →
          ((vm_64 (32 * (m1 96 29))) ∧ (0 ≤ (m1 96 26) ∧ (m1 96 26) < 2000) ∧ (vm_64 ((32 * (m1 96 29)) + (m1 97 (m1 96 26)))) ∧ (vm_64 (((32 * (m1 96 29)) + (m1 97 (m1 96 26))) - 96)) ∧ (vm_32 (((vm_st m1 96 29 (((32 * (m1 96 29)) + (m1 97 (m1 96 26))) - 96)) 96 26) + 1))) ∧
          ku11_nextWord_5 (some (vm_i ((m1 96 26) - (m1 96 27)))) (vm_st (vm_st m1 96 29 (((32 * (m1 96 29)) + (m1 97 (m1 96 26))) - 96)) 96 26 (((vm_st m1 96 29 (((32 * (m1 96 29)) + (m1 97 (m1 96 26))) - 96)) 96 26) + 1)) Q)))))))) : ku11_nextWord_5 w1 m Q := by
  show vm_G 199 5 [some (vm_r 96), w1] [] m (vm_qv Q)
  refine vm_gp [(.aload 0, 0, 0, []), (.iconst 97, 0, 0, []), (.iconst 122, 0, 0, [])] (pc1 := 10) (ls1 := [some (vm_r 96), w1]) (st1 := [vm_i 122, vm_i 97, vm_r 96]) (m1 := m) (ob := true) (by decide +kernel) rfl rfl ?_
  refine vm_gc (g := 197) (na := 3) (av := [vm_r 96, vm_i 97, vm_i 122]) (rest := []) (i := (.invokevirtual 0, 197, 3, [])) (len := 3) (by decide +kernel) rfl rfl rfl (by decide +kernel) (by decide +kernel) rfl rfl (vm_u (vm_okh_v (c := 11) (by decide +kernel) (by decide +kernel)) (show vm_okn 197 3 0 0 0 3 = true by decide +kernel)) ?_
  refine vm_G.mono h ?_
  rintro _ m1 ⟨z1, rfl, h⟩
  show vm_G 199 13 [some (vm_r 96), w1] [vm_i z1] m1 _
  refine vm_gj (c := z1 = 0) (t := 76) (e := 16) (i := (.ifCond .eq 0, 76, 0, [])) (len := 3) (st1 := []) (by decide +kernel) rfl rfl (fun c1 => ?_) (fun c1 => ?_)
  · replace h := h.1 c1
    obtain ⟨o3_0, h⟩ := h
    refine vm_gp [(.aload 0, 0, 0, []), (.aload 0, 0, 0, []), (.getfield 0, 11, 26, []), (.aload 0, 0, 0, []), (.getfield 0, 11, 27, []), (.isub, 0, 0, []), (.iconst 1, 0, 0, [])] (pc1 := 87) (ls1 := [some (vm_r 96), w1]) (st1 := [vm_i 1, vm_i ((m1 96 26) - (m1 96 27)), vm_r 96]) (m1 := m1) (ob := (((true && vm_is 96 11) && vm_is 96 11) && decide (vm_32 ((m1 96 26) - (m1 96 27))))) (by decide +kernel) rfl (vm_t (vm_u (vm_u rfl (by decide +kernel)) (by decide +kernel)) o3_0) ?_
    refine vm_gj (c := ¬ ((m1 96 26) - (m1 96 27)) = 1) (t := 94) (e := 90) (i := (.if_icmp .ne 0, 94, 0, [])) (len := 3) (st1 := [vm_r 96]) (by decide +kernel) rfl rfl (fun c2 => ?_) (fun c2 => ?_)
    · replace h := h.1 c2
      obtain ⟨o4_0, h⟩ := h
      refine vm_gp [(.aload 0, 0, 0, []), (.getfield 0, 11, 26, []), (.aload 0, 0, 0, []), (.getfield 0, 11, 27, []), (.isub, 0, 0, []), (.iconst 9, 0, 0, [])] (pc1 := 105) (ls1 := [some (vm_r 96), w1]) (st1 := [vm_i 9, vm_i ((m1 96 26) - (m1 96 27)), vm_r 96]) (m1 := m1) (ob := (((true && vm_is 96 11) && vm_is 96 11) && decide (vm_32 ((m1 96 26) - (m1 96 27))))) (by decide +kernel) rfl (vm_t (vm_u (vm_u rfl (by decide +kernel)) (by decide +kernel)) o4_0) ?_
      refine vm_gj (c := 9 ≤ ((m1 96 26) - (m1 96 27))) (t := 122) (e := 108) (i := (.if_icmp .ge 0, 122, 0, [])) (len := 3) (st1 := [vm_r 96]) (by decide +kernel) rfl rfl (fun c3 => ?_) (fun c3 => ?_)
      · replace h := h.1 c3
        refine vm_gp [(.iconst 5, 0, 0, []), (.putfield 0, 11, 28, [])] (pc1 := 126) (ls1 := [some (vm_r 96), w1]) (st1 := []) (m1 := (vm_st m1 96 28 5)) (ob := (true && vm_is 96 11)) (by decide +kernel) rfl (vm_u rfl (by decide +kernel)) ?_
        exact vm_gr (r := none) (i := (.return_, 0, 0, [])) (len := 1) (by decide +kernel) rfl rfl rfl ⟨rfl, h⟩
      · replace h := h.2 c3
        refine vm_gp [(.aload 0, 0, 0, []), (.getfield 1, 11, 29, [])] (pc1 := 112) (ls1 := [some (vm_r 96), w1]) (st1 := [vm_l (m1 96 29), vm_r 96]) (m1 := m1) (ob := (true && vm_is 96 11)) (by decide +kernel) rfl (vm_u rfl (by decide +kernel)) ?_
        refine vm_gc (g := 198) (na := 1) (av := [vm_l (m1 96 29)]) (rest := [vm_r 96]) (i := (.invokestatic 0, 198, 1, [])) (len := 3) (by decide +kernel) rfl rfl rfl (by decide +kernel) (by decide +kernel) rfl rfl (vm_u (vm_okh_s (by decide +kernel)) (show vm_okn 198 1 1 0 0 2 = true by decide +kernel)) ?_
        refine vm_G.mono h ?_
        rintro _ m2 ⟨z2, rfl, h⟩
        show vm_G 199 115 [some (vm_r 96), w1] [vm_i z2, vm_r 96] m2 _
        refine vm_gj (c := z2 = 0) (t := 122) (e := 118) (i := (.ifCond .eq 0, 122, 0, [])) (len := 3) (st1 := [vm_r 96]) (by decide +kernel) rfl rfl (fun c4 => ?_) (fun c4 => ?_)
        · replace h := h.1 c4
          refine vm_gp [(.iconst 5, 0, 0, []), (.putfield 0, 11, 28, [])] (pc1 := 126) (ls1 := [some (vm_r 96), w1]) (st1 := []) (m1 := (vm_st m2 96 28 5)) (ob := (true && vm_is 96 11)) (by decide +kernel) rfl (vm_u rfl (by decide +kernel)) ?_
          exact vm_gr (r := none) (i := (.return_, 0, 0, [])) (len := 1) (by decide +kernel) rfl rfl rfl ⟨rfl, h⟩
        · replace h := h.2 c4
          refine vm_gp [(.iconst 1, 0, 0, []), (.goto 0, 123, 0, []), (.putfield 0, 11, 28, [])] (pc1 := 126) (ls1 := [some (vm_r 96), w1]) (st1 := []) (m1 := (vm_st m2 96 28 1)) (ob := (true && vm_is 96 11)) (by decide +kernel) rfl (vm_u rfl (by decide +kernel)) ?_
          exact vm_gr (r := none) (i := (.return_, 0, 0, [])) (len := 1) (by decide +kernel) rfl rfl rfl ⟨rfl, h⟩
    · replace h := h.2 c2
      refine vm_gp [(.iconst 2, 0, 0, []), (.goto 0, 123, 0, []), (.putfield 0, 11, 28, [])] (pc1 := 126) (ls1 := [some (vm_r 96), w1]) (st1 := []) (m1 := (vm_st m1 96 28 2)) (ob := (true && vm_is 96 11)) (by decide +kernel) rfl (vm_u rfl (by decide +kernel)) ?_
      exact vm_gr (r := none) (i := (.return_, 0, 0, [])) (len := 1) (by decide +kernel) rfl rfl rfl ⟨rfl, h⟩
  · replace h := h.2 c1
    obtain ⟨o11_0, h⟩ := h
    refine vm_gp [(.aload 0, 0, 0, []), (.getfield 0, 11, 26, []), (.aload 0, 0, 0, []), (.getfield 0, 11, 27, []), (.isub, 0, 0, []), (.istore 1, 0, 0, []), (.aload 0, 0, 0, []), (.iload 1, 0, 0, []), (.iconst 8, 0, 0, [])] (pc1 := 30) (ls1 := [some (vm_r 96), some (vm_i ((m1 96 26) - (m1 96 27)))]) (st1 := [vm_i 8, vm_i ((m1 96 26) - (m1 96 27)), vm_r 96]) (m1 := m1) (ob := (((true && vm_is 96 11) && vm_is 96 11) && decide (vm_32 ((m1 96 26) - (m1 96 27))))) (by decide +kernel) rfl (vm_t (vm_u (vm_u rfl (by decide +kernel)) (by decide +kernel)) o11_0) ?_
    refine vm_gj (c := 8 ≤ ((m1 96 26) - (m1 96 27))) (t := 59) (e := 33) (i := (.if_icmp .ge 0, 59, 0, [])) (len := 3) (st1 := [vm_r 96]) (by decide +kernel) rfl rfl (fun c5 => ?_) (fun c5 => ?_)
    · replace h := h.1 c5
      obtain ⟨o12_0, h⟩ := h
      refine vm_gp [(.ldc2_w 0, 0, 0, [(0, 0)]), (.putfield 1, 11, 29, []), (.aload 0, 0, 0, []), (.dup, 0, 0, []), (.getfield 0, 11, 26, []), (.iconst 1, 0, 0, []), (.iadd, 0, 0, []), (.putfield 0, 11, 26, []), (.goto 0, 5, 0, [])] (pc1 := 5) (ls1 := [some (vm_r 96), some (vm_i ((m1 96 26) - (m1 96 27)))]) (st1 := []) (m1 := (vm_st (vm_st m1 96 29 0) 96 26 (((vm_st m1 96 29 0) 96 26) + 1))) (ob := ((((true && vm_is 96 11) && vm_is 96 11) && decide (vm_32 (((vm_st m1 96 29 0) 96 26) + 1))) && vm_is 96 11)) (by decide +kernel) rfl (vm_u (vm_t (vm_u (vm_u rfl (by decide +kernel)) (by decide +kernel)) o12_0) (by decide +kernel)) ?_
      exact h
    · replace h := h.2 c5
      obtain ⟨⟨o13_0, o13_1, o13_2, o13_3, o13_4⟩, h⟩ := h
      refine vm_gp [(.ldc2_w 0, 0, 0, [(32, 0)]), (.aload 0, 0, 0, []), (.getfield 1, 11, 29, []), (.lmul, 0, 0, []), (.aload 0, 0, 0, []), (.getfield 2, 11, 0, [(97, 0)]), (.aload 0, 0, 0, []), (.getfield 0, 11, 26, []), (.baload, 2000, 101, []), (.i2l, 0, 0, []), (.ladd, 0, 0, []), (.ldc2_w 0, 0, 0, [(96, 0)]), (.lsub, 0, 0, []), (.goto 0, 60, 0, []), (.putfield 1, 11, 29, []), (.aload 0, 0, 0, []), (.dup, 0, 0, []), (.getfield 0, 11, 26, []), (.iconst 1, 0, 0, []), (.iadd, 0, 0, []), (.putfield 0, 11, 26, []), (.goto 0, 5, 0, [])] (pc1 := 5) (ls1 := [some (vm_r 96), some (vm_i ((m1 96 26) - (m1 96 27)))]) (st1 := []) (m1 := (vm_st (vm_st m1 96 29 (((32 * (m1 96 29)) + (m1 97 (m1 96 26))) - 96)) 96 26 (((vm_st m1 96 29 (((32 * (m1 96 29)) + (m1 97 (m1 96 26))) - 96)) 96 26) + 1))) (ob := (((((((((((((true && vm_is 96 11) && decide (vm_64 (32 * (m1 96 29)))) && vm_is 96 11) && true) && vm_is 96 11) && vm_ar 97 101 2000) && decide (0 ≤ (m1 96 26) ∧ (m1 96 26) < 2000)) && decide (vm_64 ((32 * (m1 96 29)) + (m1 97 (m1 96 26))))) && decide (vm_64 (((32 * (m1 96 29)) + (m1 97 (m1 96 26))) - 96))) && vm_is 96 11) && vm_is 96 11) && decide (vm_32 (((vm_st m1 96 29 (((32 * (m1 96 29)) + (m1 97 (m1 96 26))) - 96)) 96 26) + 1))) && vm_is 96 11)) (by decide +kernel) rfl (vm_u (vm_t (vm_u (vm_u (vm_t (vm_t (vm_t (vm_u (vm_u (vm_u (vm_u (vm_t (vm_u rfl (by decide +kernel)) o13_0) (by decide +kernel)) rfl) (by decide +kernel)) (by decide +kernel)) o13_1) o13_2) o13_3) (by decide +kernel)) (by decide +kernel)) o13_4) (by decide +kernel)) ?_
      exact h
abbrev ku11_nextInt_0  (m : vm_M) (Q : vm_M → Prop) : Prop := vm_G 200 0 [some (vm_r 96)] [] m (vm_qv Q)
abbrev ku11_nextInt_5  (m : vm_M) (Q : vm_M → Prop) : Prop := vm_G 200 5 [some (vm_r 96)] [] m (vm_qv Q)
set_option maxRecDepth 20000 in
theorem ru11_nextInt_0  {m : vm_M} {Q : vm_M → Prop}  (h :
    ku11_nextInt_5 (vm_st m 96 30 0) Q) : vm_C 200 [vm_r 96] m (vm_qv Q) := by
  show vm_G 200 0 [some (vm_r 96)] [] m (vm_qv Q)
  refine vm_gp [(.aload 0, 0, 0, []), (.iconst 0, 0, 0, []), (.putfield 0, 11, 30, [])] (pc1 := 5) (ls1 := [some (vm_r 96)]) (st1 := []) (m1 := (vm_st m 96 30 0)) (ob := (true && vm_is 96 11)) (by decide +kernel) rfl (vm_u rfl (by decide +kernel)) ?_
  exact h
set_option maxRecDepth 20000 in
theorem ru11_nextInt_5  {m : vm_M} {Q : vm_M → Prop}  (h :
    (vm_C 197 [vm_r 96, vm_i 48, vm_i 57] m (vm_qi (fun z1 m1 =>
      ((z1 = 0 →
        ((vm_32 ((m1 96 26) - (m1 96 27)))) ∧
        ((5 ≤ ((m1 96 26) - (m1 96 27)) →
          Q (vm_st m1 96 28 5)) ∧ (¬ 5 ≤ ((m1 96 26) - (m1 96 27)) →
          Q (vm_st m1 96 28 3)))) ∧ (¬ z1 = 0 →
        ((vm_32 ((m1 96 26) - (m1 96 27)))) ∧
        ((4 ≤ ((m1 96 26) - (m1 96 27)) →
          ((vm_32 (((vm_st m1 96 30 (m1 96 30)) 96 26) + 1))) ∧
          ku11_nextInt_5 (vm_st (vm_st m1 96 30 (m1 96 30)) 96 26 (((vm_st m1 96 30 (m1 96 30)) 96 26) + 1)) Q) ∧ (¬ 4 ≤ ((m1 96 26) - (m1 96 27)) →
          ((vm_32 (10 * (m1 96 30))) ∧ (0 ≤ (m1 96 26) ∧ (m1 96 26) < 2000) ∧ (vm_32 ((10 * (m1 96 30)) + (m1 97 (m1 96 26)))) ∧ (vm_32 (((10 * (m1 96 30)) + (m1 97 (m1 96 26))) - 48)) ∧ (vm_32 (((vm_st m1 96 30 (((10 * (m1 96 30)) + (m1 97 (m1 96 26))) - 48)) 96 26) + 1))) ∧
          ku11_nextInt_5 (vm_st (vm_st m1 96 30 (((10 * (m1 96 30)) + (m1 97 (m1 96 26))) - 48)) 96 26 (((vm_st m1 96 30 (((10 * (m1 96 30)) + (m1 97 (m1 96 26))) - 48)) 96 26) + 1)) Q)))))))) : ku11_nextInt_5 m Q := by
  show vm_G 200 5 [some (vm_r 96)] [] m (vm_qv Q)
  refine vm_gp [(.aload 0, 0, 0, []), (.iconst 48, 0, 0, []), (.iconst 57, 0, 0, [])] (pc1 := 10) (ls1 := [some (vm_r 96)]) (st1 := [vm_i 57, vm_i 48, vm_r 96]) (m1 := m) (ob := true) (by decide +kernel) rfl rfl ?_
  refine vm_gc (g := 197) (na := 3) (av := [vm_r 96, vm_i 48, vm_i 57]) (rest := []) (i := (.invokevirtual 0, 197, 3, [])) (len := 3) (by decide +kernel) rfl rfl rfl (by decide +kernel) (by decide +kernel) rfl rfl (vm_u (vm_okh_v (c := 11) (by decide +kernel) (by decide +kernel)) (show vm_okn 197 3 0 0 0 3 = true by decide +kernel)) ?_
  refine vm_G.mono h ?_
  rintro _ m1 ⟨z1, rfl, h⟩
  show vm_G 200 13 [some (vm_r 96)] [vm_i z1] m1 _
  refine vm_gj (c := z1 = 0) (t := 73) (e := 16) (i := (.ifCond .eq 0, 73, 0, [])) (len := 3) (st1 := []) (by decide +kernel) rfl rfl (fun c1 => ?_) (fun c1 => ?_)
  · replace h := h.1 c1
    obtain ⟨o3_0, h⟩ := h
    refine vm_gp [(.aload 0, 0, 0, []), (.aload 0, 0, 0, []), (.getfield 0, 11, 26, []), (.aload 0, 0, 0, []), (.getfield 0, 11, 27, []), (.isub, 0, 0, []), (.iconst 5, 0, 0, [])] (pc1 := 84) (ls1 := [some (vm_r 96)]) (st1 := [vm_i 5, vm_i ((m1 96 26) - (m1 96 27)), vm_r 96]) (m1 := m1) (ob := (((true && vm_is 96 11) && vm_is 96 11) && decide (vm_32 ((m1 96 26) - (m1 96 27))))) (by decide +kernel) rfl (vm_t (vm_u (vm_u rfl (by decide +kernel)) (by decide +kernel)) o3_0) ?_
    refine vm_gj (c := 5 ≤ ((m1 96 26) - (m1 96 27))) (t := 91) (e := 87) (i := (.if_icmp .ge 0, 91, 0, [])) (len := 3) (st1 := [vm_r 96]) (by decide +kernel) rfl rfl (fun c2 => ?_) (fun c2 => ?_)
    · replace h := h.1 c2
      refine vm_gp [(.iconst 5, 0, 0, []), (.putfield 0, 11, 28, [])] (pc1 := 95) (ls1 := [some (vm_r 96)]) (st1 := []) (m1 := (vm_st m1 96 28 5)) (ob := (true && vm_is 96 11)) (by decide +kernel) rfl (vm_u rfl (by decide +kernel)) ?_
      exact vm_gr (r := none) (i := (.return_, 0, 0, [])) (len := 1) (by decide +kernel) rfl rfl rfl ⟨rfl, h⟩
    · replace h := h.2 c2
      refine vm_gp [(.iconst 3, 0, 0, []), (.goto 0, 92, 0, []), (.putfield 0, 11, 28, [])] (pc1 := 95) (ls1 := [some (vm_r 96)]) (st1 := []) (m1 := (vm_st m1 96 28 3)) (ob := (true && vm_is 96 11)) (by decide +kernel) rfl (vm_u rfl (by decide +kernel)) ?_
      exact vm_gr (r := none) (i := (.return_, 0, 0, [])) (len := 1) (by decide +kernel) rfl rfl rfl ⟨rfl, h⟩
  · replace h := h.2 c1
    obtain ⟨o6_0, h⟩ := h
    refine vm_gp [(.aload 0, 0, 0, []), (.aload 0, 0, 0, []), (.getfield 0, 11, 26, []), (.aload 0, 0, 0, []), (.getfield 0, 11, 27, []), (.isub, 0, 0, []), (.iconst 4, 0, 0, [])] (pc1 := 27) (ls1 := [some (vm_r 96)]) (st1 := [vm_i 4, vm_i ((m1 96 26) - (m1 96 27)), vm_r 96]) (m1 := m1) (ob := (((true && vm_is 96 11) && vm_is 96 11) && decide (vm_32 ((m1 96 26) - (m1 96 27))))) (by decide +kernel) rfl (vm_t (vm_u (vm_u rfl (by decide +kernel)) (by decide +kernel)) o6_0) ?_
    refine vm_gj (c := 4 ≤ ((m1 96 26) - (m1 96 27))) (t := 53) (e := 30) (i := (.if_icmp .ge 0, 53, 0, [])) (len := 3) (st1 := [vm_r 96]) (by decide +kernel) rfl rfl (fun c3 => ?_) (fun c3 => ?_)
    · replace h := h.1 c3
      obtain ⟨o7_0, h⟩ := h
      refine vm_gp [(.aload 0, 0, 0, []), (.getfield 0, 11, 30, []), (.putfield 0, 11, 30, []), (.aload 0, 0, 0, []), (.dup, 0, 0, []), (.getfield 0, 11, 26, []), (.iconst 1, 0, 0, []), (.iadd, 0, 0, []), (.putfield 0, 11, 26, []), (.goto 0, 5, 0, [])] (pc1 := 5) (ls1 := [some (vm_r 96)]) (st1 := []) (m1 := (vm_st (vm_st m1 96 30 (m1 96 30)) 96 26 (((vm_st m1 96 30 (m1 96 30)) 96 26) + 1))) (ob := (((((true && vm_is 96 11) && vm_is 96 11) && vm_is 96 11) && decide (vm_32 (((vm_st m1 96 30 (m1 96 30)) 96 26) + 1))) && vm_is 96 11)) (by decide +kernel) rfl (vm_u (vm_t (vm_u (vm_u (vm_u rfl (by decide +kernel)) (by decide +kernel)) (by decide +kernel)) o7_0) (by decide +kernel)) ?_
      exact h
    · replace h := h.2 c3
      obtain ⟨⟨o8_0, o8_1, o8_2, o8_3, o8_4⟩, h⟩ := h
      refine vm_gp [(.iconst 10, 0, 0, []), (.aload 0, 0, 0, []), (.getfield 0, 11, 30, []), (.imul, 0, 0, []), (.aload 0, 0, 0, []), (.getfield 2, 11, 0, [(97, 0)]), (.aload 0, 0, 0, []), (.getfield 0, 11, 26, []), (.baload, 2000, 101, []), (.iadd, 0, 0, []), (.iconst 48, 0, 0, []), (.isub, 0, 0, []), (.goto 0, 57, 0, []), (.putfield 0, 11, 30, []), (.aload 0, 0, 0, []), (.dup, 0, 0, []), (.getfield 0, 11, 26, []), (.iconst 1, 0, 0, []), (.iadd, 0, 0, []), (.putfield 0, 11, 26, []), (.goto 0, 5, 0, [])] (pc1 := 5) (ls1 := [some (vm_r 96)]) (st1 := []) (m1 := (vm_st (vm_st m1 96 30 (((10 * (m1 96 30)) + (m1 97 (m1 96 26))) - 48)) 96 26 (((vm_st m1 96 30 (((10 * (m1 96 30)) + (m1 97 (m1 96 26))) - 48)) 96 26) + 1))) (ob := (((((((((((((true && vm_is 96 11) && decide (vm_32 (10 * (m1 96 30)))) && vm_is 96 11) && true) && vm_is 96 11) && vm_ar 97 101 2000) && decide (0 ≤ (m1 96 26) ∧ (m1 96 26) < 2000)) && decide (vm_32 ((10 * (m1 96 30)) + (m1 97 (m1 96 26))))) && decide (vm_32 (((10 * (m1 96 30)) + (m1 97 (m1 96 26))) - 48))) && vm_is 96 11) && vm_is 96 11) && decide (vm_32 (((vm_st m1 96 30 (((10 * (m1 96 30)) + (m1 97 (m1 96 26))) - 48)) 96 26) + 1))) && vm_is 96 11)) (by decide +kernel) rfl (vm_u (vm_t (vm_u (vm_u (vm_t (vm_t (vm_t (vm_u (vm_u (vm_u (vm_u (vm_t (vm_u rfl (by decide +kernel)) o8_0) (by decide +kernel)) rfl) (by decide +kernel)) (by decide +kernel)) o8_1) o8_2) o8_3) (by decide +kernel)) (by decide +kernel)) o8_4) (by decide +kernel)) ?_
      exact h
abbrev ku11_isWhite_0  (m : vm_M) (Q : Int → vm_M → Prop) : Prop := vm_G 201 0 [some (vm_r 96)] [] m (vm_qi Q)
set_option maxRecDepth 20000 in
theorem ru11_isWhite_0  {m : vm_M} {Q : Int → vm_M → Prop}  (h :
    (((m 96 1) ≤ (m 96 26) →
      Q 0 m) ∧ (¬ (m 96 1) ≤ (m 96 26) →
      ((0 ≤ (m 96 26) ∧ (m 96 26) < 2000)) ∧
      (((m 97 (m 96 26)) = 32 →
        Q 1 m) ∧ (¬ (m 97 (m 96 26)) = 32 →
        ((0 ≤ (m 96 26) ∧ (m 96 26) < 2000)) ∧
        ((¬ (m 97 (m 96 26)) = 10 →
          Q 0 m) ∧ (¬ ¬ (m 97 (m 96 26)) = 10 →
          Q 1 m))))))) : vm_C 201 [vm_r 96] m (vm_qi Q) := by
  show vm_G 201 0 [some (vm_r 96)] [] m (vm_qi Q)
  refine vm_gp [(.aload 0, 0, 0, []), (.getfield 0, 11, 26, []), (.aload 0, 0, 0, []), (.getfield 0, 11, 1, [])] (pc1 := 8) (ls1 := [some (vm_r 96)]) (st1 := [vm_i (m 96 1), vm_i (m 96 26)]) (m1 := m) (ob := ((true && vm_is 96 11) && vm_is 96 11)) (by decide +kernel) rfl (vm_u (vm_u rfl (by decide +kernel)) (by decide +kernel)) ?_
  refine vm_gj (c := (m 96 1) ≤ (m 96 26)) (t := 43) (e := 11) (i := (.if_icmp .ge 0, 43, 0, [])) (len := 3) (st1 := []) (by decide +kernel) rfl rfl (fun c1 => ?_) (fun c1 => ?_)
  · replace h := h.1 c1
    refine vm_gp [(.iconst 0, 0, 0, [])] (pc1 := 44) (ls1 := [some (vm_r 96)]) (st1 := [vm_i 0]) (m1 := m) (ob := true) (by decide +kernel) rfl rfl ?_
    exact vm_gr (r := some (vm_i 0)) (i := (.ireturn, 2, 0, [])) (len := 1) (by decide +kernel) rfl rfl (by decide) ⟨_, rfl, h⟩
  · replace h := h.2 c1
    obtain ⟨o3_0, h⟩ := h
    refine vm_gp [(.aload 0, 0, 0, []), (.getfield 2, 11, 0, [(97, 0)]), (.aload 0, 0, 0, []), (.getfield 0, 11, 26, []), (.baload, 2000, 101, []), (.iconst 32, 0, 0, [])] (pc1 := 22) (ls1 := [some (vm_r 96)]) (st1 := [vm_i 32, vm_i (m 97 (m 96 26))]) (m1 := m) (ob := (((((true && vm_is 96 11) && true) && vm_is 96 11) && vm_ar 97 101 2000) && decide (0 ≤ (m 96 26) ∧ (m 96 26) < 2000))) (by decide +kernel) rfl (vm_t (vm_u (vm_u (vm_u (vm_u rfl (by decide +kernel)) rfl) (by decide +kernel)) (by decide +kernel)) o3_0) ?_
    refine vm_gj (c := (m 97 (m 96 26)) = 32) (t := 39) (e := 25) (i := (.if_icmp .eq 0, 39, 0, [])) (len := 3) (st1 := []) (by decide +kernel) rfl rfl (fun c2 => ?_) (fun c2 => ?_)
    · replace h := h.1 c2
      refine vm_gp [(.iconst 1, 0, 0, []), (.goto 0, 44, 0, [])] (pc1 := 44) (ls1 := [some (vm_r 96)]) (st1 := [vm_i 1]) (m1 := m) (ob := true) (by decide +kernel) rfl rfl ?_
      exact vm_gr (r := some (vm_i 1)) (i := (.ireturn, 2, 0, [])) (len := 1) (by decide +kernel) rfl rfl (by decide) ⟨_, rfl, h⟩
    · replace h := h.2 c2
      obtain ⟨o5_0, h⟩ := h
      refine vm_gp [(.aload 0, 0, 0, []), (.getfield 2, 11, 0, [(97, 0)]), (.aload 0, 0, 0, []), (.getfield 0, 11, 26, []), (.baload, 2000, 101, []), (.iconst 10, 0, 0, [])] (pc1 := 36) (ls1 := [some (vm_r 96)]) (st1 := [vm_i 10, vm_i (m 97 (m 96 26))]) (m1 := m) (ob := (((((true && vm_is 96 11) && true) && vm_is 96 11) && vm_ar 97 101 2000) && decide (0 ≤ (m 96 26) ∧ (m 96 26) < 2000))) (by decide +kernel) rfl (vm_t (vm_u (vm_u (vm_u (vm_u rfl (by decide +kernel)) rfl) (by decide +kernel)) (by decide +kernel)) o5_0) ?_
      refine vm_gj (c := ¬ (m 97 (m 96 26)) = 10) (t := 43) (e := 39) (i := (.if_icmp .ne 0, 43, 0, [])) (len := 3) (st1 := []) (by decide +kernel) rfl rfl (fun c3 => ?_) (fun c3 => ?_)
      · replace h := h.1 c3
        refine vm_gp [(.iconst 0, 0, 0, [])] (pc1 := 44) (ls1 := [some (vm_r 96)]) (st1 := [vm_i 0]) (m1 := m) (ob := true) (by decide +kernel) rfl rfl ?_
        exact vm_gr (r := some (vm_i 0)) (i := (.ireturn, 2, 0, [])) (len := 1) (by decide +kernel) rfl rfl (by decide) ⟨_, rfl, h⟩
      · replace h := h.2 c3
        refine vm_gp [(.iconst 1, 0, 0, []), (.goto 0, 44, 0, [])] (pc1 := 44) (ls1 := [some (vm_r 96)]) (st1 := [vm_i 1]) (m1 := m) (ob := true) (by decide +kernel) rfl rfl ?_
        exact vm_gr (r := some (vm_i 1)) (i := (.ireturn, 2, 0, [])) (len := 1) (by decide +kernel) rfl rfl (by decide) ⟨_, rfl, h⟩
abbrev ku11_next_0  (m : vm_M) (Q : vm_M → Prop) : Prop := vm_G 202 0 [some (vm_r 96)] [] m (vm_qv Q)
set_option maxRecDepth 20000 in
theorem ru11_next_0  {m : vm_M} {Q : vm_M → Prop}  (h :
    (vm_C 201 [vm_r 96] m (vm_qi (fun z1 m1 =>
      ((z1 = 0 →
        ((¬ ((vm_st m1 96 27 (m1 96 26)) 96 26) = ((vm_st m1 96 27 (m1 96 26)) 96 1) →
          (vm_C 197 [vm_r 96, vm_i 97, vm_i 122] (vm_st m1 96 27 (m1 96 26)) (vm_qi (fun z2 m2 =>
            ((z2 = 0 →
              (vm_C 197 [vm_r 96, vm_i 48, vm_i 57] m2 (vm_qi (fun z3 m3 =>
                ((z3 = 0 →
                  ((0 ≤ (m3 96 26) ∧ (m3 96 26) < 2000)) ∧
                  ((¬ (m3 97 (m3 96 26)) = 59 →
                    ((vm_32 (((vm_st m3 96 28 5) 96 26) + 1))) ∧
                    Q (vm_st (vm_st m3 96 28 5) 96 26 (((vm_st m3 96 28 5) 96 26) + 1))) ∧ (¬ ¬ (m3 97 (m3 96 26)) = 59 →
                    ((vm_32 (((vm_st m3 96 28 4) 96 26) + 1))) ∧
                    Q (vm_st (vm_st m3 96 28 4) 96 26 (((vm_st m3 96 28 4) 96 26) + 1))))) ∧ (¬ z3 = 0 →
                  (vm_C 200 [vm_r 96] m3 (vm_qv (fun m4 =>
                    Q m4))))))))) ∧ (¬ z2 = 0 →
              (vm_C 199 [vm_r 96] m2 (vm_qv (fun m5 =>
                Q m5))))))))) ∧ (¬ ¬ ((vm_st m1 96 27 (m1 96 26)) 96 26) = ((vm_st m1 96 27 (m1 96 26)) 96 1) →
          Q (vm_st (vm_st m1 96 27 (m1 96 26)) 96 28 0)))) ∧ (¬ z1 = 0 →
        ((vm_32 ((m1 96 26) + 1))) ∧
        ku11_next_0 (vm_st m1 96 26 ((m1 96 26) + 1)) Q)))))) : vm_C 202 [vm_r 96] m (vm_qv Q) := by
  show vm_G 202 0 [some (vm_r 96)] [] m (vm_qv Q)
  refine vm_gp [(.aload 0, 0, 0, [])] (pc1 := 1) (ls1 := [some (vm_r 96)]) (st1 := [vm_r 96]) (m1 := m) (ob := true) (by decide +kernel) rfl rfl ?_
  refine vm_gc (g := 201) (na := 1) (av := [vm_r 96]) (rest := []) (i := (.invokevirtual 0, 201, 1, [])) (len := 3) (by decide +kernel) rfl rfl rfl (by decide +kernel) (by decide +kernel) rfl rfl (vm_u (vm_okh_v (c := 11) (by decide +kernel) (by decide +kernel)) (show vm_okn 201 1 0 0 0 1 = true by decide +kernel)) ?_
  refine vm_G.mono h ?_
  rintro _ m1 ⟨z1, rfl, h⟩
  show vm_G 202 4 [some (vm_r 96)] [vm_i z1] m1 _
  refine vm_gj (c := z1 = 0) (t := 20) (e := 7) (i := (.ifCond .eq 0, 20, 0, [])) (len := 3) (st1 := []) (by decide +kernel) rfl rfl (fun c1 => ?_) (fun c1 => ?_)
  · replace h := h.1 c1
    refine vm_gp [(.aload 0, 0, 0, []), (.aload 0, 0, 0, []), (.getfield 0, 11, 26, []), (.putfield 0, 11, 27, []), (.aload 0, 0, 0, []), (.getfield 0, 11, 26, []), (.aload 0, 0, 0, []), (.getfield 0, 11, 1, [])] (pc1 := 36) (ls1 := [some (vm_r 96)]) (st1 := [vm_i ((vm_st m1 96 27 (m1 96 26)) 96 1), vm_i ((vm_st m1 96 27 (m1 96 26)) 96 26)]) (m1 := (vm_st m1 96 27 (m1 96 26))) (ob := ((((true && vm_is 96 11) && vm_is 96 11) && vm_is 96 11) && vm_is 96 11)) (by decide +kernel) rfl (vm_u (vm_u (vm_u (vm_u rfl (by decide +kernel)) (by decide +kernel)) (by decide +kernel)) (by decide +kernel)) ?_
    refine vm_gj (c := ¬ ((vm_st m1 96 27 (m1 96 26)) 96 26) = ((vm_st m1 96 27 (m1 96 26)) 96 1)) (t := 47) (e := 39) (i := (.if_icmp .ne 0, 47, 0, [])) (len := 3) (st1 := []) (by decide +kernel) rfl rfl (fun c2 => ?_) (fun c2 => ?_)
    · replace h := h.1 c2
      refine vm_gp [(.aload 0, 0, 0, []), (.iconst 97, 0, 0, []), (.iconst 122, 0, 0, [])] (pc1 := 52) (ls1 := [some (vm_r 96)]) (st1 := [vm_i 122, vm_i 97, vm_r 96]) (m1 := (vm_st m1 96 27 (m1 96 26))) (ob := true) (by decide +kernel) rfl rfl ?_
      refine vm_gc (g := 197) (na := 3) (av := [vm_r 96, vm_i 97, vm_i 122]) (rest := []) (i := (.invokevirtual 0, 197, 3, [])) (len := 3) (by decide +kernel) rfl rfl rfl (by decide +kernel) (by decide +kernel) rfl rfl (vm_u (vm_okh_v (c := 11) (by decide +kernel) (by decide +kernel)) (show vm_okn 197 3 0 0 0 3 = true by decide +kernel)) ?_
      refine vm_G.mono h ?_
      rintro _ m2 ⟨z2, rfl, h⟩
      show vm_G 202 55 [some (vm_r 96)] [vm_i z2] m2 _
      refine vm_gj (c := z2 = 0) (t := 65) (e := 58) (i := (.ifCond .eq 0, 65, 0, [])) (len := 3) (st1 := []) (by decide +kernel) rfl rfl (fun c3 => ?_) (fun c3 => ?_)
      · replace h := h.1 c3
        refine vm_gp [(.aload 0, 0, 0, []), (.iconst 48, 0, 0, []), (.iconst 57, 0, 0, [])] (pc1 := 70) (ls1 := [some (vm_r 96)]) (st1 := [vm_i 57, vm_i 48, vm_r 96]) (m1 := m2) (ob := true) (by decide +kernel) rfl rfl ?_
        refine vm_gc (g := 197) (na := 3) (av := [vm_r 96, vm_i 48, vm_i 57]) (rest := []) (i := (.invokevirtual 0, 197, 3, [])) (len := 3) (by decide +kernel) rfl rfl rfl (by decide +kernel) (by decide +kernel) rfl rfl (vm_u (vm_okh_v (c := 11) (by decide +kernel) (by decide +kernel)) (show vm_okn 197 3 0 0 0 3 = true by decide +kernel)) ?_
        refine vm_G.mono h ?_
        rintro _ m3 ⟨z3, rfl, h⟩
        show vm_G 202 73 [some (vm_r 96)] [vm_i z3] m3 _
        refine vm_gj (c := z3 = 0) (t := 83) (e := 76) (i := (.ifCond .eq 0, 83, 0, [])) (len := 3) (st1 := []) (by decide +kernel) rfl rfl (fun c4 => ?_) (fun c4 => ?_)
        · replace h := h.1 c4
          obtain ⟨o8_0, h⟩ := h
          refine vm_gp [(.aload 0, 0, 0, []), (.aload 0, 0, 0, []), (.getfield 2, 11, 0, [(97, 0)]), (.aload 0, 0, 0, []), (.getfield 0, 11, 26, []), (.baload, 2000, 101, []), (.iconst 59, 0, 0, [])] (pc1 := 95) (ls1 := [some (vm_r 96)]) (st1 := [vm_i 59, vm_i (m3 97 (m3 96 26)), vm_r 96]) (m1 := m3) (ob := (((((true && vm_is 96 11) && true) && vm_is 96 11) && vm_ar 97 101 2000) && decide (0 ≤ (m3 96 26) ∧ (m3 96 26) < 2000))) (by decide +kernel) rfl (vm_t (vm_u (vm_u (vm_u (vm_u rfl (by decide +kernel)) rfl) (by decide +kernel)) (by decide +kernel)) o8_0) ?_
          refine vm_gj (c := ¬ (m3 97 (m3 96 26)) = 59) (t := 102) (e := 98) (i := (.if_icmp .ne 0, 102, 0, [])) (len := 3) (st1 := [vm_r 96]) (by decide +kernel) rfl rfl (fun c5 => ?_) (fun c5 => ?_)
          · replace h := h.1 c5
            obtain ⟨o9_0, h⟩ := h
            refine vm_gp [(.iconst 5, 0, 0, []), (.putfield 0, 11, 28, []), (.aload 0, 0, 0, []), (.dup, 0, 0, []), (.getfield 0, 11, 26, []), (.iconst 1, 0, 0, []), (.iadd, 0, 0, []), (.putfield 0, 11, 26, [])] (pc1 := 116) (ls1 := [some (vm_r 96)]) (st1 := []) (m1 := (vm_st (vm_st m3 96 28 5) 96 26 (((vm_st m3 96 28 5) 96 26) + 1))) (ob := ((((true && vm_is 96 11) && vm_is 96 11) && decide (vm_32 (((vm_st m3 96 28 5) 96 26) + 1))) && vm_is 96 11)) (by decide +kernel) rfl (vm_u (vm_t (vm_u (vm_u rfl (by decide +kernel)) (by decide +kernel)) o9_0) (by decide +kernel)) ?_
            exact vm_gr (r := none) (i := (.return_, 0, 0, [])) (len := 1) (by decide +kernel) rfl rfl rfl ⟨rfl, h⟩
          · replace h := h.2 c5
            obtain ⟨o10_0, h⟩ := h
            refine vm_gp [(.iconst 4, 0, 0, []), (.goto 0, 103, 0, []), (.putfield 0, 11, 28, []), (.aload 0, 0, 0, []), (.dup, 0, 0, []), (.getfield 0, 11, 26, []), (.iconst 1, 0, 0, []), (.iadd, 0, 0, []), (.putfield 0, 11, 26, [])] (pc1 := 116) (ls1 := [some (vm_r 96)]) (st1 := []) (m1 := (vm_st (vm_st m3 96 28 4) 96 26 (((vm_st m3 96 28 4) 96 26) + 1))) (ob := ((((true && vm_is 96 11) && vm_is 96 11) && decide (vm_32 (((vm_st m3 96 28 4) 96 26) + 1))) && vm_is 96 11)) (by decide +kernel) rfl (vm_u (vm_t (vm_u (vm_u rfl (by decide +kernel)) (by decide +kernel)) o10_0) (by decide +kernel)) ?_
            exact vm_gr (r := none) (i := (.return_, 0, 0, [])) (len := 1) (by decide +kernel) rfl rfl rfl ⟨rfl, h⟩
        · replace h := h.2 c4
          refine vm_gp [(.aload 0, 0, 0, [])] (pc1 := 77) (ls1 := [some (vm_r 96)]) (st1 := [vm_r 96]) (m1 := m3) (ob := true) (by decide +kernel) rfl rfl ?_
          refine vm_gc (g := 200) (na := 1) (av := [vm_r 96]) (rest := []) (i := (.invokevirtual 0, 200, 1, [])) (len := 3) (by decide +kernel) rfl rfl rfl (by decide +kernel) (by decide +kernel) rfl rfl (vm_u (vm_okh_v (c := 11) (by decide +kernel) (by decide +kernel)) (show vm_okn 200 1 0 0 0 1 = true by decide +kernel)) ?_
          refine vm_G.mono h ?_
          rintro _ m4 ⟨rfl, h⟩
          show vm_G 202 80 [some (vm_r 96)] [] m4 _
          refine vm_gp [(.goto 0, 116, 0, [])] (pc1 := 116) (ls1 := [some (vm_r 96)]) (st1 := []) (m1 := m4) (ob := true) (by decide +kernel) rfl rfl ?_
          exact vm_gr (r := none) (i := (.return_, 0, 0, [])) (len := 1) (by decide +kernel) rfl rfl rfl ⟨rfl, h⟩
      · replace h := h.2 c3
        refine vm_gp [(.aload 0, 0, 0, [])] (pc1 := 59) (ls1 := [some (vm_r 96)]) (st1 := [vm_r 96]) (m1 := m2) (ob := true) (by decide +kernel) rfl rfl ?_
        refine vm_gc (g := 199) (na := 1) (av := [vm_r 96]) (rest := []) (i := (.invokevirtual 0, 199, 1, [])) (len := 3) (by decide +kernel) rfl rfl rfl (by decide +kernel) (by decide +kernel) rfl rfl (vm_u (vm_okh_v (c := 11) (by decide +kernel) (by decide +kernel)) (show vm_okn 199 1 0 0 0 1 = true by decide +kernel)) ?_
        refine vm_G.mono h ?_
        rintro _ m5 ⟨rfl, h⟩
        show vm_G 202 62 [some (vm_r 96)] [] m5 _
        refine vm_gp [(.goto 0, 116, 0, [])] (pc1 := 116) (ls1 := [some (vm_r 96)]) (st1 := []) (m1 := m5) (ob := true) (by decide +kernel) rfl rfl ?_
        exact vm_gr (r := none) (i := (.return_, 0, 0, [])) (len := 1) (by decide +kernel) rfl rfl rfl ⟨rfl, h⟩
    · replace h := h.2 c2
      refine vm_gp [(.aload 0, 0, 0, []), (.iconst 0, 0, 0, []), (.putfield 0, 11, 28, []), (.goto 0, 116, 0, [])] (pc1 := 116) (ls1 := [some (vm_r 96)]) (st1 := []) (m1 := (vm_st (vm_st m1 96 27 (m1 96 26)) 96 28 0)) (ob := (true && vm_is 96 11)) (by decide +kernel) rfl (vm_u rfl (by decide +kernel)) ?_
      exact vm_gr (r := none) (i := (.return_, 0, 0, [])) (len := 1) (by decide +kernel) rfl rfl rfl ⟨rfl, h⟩
  · replace h := h.2 c1
    obtain ⟨o16_0, h⟩ := h
    refine vm_gp [(.aload 0, 0, 0, []), (.dup, 0, 0, []), (.getfield 0, 11, 26, []), (.iconst 1, 0, 0, []), (.iadd, 0, 0, []), (.putfield 0, 11, 26, []), (.goto 0, 0, 0, [])] (pc1 := 0) (ls1 := [some (vm_r 96)]) (st1 := []) (m1 := (vm_st m1 96 26 ((m1 96 26) + 1))) (ob := (((true && vm_is 96 11) && decide (vm_32 ((m1 96 26) + 1))) && vm_is 96 11)) (by decide +kernel) rfl (vm_u (vm_t (vm_u rfl (by decide +kernel)) o16_0) (by decide +kernel)) ?_
    exact h
abbrev ku11_takes_0 (v1 : Int) (m : vm_M) (Q : vm_M → Prop) : Prop := vm_G 203 0 [some (vm_r 96), some (vm_i v1)] [] m (vm_qv Q)
set_option maxRecDepth 20000 in
theorem ru11_takes_0 {v1 : Int} {m : vm_M} {Q : vm_M → Prop}  (h :
    (((m 96 31) = 0 →
      (((m 96 31) = 0 →
        Q m) ∧ (¬ (m 96 31) = 0 →
        (vm_C 202 [vm_r 96] m (vm_qv (fun m1 =>
          Q m1)))))) ∧ (¬ (m 96 31) = 0 →
      ((¬ v1 = 0 →
        (((m 96 31) = 0 →
          Q m) ∧ (¬ (m 96 31) = 0 →
          (vm_C 202 [vm_r 96] m (vm_qv (fun m2 =>
            Q m2)))))) ∧ (¬ ¬ v1 = 0 →
        ((((vm_st (vm_st m 96 31 0) 96 2 ((vm_st m 96 31 0) 96 27)) 96 31) = 0 →
          Q (vm_st (vm_st m 96 31 0) 96 2 ((vm_st m 96 31 0) 96 27))) ∧ (¬ ((vm_st (vm_st m 96 31 0) 96 2 ((vm_st m 96 31 0) 96 27)) 96 31) = 0 →
          (vm_C 202 [vm_r 96] (vm_st (vm_st m 96 31 0) 96 2 ((vm_st m 96 31 0) 96 27)) (vm_qv (fun m3 =>
            Q m3)))))))))) : vm_C 203 [vm_r 96, vm_i v1] m (vm_qv Q) := by
  show vm_G 203 0 [some (vm_r 96), some (vm_i v1)] [] m (vm_qv Q)
  refine vm_gp [(.aload 0, 0, 0, []), (.getfield 0, 11, 31, [])] (pc1 := 4) (ls1 := [some (vm_r 96), some (vm_i v1)]) (st1 := [vm_i (m 96 31)]) (m1 := m) (ob := (true && vm_is 96 11)) (by decide +kernel) rfl (vm_u rfl (by decide +kernel)) ?_
  refine vm_gj (c := (m 96 31) = 0) (t := 24) (e := 7) (i := (.ifCond .eq 0, 24, 0, [])) (len := 3) (st1 := []) (by decide +kernel) rfl rfl (fun c1 => ?_) (fun c1 => ?_)
  · replace h := h.1 c1
    refine vm_gp [(.aload 0, 0, 0, []), (.getfield 0, 11, 31, [])] (pc1 := 28) (ls1 := [some (vm_r 96), some (vm_i v1)]) (st1 := [vm_i (m 96 31)]) (m1 := m) (ob := (true && vm_is 96 11)) (by decide +kernel) rfl (vm_u rfl (by decide +kernel)) ?_
    refine vm_gj (c := (m 96 31) = 0) (t := 35) (e := 31) (i := (.ifCond .eq 0, 35, 0, [])) (len := 3) (st1 := []) (by decide +kernel) rfl rfl (fun c2 => ?_) (fun c2 => ?_)
    · replace h := h.1 c2
      exact vm_gr (r := none) (i := (.return_, 0, 0, [])) (len := 1) (by decide +kernel) rfl rfl rfl ⟨rfl, h⟩
    · replace h := h.2 c2
      refine vm_gp [(.aload 0, 0, 0, [])] (pc1 := 32) (ls1 := [some (vm_r 96), some (vm_i v1)]) (st1 := [vm_r 96]) (m1 := m) (ob := true) (by decide +kernel) rfl rfl ?_
      refine vm_gc (g := 202) (na := 1) (av := [vm_r 96]) (rest := []) (i := (.invokevirtual 0, 202, 1, [])) (len := 3) (by decide +kernel) rfl rfl rfl (by decide +kernel) (by decide +kernel) rfl rfl (vm_u (vm_okh_v (c := 11) (by decide +kernel) (by decide +kernel)) (show vm_okn 202 1 0 0 0 1 = true by decide +kernel)) ?_
      refine vm_G.mono h ?_
      rintro _ m1 ⟨rfl, h⟩
      show vm_G 203 35 [some (vm_r 96), some (vm_i v1)] [] m1 _
      exact vm_gr (r := none) (i := (.return_, 0, 0, [])) (len := 1) (by decide +kernel) rfl rfl rfl ⟨rfl, h⟩
  · replace h := h.2 c1
    refine vm_gp [(.iload 1, 0, 0, [])] (pc1 := 8) (ls1 := [some (vm_r 96), some (vm_i v1)]) (st1 := [vm_i v1]) (m1 := m) (ob := true) (by decide +kernel) rfl rfl ?_
    refine vm_gj (c := ¬ v1 = 0) (t := 24) (e := 11) (i := (.ifCond .ne 0, 24, 0, [])) (len := 3) (st1 := []) (by decide +kernel) rfl rfl (fun c3 => ?_) (fun c3 => ?_)
    · replace h := h.1 c3
      refine vm_gp [(.aload 0, 0, 0, []), (.getfield 0, 11, 31, [])] (pc1 := 28) (ls1 := [some (vm_r 96), some (vm_i v1)]) (st1 := [vm_i (m 96 31)]) (m1 := m) (ob := (true && vm_is 96 11)) (by decide +kernel) rfl (vm_u rfl (by decide +kernel)) ?_
      refine vm_gj (c := (m 96 31) = 0) (t := 35) (e := 31) (i := (.ifCond .eq 0, 35, 0, [])) (len := 3) (st1 := []) (by decide +kernel) rfl rfl (fun c4 => ?_) (fun c4 => ?_)
      · replace h := h.1 c4
        exact vm_gr (r := none) (i := (.return_, 0, 0, [])) (len := 1) (by decide +kernel) rfl rfl rfl ⟨rfl, h⟩
      · replace h := h.2 c4
        refine vm_gp [(.aload 0, 0, 0, [])] (pc1 := 32) (ls1 := [some (vm_r 96), some (vm_i v1)]) (st1 := [vm_r 96]) (m1 := m) (ob := true) (by decide +kernel) rfl rfl ?_
        refine vm_gc (g := 202) (na := 1) (av := [vm_r 96]) (rest := []) (i := (.invokevirtual 0, 202, 1, [])) (len := 3) (by decide +kernel) rfl rfl rfl (by decide +kernel) (by decide +kernel) rfl rfl (vm_u (vm_okh_v (c := 11) (by decide +kernel) (by decide +kernel)) (show vm_okn 202 1 0 0 0 1 = true by decide +kernel)) ?_
        refine vm_G.mono h ?_
        rintro _ m2 ⟨rfl, h⟩
        show vm_G 203 35 [some (vm_r 96), some (vm_i v1)] [] m2 _
        exact vm_gr (r := none) (i := (.return_, 0, 0, [])) (len := 1) (by decide +kernel) rfl rfl rfl ⟨rfl, h⟩
    · replace h := h.2 c3
      refine vm_gp [(.aload 0, 0, 0, []), (.iconst 0, 0, 0, []), (.putfield 3, 11, 31, []), (.aload 0, 0, 0, []), (.aload 0, 0, 0, []), (.getfield 0, 11, 27, []), (.putfield 0, 11, 2, []), (.aload 0, 0, 0, []), (.getfield 0, 11, 31, [])] (pc1 := 28) (ls1 := [some (vm_r 96), some (vm_i v1)]) (st1 := [vm_i ((vm_st (vm_st m 96 31 0) 96 2 ((vm_st m 96 31 0) 96 27)) 96 31)]) (m1 := (vm_st (vm_st m 96 31 0) 96 2 ((vm_st m 96 31 0) 96 27))) (ob := (((((true && vm_is 96 11) && decide ((0 : Int) = 0 ∨ (0 : Int) = 1)) && vm_is 96 11) && vm_is 96 11) && vm_is 96 11)) (by decide +kernel) rfl (vm_u (vm_u (vm_u (vm_t (vm_u rfl (by decide +kernel)) (by decide)) (by decide +kernel)) (by decide +kernel)) (by decide +kernel)) ?_
      refine vm_gj (c := ((vm_st (vm_st m 96 31 0) 96 2 ((vm_st m 96 31 0) 96 27)) 96 31) = 0) (t := 35) (e := 31) (i := (.ifCond .eq 0, 35, 0, [])) (len := 3) (st1 := []) (by decide +kernel) rfl rfl (fun c5 => ?_) (fun c5 => ?_)
      · replace h := h.1 c5
        exact vm_gr (r := none) (i := (.return_, 0, 0, [])) (len := 1) (by decide +kernel) rfl rfl rfl ⟨rfl, h⟩
      · replace h := h.2 c5
        refine vm_gp [(.aload 0, 0, 0, [])] (pc1 := 32) (ls1 := [some (vm_r 96), some (vm_i v1)]) (st1 := [vm_r 96]) (m1 := (vm_st (vm_st m 96 31 0) 96 2 ((vm_st m 96 31 0) 96 27))) (ob := true) (by decide +kernel) rfl rfl ?_
        refine vm_gc (g := 202) (na := 1) (av := [vm_r 96]) (rest := []) (i := (.invokevirtual 0, 202, 1, [])) (len := 3) (by decide +kernel) rfl rfl rfl (by decide +kernel) (by decide +kernel) rfl rfl (vm_u (vm_okh_v (c := 11) (by decide +kernel) (by decide +kernel)) (show vm_okn 202 1 0 0 0 1 = true by decide +kernel)) ?_
        refine vm_G.mono h ?_
        rintro _ m3 ⟨rfl, h⟩
        show vm_G 203 35 [some (vm_r 96), some (vm_i v1)] [] m3 _
        exact vm_gr (r := none) (i := (.return_, 0, 0, [])) (len := 1) (by decide +kernel) rfl rfl rfl ⟨rfl, h⟩
abbrev ku11_isWord_0 (v1 : Int) (m : vm_M) (Q : Int → vm_M → Prop) : Prop := vm_G 204 0 [some (vm_r 96), some (vm_l v1), none] [] m (vm_qi Q)
set_option maxRecDepth 20000 in
theorem ru11_isWord_0 {v1 : Int} {m : vm_M} {Q : Int → vm_M → Prop}  (h :
    (((m 96 31) = 0 →
      Q 0 m) ∧ (¬ (m 96 31) = 0 →
      ((¬ (m 96 28) = 1 →
        Q 0 m) ∧ (¬ ¬ (m 96 28) = 1 →
        ((¬ (if (m 96 29) < v1 then -1 else if (m 96 29) = v1 then 0 else 1) = 0 →
          Q 0 m) ∧ (¬ ¬ (if (m 96 29) < v1 then -1 else if (m 96 29) = v1 then 0 else 1) = 0 →
          Q 1 m))))))) : vm_C 204 [vm_r 96, vm_l v1] m (vm_qi Q) := by
  show vm_G 204 0 [some (vm_r 96), some (vm_l v1), none] [] m (vm_qi Q)
  refine vm_gp [(.aload 0, 0, 0, []), (.getfield 0, 11, 31, [])] (pc1 := 4) (ls1 := [some (vm_r 96), some (vm_l v1), none]) (st1 := [vm_i (m 96 31)]) (m1 := m) (ob := (true && vm_is 96 11)) (by decide +kernel) rfl (vm_u rfl (by decide +kernel)) ?_
  refine vm_gj (c := (m 96 31) = 0) (t := 28) (e := 7) (i := (.ifCond .eq 0, 28, 0, [])) (len := 3) (st1 := []) (by decide +kernel) rfl rfl (fun c1 => ?_) (fun c1 => ?_)
  · replace h := h.1 c1
    refine vm_gp [(.iconst 0, 0, 0, [])] (pc1 := 29) (ls1 := [some (vm_r 96), some (vm_l v1), none]) (st1 := [vm_i 0]) (m1 := m) (ob := true) (by decide +kernel) rfl rfl ?_
    exact vm_gr (r := some (vm_i 0)) (i := (.ireturn, 2, 0, [])) (len := 1) (by decide +kernel) rfl rfl (by decide) ⟨_, rfl, h⟩
  · replace h := h.2 c1
    refine vm_gp [(.aload 0, 0, 0, []), (.getfield 0, 11, 28, []), (.iconst 1, 0, 0, [])] (pc1 := 12) (ls1 := [some (vm_r 96), some (vm_l v1), none]) (st1 := [vm_i 1, vm_i (m 96 28)]) (m1 := m) (ob := (true && vm_is 96 11)) (by decide +kernel) rfl (vm_u rfl (by decide +kernel)) ?_
    refine vm_gj (c := ¬ (m 96 28) = 1) (t := 28) (e := 15) (i := (.if_icmp .ne 0, 28, 0, [])) (len := 3) (st1 := []) (by decide +kernel) rfl rfl (fun c2 => ?_) (fun c2 => ?_)
    · replace h := h.1 c2
      refine vm_gp [(.iconst 0, 0, 0, [])] (pc1 := 29) (ls1 := [some (vm_r 96), some (vm_l v1), none]) (st1 := [vm_i 0]) (m1 := m) (ob := true) (by decide +kernel) rfl rfl ?_
      exact vm_gr (r := some (vm_i 0)) (i := (.ireturn, 2, 0, [])) (len := 1) (by decide +kernel) rfl rfl (by decide) ⟨_, rfl, h⟩
    · replace h := h.2 c2
      refine vm_gp [(.aload 0, 0, 0, []), (.getfield 1, 11, 29, []), (.lload 1, 0, 0, []), (.lcmp, 0, 0, [])] (pc1 := 21) (ls1 := [some (vm_r 96), some (vm_l v1), none]) (st1 := [vm_i (if (m 96 29) < v1 then -1 else if (m 96 29) = v1 then 0 else 1)]) (m1 := m) (ob := (true && vm_is 96 11)) (by decide +kernel) rfl (vm_u rfl (by decide +kernel)) ?_
      refine vm_gj (c := ¬ (if (m 96 29) < v1 then -1 else if (m 96 29) = v1 then 0 else 1) = 0) (t := 28) (e := 24) (i := (.ifCond .ne 0, 28, 0, [])) (len := 3) (st1 := []) (by decide +kernel) rfl rfl (fun c3 => ?_) (fun c3 => ?_)
      · replace h := h.1 c3
        refine vm_gp [(.iconst 0, 0, 0, [])] (pc1 := 29) (ls1 := [some (vm_r 96), some (vm_l v1), none]) (st1 := [vm_i 0]) (m1 := m) (ob := true) (by decide +kernel) rfl rfl ?_
        exact vm_gr (r := some (vm_i 0)) (i := (.ireturn, 2, 0, [])) (len := 1) (by decide +kernel) rfl rfl (by decide) ⟨_, rfl, h⟩
      · replace h := h.2 c3
        refine vm_gp [(.iconst 1, 0, 0, []), (.goto 0, 29, 0, [])] (pc1 := 29) (ls1 := [some (vm_r 96), some (vm_l v1), none]) (st1 := [vm_i 1]) (m1 := m) (ob := true) (by decide +kernel) rfl rfl ?_
        exact vm_gr (r := some (vm_i 1)) (i := (.ireturn, 2, 0, [])) (len := 1) (by decide +kernel) rfl rfl (by decide) ⟨_, rfl, h⟩
abbrev ku11_number_0 (v1 : Int) (v2 : Int) (m : vm_M) (Q : Int → vm_M → Prop) : Prop := vm_G 205 0 [some (vm_r 96), some (vm_i v1), some (vm_i v2), none] [] m (vm_qi Q)
set_option maxRecDepth 20000 in
theorem ru11_number_0 {v1 : Int} {v2 : Int} {m : vm_M} {Q : Int → vm_M → Prop}  (h :
    ((¬ (m 96 28) = 3 →
      (vm_C 203 [vm_r 96, vm_i 0] m (vm_qv (fun m1 =>
        Q (m 96 30) m1)))) ∧ (¬ ¬ (m 96 28) = 3 →
      (vm_C 164 [vm_l (m 96 30), vm_l v1, vm_l v2] m (vm_qi (fun z2 m2 =>
        ((z2 = 0 →
          (vm_C 203 [vm_r 96, vm_i 0] m2 (vm_qv (fun m3 =>
            Q (m 96 30) m3)))) ∧ (¬ z2 = 0 →
          (vm_C 203 [vm_r 96, vm_i 1] m2 (vm_qv (fun m4 =>
            Q (m 96 30) m4))))))))))) : vm_C 205 [vm_r 96, vm_i v1, vm_i v2] m (vm_qi Q) := by
  show vm_G 205 0 [some (vm_r 96), some (vm_i v1), some (vm_i v2), none] [] m (vm_qi Q)
  refine vm_gp [(.aload 0, 0, 0, []), (.getfield 0, 11, 30, []), (.istore 3, 0, 0, []), (.aload 0, 0, 0, []), (.aload 0, 0, 0, []), (.getfield 0, 11, 28, []), (.iconst 3, 0, 0, [])] (pc1 := 11) (ls1 := [some (vm_r 96), some (vm_i v1), some (vm_i v2), some (vm_i (m 96 30))]) (st1 := [vm_i 3, vm_i (m 96 28), vm_r 96]) (m1 := m) (ob := ((true && vm_is 96 11) && vm_is 96 11)) (by decide +kernel) rfl (vm_u (vm_u rfl (by decide +kernel)) (by decide +kernel)) ?_
  refine vm_gj (c := ¬ (m 96 28) = 3) (t := 30) (e := 14) (i := (.if_icmp .ne 0, 30, 0, [])) (len := 3) (st1 := [vm_r 96]) (by decide +kernel) rfl rfl (fun c1 => ?_) (fun c1 => ?_)
  · replace h := h.1 c1
    refine vm_gp [(.iconst 0, 0, 0, [])] (pc1 := 31) (ls1 := [some (vm_r 96), some (vm_i v1), some (vm_i v2), some (vm_i (m 96 30))]) (st1 := [vm_i 0, vm_r 96]) (m1 := m) (ob := true) (by decide +kernel) rfl rfl ?_
    refine vm_gc (g := 203) (na := 2) (av := [vm_r 96, vm_i 0]) (rest := []) (i := (.invokevirtual 0, 203, 2, [])) (len := 3) (by decide +kernel) rfl rfl rfl (by decide +kernel) (by decide +kernel) rfl rfl (vm_u (vm_okh_v (c := 11) (by decide +kernel) (by decide +kernel)) (show vm_okn 203 2 0 0 0 2 = true by decide +kernel)) ?_
    refine vm_G.mono h ?_
    rintro _ m1 ⟨rfl, h⟩
    show vm_G 205 34 [some (vm_r 96), some (vm_i v1), some (vm_i v2), some (vm_i (m 96 30))] [] m1 _
    refine vm_gp [(.iload 3, 0, 0, [])] (pc1 := 35) (ls1 := [some (vm_r 96), some (vm_i v1), some (vm_i v2), some (vm_i (m 96 30))]) (st1 := [vm_i (m 96 30)]) (m1 := m1) (ob := true) (by decide +kernel) rfl rfl ?_
    exact vm_gr (r := some (vm_i (m 96 30))) (i := (.ireturn, 1, 0, [])) (len := 1) (by decide +kernel) rfl rfl rfl ⟨_, rfl, h⟩
  · replace h := h.2 c1
    refine vm_gp [(.iload 3, 0, 0, []), (.i2l, 0, 0, []), (.iload 1, 0, 0, []), (.i2l, 0, 0, []), (.iload 2, 0, 0, []), (.i2l, 0, 0, [])] (pc1 := 20) (ls1 := [some (vm_r 96), some (vm_i v1), some (vm_i v2), some (vm_i (m 96 30))]) (st1 := [vm_l v2, vm_l v1, vm_l (m 96 30), vm_r 96]) (m1 := m) (ob := true) (by decide +kernel) rfl rfl ?_
    refine vm_gc (g := 164) (na := 3) (av := [vm_l (m 96 30), vm_l v1, vm_l v2]) (rest := [vm_r 96]) (i := (.invokestatic 0, 164, 3, [])) (len := 3) (by decide +kernel) rfl rfl rfl (by decide +kernel) (by decide +kernel) rfl rfl (vm_u (vm_okh_s (by decide +kernel)) (show vm_okn 164 3 1 0 0 6 = true by decide +kernel)) ?_
    refine vm_G.mono h ?_
    rintro _ m2 ⟨z2, rfl, h⟩
    show vm_G 205 23 [some (vm_r 96), some (vm_i v1), some (vm_i v2), some (vm_i (m 96 30))] [vm_i z2, vm_r 96] m2 _
    refine vm_gj (c := z2 = 0) (t := 30) (e := 26) (i := (.ifCond .eq 0, 30, 0, [])) (len := 3) (st1 := [vm_r 96]) (by decide +kernel) rfl rfl (fun c2 => ?_) (fun c2 => ?_)
    · replace h := h.1 c2
      refine vm_gp [(.iconst 0, 0, 0, [])] (pc1 := 31) (ls1 := [some (vm_r 96), some (vm_i v1), some (vm_i v2), some (vm_i (m 96 30))]) (st1 := [vm_i 0, vm_r 96]) (m1 := m2) (ob := true) (by decide +kernel) rfl rfl ?_
      refine vm_gc (g := 203) (na := 2) (av := [vm_r 96, vm_i 0]) (rest := []) (i := (.invokevirtual 0, 203, 2, [])) (len := 3) (by decide +kernel) rfl rfl rfl (by decide +kernel) (by decide +kernel) rfl rfl (vm_u (vm_okh_v (c := 11) (by decide +kernel) (by decide +kernel)) (show vm_okn 203 2 0 0 0 2 = true by decide +kernel)) ?_
      refine vm_G.mono h ?_
      rintro _ m3 ⟨rfl, h⟩
      show vm_G 205 34 [some (vm_r 96), some (vm_i v1), some (vm_i v2), some (vm_i (m 96 30))] [] m3 _
      refine vm_gp [(.iload 3, 0, 0, [])] (pc1 := 35) (ls1 := [some (vm_r 96), some (vm_i v1), some (vm_i v2), some (vm_i (m 96 30))]) (st1 := [vm_i (m 96 30)]) (m1 := m3) (ob := true) (by decide +kernel) rfl rfl ?_
      exact vm_gr (r := some (vm_i (m 96 30))) (i := (.ireturn, 1, 0, [])) (len := 1) (by decide +kernel) rfl rfl rfl ⟨_, rfl, h⟩
    · replace h := h.2 c2
      refine vm_gp [(.iconst 1, 0, 0, []), (.goto 0, 31, 0, [])] (pc1 := 31) (ls1 := [some (vm_r 96), some (vm_i v1), some (vm_i v2), some (vm_i (m 96 30))]) (st1 := [vm_i 1, vm_r 96]) (m1 := m2) (ob := true) (by decide +kernel) rfl rfl ?_
      refine vm_gc (g := 203) (na := 2) (av := [vm_r 96, vm_i 1]) (rest := []) (i := (.invokevirtual 0, 203, 2, [])) (len := 3) (by decide +kernel) rfl rfl rfl (by decide +kernel) (by decide +kernel) rfl rfl (vm_u (vm_okh_v (c := 11) (by decide +kernel) (by decide +kernel)) (show vm_okn 203 2 0 0 0 2 = true by decide +kernel)) ?_
      refine vm_G.mono h ?_
      rintro _ m4 ⟨rfl, h⟩
      show vm_G 205 34 [some (vm_r 96), some (vm_i v1), some (vm_i v2), some (vm_i (m 96 30))] [] m4 _
      refine vm_gp [(.iload 3, 0, 0, [])] (pc1 := 35) (ls1 := [some (vm_r 96), some (vm_i v1), some (vm_i v2), some (vm_i (m 96 30))]) (st1 := [vm_i (m 96 30)]) (m1 := m4) (ob := true) (by decide +kernel) rfl rfl ?_
      exact vm_gr (r := some (vm_i (m 96 30))) (i := (.ireturn, 1, 0, [])) (len := 1) (by decide +kernel) rfl rfl rfl ⟨_, rfl, h⟩
abbrev ku11_numberOf_0 (v1 : Int) (v3 : Int) (v4 : Int) (m : vm_M) (Q : Int → vm_M → Prop) : Prop := vm_G 206 0 [some (vm_r 96), some (vm_l v1), none, some (vm_i v3), some (vm_i v4)] [] m (vm_qi Q)
set_option maxRecDepth 20000 in
theorem ru11_numberOf_0 {v1 : Int} {v3 : Int} {v4 : Int} {m : vm_M} {Q : Int → vm_M → Prop}  (h :
    (vm_C 204 [vm_r 96, vm_l v1] m (vm_qi (fun z1 m1 =>
      (vm_C 203 [vm_r 96, vm_i z1] m1 (vm_qv (fun m2 =>
        (vm_C 205 [vm_r 96, vm_i v3, vm_i v4] m2 (vm_qi (fun z3 m3 =>
          Q z3 m3)))))))))) : vm_C 206 [vm_r 96, vm_l v1, vm_i v3, vm_i v4] m (vm_qi Q) := by
  show vm_G 206 0 [some (vm_r 96), some (vm_l v1), none, some (vm_i v3), some (vm_i v4)] [] m (vm_qi Q)
  refine vm_gp [(.aload 0, 0, 0, []), (.aload 0, 0, 0, []), (.lload 1, 0, 0, [])] (pc1 := 3) (ls1 := [some (vm_r 96), some (vm_l v1), none, some (vm_i v3), some (vm_i v4)]) (st1 := [vm_l v1, vm_r 96, vm_r 96]) (m1 := m) (ob := true) (by decide +kernel) rfl rfl ?_
  refine vm_gc (g := 204) (na := 2) (av := [vm_r 96, vm_l v1]) (rest := [vm_r 96]) (i := (.invokevirtual 0, 204, 2, [])) (len := 3) (by decide +kernel) rfl rfl rfl (by decide +kernel) (by decide +kernel) rfl rfl (vm_u (vm_okh_v (c := 11) (by decide +kernel) (by decide +kernel)) (show vm_okn 204 2 1 0 0 3 = true by decide +kernel)) ?_
  refine vm_G.mono h ?_
  rintro _ m1 ⟨z1, rfl, h⟩
  show vm_G 206 6 [some (vm_r 96), some (vm_l v1), none, some (vm_i v3), some (vm_i v4)] [vm_i z1, vm_r 96] m1 _
  refine vm_gc (g := 203) (na := 2) (av := [vm_r 96, vm_i z1]) (rest := []) (i := (.invokevirtual 0, 203, 2, [])) (len := 3) (by decide +kernel) rfl rfl rfl (by decide +kernel) (by decide +kernel) rfl rfl (vm_u (vm_okh_v (c := 11) (by decide +kernel) (by decide +kernel)) (show vm_okn 203 2 0 0 0 2 = true by decide +kernel)) ?_
  refine vm_G.mono h ?_
  rintro _ m2 ⟨rfl, h⟩
  show vm_G 206 9 [some (vm_r 96), some (vm_l v1), none, some (vm_i v3), some (vm_i v4)] [] m2 _
  refine vm_gp [(.aload 0, 0, 0, []), (.iload 3, 0, 0, []), (.iload 4, 0, 0, [])] (pc1 := 13) (ls1 := [some (vm_r 96), some (vm_l v1), none, some (vm_i v3), some (vm_i v4)]) (st1 := [vm_i v4, vm_i v3, vm_r 96]) (m1 := m2) (ob := true) (by decide +kernel) rfl rfl ?_
  refine vm_gc (g := 205) (na := 3) (av := [vm_r 96, vm_i v3, vm_i v4]) (rest := []) (i := (.invokevirtual 0, 205, 3, [])) (len := 3) (by decide +kernel) rfl rfl rfl (by decide +kernel) (by decide +kernel) rfl rfl (vm_u (vm_okh_v (c := 11) (by decide +kernel) (by decide +kernel)) (show vm_okn 205 3 0 0 0 3 = true by decide +kernel)) ?_
  refine vm_G.mono h ?_
  rintro _ m3 ⟨z3, rfl, h⟩
  show vm_G 206 16 [some (vm_r 96), some (vm_l v1), none, some (vm_i v3), some (vm_i v4)] [vm_i z3] m3 _
  exact vm_gr (r := some (vm_i z3)) (i := (.ireturn, 1, 0, [])) (len := 1) (by decide +kernel) rfl rfl rfl ⟨_, rfl, h⟩
abbrev ku11_readBoard_0  (m : vm_M) (Q : vm_M → Prop) : Prop := vm_G 207 0 [some (vm_r 96)] [] m (vm_qv Q)
abbrev ku11_readBoard_129  (m : vm_M) (Q : vm_M → Prop) : Prop := vm_G 207 129 [some (vm_r 96)] [] m (vm_qv Q)
set_option maxRecDepth 20000 in
theorem ru11_readBoard_0  {m : vm_M} {Q : vm_M → Prop}  (h :
    (vm_C 206 [vm_r 96, vm_l 2590276, vm_i 10, vm_i 9999] m (vm_qi (fun z1 m1 =>
      (vm_C 205 [vm_r 96, vm_i 1, vm_i 9999] (vm_st m1 111 0 z1) (vm_qi (fun z2 m2 =>
        (vm_C 206 [vm_r 96, vm_l 398372, vm_i 0, vm_i 99] (vm_st m2 111 1 z2) (vm_qi (fun z3 m3 =>
          (vm_C 206 [vm_r 96, vm_l 3120, vm_i 1, vm_i 30] (vm_st m3 111 2 z3) (vm_qi (fun z4 m4 =>
            (vm_C 206 [vm_r 96, vm_l 7216, vm_i 0, vm_i ((vm_st m4 96 32 z4) 96 32)] (vm_st m4 96 32 z4) (vm_qi (fun z5 m5 =>
              (vm_C 206 [vm_r 96, vm_l 769604, vm_i 0, vm_i 99] (vm_st m5 111 3 z5) (vm_qi (fun z6 m6 =>
                (vm_C 206 [vm_r 96, vm_l 632645, vm_i 1, vm_i 9] (vm_st m6 111 4 z6) (vm_qi (fun z7 m7 =>
                  ((¬ ((vm_st m7 111 5 z7) 96 28) = 4 →
                    (vm_C 203 [vm_r 96, vm_i 0] (vm_st m7 111 5 z7) (vm_qv (fun m8 =>
                      ku11_readBoard_129 m8 Q)))) ∧ (¬ ¬ ((vm_st m7 111 5 z7) 96 28) = 4 →
                    (vm_C 203 [vm_r 96, vm_i 1] (vm_st m7 111 5 z7) (vm_qv (fun m9 =>
                      ku11_readBoard_129 m9 Q))))))))))))))))))))))))))) : vm_C 207 [vm_r 96] m (vm_qv Q) := by
  show vm_G 207 0 [some (vm_r 96)] [] m (vm_qv Q)
  refine vm_gp [(.aload 0, 0, 0, []), (.getfield 2, 11, 34, [(111, 0)]), (.iconst 0, 0, 0, []), (.aload 0, 0, 0, []), (.ldc2_w 0, 0, 0, [(2590276, 0)]), (.iconst 10, 0, 0, []), (.iconst 9999, 0, 0, [])] (pc1 := 14) (ls1 := [some (vm_r 96)]) (st1 := [vm_i 9999, vm_i 10, vm_l 2590276, vm_r 96, vm_i 0, vm_r 111]) (m1 := m) (ob := ((true && vm_is 96 11) && true)) (by decide +kernel) rfl (vm_u (vm_u rfl (by decide +kernel)) rfl) ?_
  refine vm_gc (g := 206) (na := 4) (av := [vm_r 96, vm_l 2590276, vm_i 10, vm_i 9999]) (rest := [vm_i 0, vm_r 111]) (i := (.invokevirtual 0, 206, 4, [])) (len := 3) (by decide +kernel) rfl rfl rfl (by decide +kernel) (by decide +kernel) rfl rfl (vm_u (vm_okh_v (c := 11) (by decide +kernel) (by decide +kernel)) (show vm_okn 206 4 2 0 0 5 = true by decide +kernel)) ?_
  refine vm_G.mono h ?_
  rintro _ m1 ⟨z1, rfl, h⟩
  show vm_G 207 17 [some (vm_r 96)] [vm_i z1, vm_i 0, vm_r 111] m1 _
  refine vm_gp [(.iastore, 6, 0, []), (.aload 0, 0, 0, []), (.getfield 2, 11, 34, [(111, 0)]), (.iconst 1, 0, 0, []), (.aload 0, 0, 0, []), (.iconst 1, 0, 0, []), (.iconst 9999, 0, 0, [])] (pc1 := 28) (ls1 := [some (vm_r 96)]) (st1 := [vm_i 9999, vm_i 1, vm_r 96, vm_i 1, vm_r 111]) (m1 := (vm_st m1 111 0 z1)) (ob := ((((true && vm_ar 111 100 6) && decide ((0 : Int) ≤ 0 ∧ (0 : Int) < 6)) && vm_is 96 11) && true)) (by decide +kernel) rfl (vm_u (vm_u (vm_t (vm_u rfl (by decide +kernel)) (by decide)) (by decide +kernel)) rfl) ?_
  refine vm_gc (g := 205) (na := 3) (av := [vm_r 96, vm_i 1, vm_i 9999]) (rest := [vm_i 1, vm_r 111]) (i := (.invokevirtual 0, 205, 3, [])) (len := 3) (by decide +kernel) rfl rfl rfl (by decide +kernel) (by decide +kernel) rfl rfl (vm_u (vm_okh_v (c := 11) (by decide +kernel) (by decide +kernel)) (show vm_okn 205 3 2 0 0 3 = true by decide +kernel)) ?_
  refine vm_G.mono h ?_
  rintro _ m2 ⟨z2, rfl, h⟩
  show vm_G 207 31 [some (vm_r 96)] [vm_i z2, vm_i 1, vm_r 111] m2 _
  refine vm_gp [(.iastore, 6, 0, []), (.aload 0, 0, 0, []), (.getfield 2, 11, 34, [(111, 0)]), (.iconst 2, 0, 0, []), (.aload 0, 0, 0, []), (.ldc2_w 0, 0, 0, [(398372, 0)]), (.iconst 0, 0, 0, []), (.iconst 99, 0, 0, [])] (pc1 := 44) (ls1 := [some (vm_r 96)]) (st1 := [vm_i 99, vm_i 0, vm_l 398372, vm_r 96, vm_i 2, vm_r 111]) (m1 := (vm_st m2 111 1 z2)) (ob := ((((true && vm_ar 111 100 6) && decide ((0 : Int) ≤ 1 ∧ (1 : Int) < 6)) && vm_is 96 11) && true)) (by decide +kernel) rfl (vm_u (vm_u (vm_t (vm_u rfl (by decide +kernel)) (by decide)) (by decide +kernel)) rfl) ?_
  refine vm_gc (g := 206) (na := 4) (av := [vm_r 96, vm_l 398372, vm_i 0, vm_i 99]) (rest := [vm_i 2, vm_r 111]) (i := (.invokevirtual 0, 206, 4, [])) (len := 3) (by decide +kernel) rfl rfl rfl (by decide +kernel) (by decide +kernel) rfl rfl (vm_u (vm_okh_v (c := 11) (by decide +kernel) (by decide +kernel)) (show vm_okn 206 4 2 0 0 5 = true by decide +kernel)) ?_
  refine vm_G.mono h ?_
  rintro _ m3 ⟨z3, rfl, h⟩
  show vm_G 207 47 [some (vm_r 96)] [vm_i z3, vm_i 2, vm_r 111] m3 _
  refine vm_gp [(.iastore, 6, 0, []), (.aload 0, 0, 0, []), (.aload 0, 0, 0, []), (.ldc2_w 0, 0, 0, [(3120, 0)]), (.iconst 1, 0, 0, []), (.iconst 30, 0, 0, [])] (pc1 := 56) (ls1 := [some (vm_r 96)]) (st1 := [vm_i 30, vm_i 1, vm_l 3120, vm_r 96, vm_r 96]) (m1 := (vm_st m3 111 2 z3)) (ob := ((true && vm_ar 111 100 6) && decide ((0 : Int) ≤ 2 ∧ (2 : Int) < 6))) (by decide +kernel) rfl (vm_t (vm_u rfl (by decide +kernel)) (by decide)) ?_
  refine vm_gc (g := 206) (na := 4) (av := [vm_r 96, vm_l 3120, vm_i 1, vm_i 30]) (rest := [vm_r 96]) (i := (.invokevirtual 0, 206, 4, [])) (len := 3) (by decide +kernel) rfl rfl rfl (by decide +kernel) (by decide +kernel) rfl rfl (vm_u (vm_okh_v (c := 11) (by decide +kernel) (by decide +kernel)) (show vm_okn 206 4 1 0 0 5 = true by decide +kernel)) ?_
  refine vm_G.mono h ?_
  rintro _ m4 ⟨z4, rfl, h⟩
  show vm_G 207 59 [some (vm_r 96)] [vm_i z4, vm_r 96] m4 _
  refine vm_gp [(.putfield 0, 11, 32, []), (.aload 0, 0, 0, []), (.getfield 2, 11, 34, [(111, 0)]), (.iconst 3, 0, 0, []), (.aload 0, 0, 0, []), (.ldc2_w 0, 0, 0, [(7216, 0)]), (.iconst 0, 0, 0, []), (.aload 0, 0, 0, []), (.getfield 0, 11, 32, [])] (pc1 := 76) (ls1 := [some (vm_r 96)]) (st1 := [vm_i ((vm_st m4 96 32 z4) 96 32), vm_i 0, vm_l 7216, vm_r 96, vm_i 3, vm_r 111]) (m1 := (vm_st m4 96 32 z4)) (ob := ((((true && vm_is 96 11) && vm_is 96 11) && true) && vm_is 96 11)) (by decide +kernel) rfl (vm_u (vm_u (vm_u (vm_u rfl (by decide +kernel)) (by decide +kernel)) rfl) (by decide +kernel)) ?_
  refine vm_gc (g := 206) (na := 4) (av := [vm_r 96, vm_l 7216, vm_i 0, vm_i ((vm_st m4 96 32 z4) 96 32)]) (rest := [vm_i 3, vm_r 111]) (i := (.invokevirtual 0, 206, 4, [])) (len := 3) (by decide +kernel) rfl rfl rfl (by decide +kernel) (by decide +kernel) rfl rfl (vm_u (vm_okh_v (c := 11) (by decide +kernel) (by decide +kernel)) (show vm_okn 206 4 2 0 0 5 = true by decide +kernel)) ?_
  refine vm_G.mono h ?_
  rintro _ m5 ⟨z5, rfl, h⟩
  show vm_G 207 79 [some (vm_r 96)] [vm_i z5, vm_i 3, vm_r 111] m5 _
  refine vm_gp [(.iastore, 6, 0, []), (.aload 0, 0, 0, []), (.getfield 2, 11, 34, [(111, 0)]), (.iconst 4, 0, 0, []), (.aload 0, 0, 0, []), (.ldc2_w 0, 0, 0, [(769604, 0)]), (.iconst 0, 0, 0, []), (.iconst 99, 0, 0, [])] (pc1 := 92) (ls1 := [some (vm_r 96)]) (st1 := [vm_i 99, vm_i 0, vm_l 769604, vm_r 96, vm_i 4, vm_r 111]) (m1 := (vm_st m5 111 3 z5)) (ob := ((((true && vm_ar 111 100 6) && decide ((0 : Int) ≤ 3 ∧ (3 : Int) < 6)) && vm_is 96 11) && true)) (by decide +kernel) rfl (vm_u (vm_u (vm_t (vm_u rfl (by decide +kernel)) (by decide)) (by decide +kernel)) rfl) ?_
  refine vm_gc (g := 206) (na := 4) (av := [vm_r 96, vm_l 769604, vm_i 0, vm_i 99]) (rest := [vm_i 4, vm_r 111]) (i := (.invokevirtual 0, 206, 4, [])) (len := 3) (by decide +kernel) rfl rfl rfl (by decide +kernel) (by decide +kernel) rfl rfl (vm_u (vm_okh_v (c := 11) (by decide +kernel) (by decide +kernel)) (show vm_okn 206 4 2 0 0 5 = true by decide +kernel)) ?_
  refine vm_G.mono h ?_
  rintro _ m6 ⟨z6, rfl, h⟩
  show vm_G 207 95 [some (vm_r 96)] [vm_i z6, vm_i 4, vm_r 111] m6 _
  refine vm_gp [(.iastore, 6, 0, []), (.aload 0, 0, 0, []), (.getfield 2, 11, 34, [(111, 0)]), (.iconst 5, 0, 0, []), (.aload 0, 0, 0, []), (.ldc2_w 0, 0, 0, [(632645, 0)]), (.iconst 1, 0, 0, []), (.iconst 9, 0, 0, [])] (pc1 := 108) (ls1 := [some (vm_r 96)]) (st1 := [vm_i 9, vm_i 1, vm_l 632645, vm_r 96, vm_i 5, vm_r 111]) (m1 := (vm_st m6 111 4 z6)) (ob := ((((true && vm_ar 111 100 6) && decide ((0 : Int) ≤ 4 ∧ (4 : Int) < 6)) && vm_is 96 11) && true)) (by decide +kernel) rfl (vm_u (vm_u (vm_t (vm_u rfl (by decide +kernel)) (by decide)) (by decide +kernel)) rfl) ?_
  refine vm_gc (g := 206) (na := 4) (av := [vm_r 96, vm_l 632645, vm_i 1, vm_i 9]) (rest := [vm_i 5, vm_r 111]) (i := (.invokevirtual 0, 206, 4, [])) (len := 3) (by decide +kernel) rfl rfl rfl (by decide +kernel) (by decide +kernel) rfl rfl (vm_u (vm_okh_v (c := 11) (by decide +kernel) (by decide +kernel)) (show vm_okn 206 4 2 0 0 5 = true by decide +kernel)) ?_
  refine vm_G.mono h ?_
  rintro _ m7 ⟨z7, rfl, h⟩
  show vm_G 207 111 [some (vm_r 96)] [vm_i z7, vm_i 5, vm_r 111] m7 _
  refine vm_gp [(.iastore, 6, 0, []), (.aload 0, 0, 0, []), (.aload 0, 0, 0, []), (.getfield 0, 11, 28, []), (.iconst 4, 0, 0, [])] (pc1 := 118) (ls1 := [some (vm_r 96)]) (st1 := [vm_i 4, vm_i ((vm_st m7 111 5 z7) 96 28), vm_r 96]) (m1 := (vm_st m7 111 5 z7)) (ob := (((true && vm_ar 111 100 6) && decide ((0 : Int) ≤ 5 ∧ (5 : Int) < 6)) && vm_is 96 11)) (by decide +kernel) rfl (vm_u (vm_t (vm_u rfl (by decide +kernel)) (by decide)) (by decide +kernel)) ?_
  refine vm_gj (c := ¬ ((vm_st m7 111 5 z7) 96 28) = 4) (t := 125) (e := 121) (i := (.if_icmp .ne 0, 125, 0, [])) (len := 3) (st1 := [vm_r 96]) (by decide +kernel) rfl rfl (fun c1 => ?_) (fun c1 => ?_)
  · replace h := h.1 c1
    refine vm_gp [(.iconst 0, 0, 0, [])] (pc1 := 126) (ls1 := [some (vm_r 96)]) (st1 := [vm_i 0, vm_r 96]) (m1 := (vm_st m7 111 5 z7)) (ob := true) (by decide +kernel) rfl rfl ?_
    refine vm_gc (g := 203) (na := 2) (av := [vm_r 96, vm_i 0]) (rest := []) (i := (.invokevirtual 0, 203, 2, [])) (len := 3) (by decide +kernel) rfl rfl rfl (by decide +kernel) (by decide +kernel) rfl rfl (vm_u (vm_okh_v (c := 11) (by decide +kernel) (by decide +kernel)) (show vm_okn 203 2 0 0 0 2 = true by decide +kernel)) ?_
    refine vm_G.mono h ?_
    rintro _ m8 ⟨rfl, h⟩
    show vm_G 207 129 [some (vm_r 96)] [] m8 _
    exact h
  · replace h := h.2 c1
    refine vm_gp [(.iconst 1, 0, 0, []), (.goto 0, 126, 0, [])] (pc1 := 126) (ls1 := [some (vm_r 96)]) (st1 := [vm_i 1, vm_r 96]) (m1 := (vm_st m7 111 5 z7)) (ob := true) (by decide +kernel) rfl rfl ?_
    refine vm_gc (g := 203) (na := 2) (av := [vm_r 96, vm_i 1]) (rest := []) (i := (.invokevirtual 0, 203, 2, [])) (len := 3) (by decide +kernel) rfl rfl rfl (by decide +kernel) (by decide +kernel) rfl rfl (vm_u (vm_okh_v (c := 11) (by decide +kernel) (by decide +kernel)) (show vm_okn 203 2 0 0 0 2 = true by decide +kernel)) ?_
    refine vm_G.mono h ?_
    rintro _ m9 ⟨rfl, h⟩
    show vm_G 207 129 [some (vm_r 96)] [] m9 _
    exact h
set_option maxRecDepth 20000 in
theorem ru11_readBoard_129  {m : vm_M} {Q : vm_M → Prop}  (h :
    Q m) : ku11_readBoard_129 m Q := by
  show vm_G 207 129 [some (vm_r 96)] [] m (vm_qv Q)
  exact vm_gr (r := none) (i := (.return_, 0, 0, [])) (len := 1) (by decide +kernel) rfl rfl rfl ⟨rfl, h⟩
abbrev ku11_isTold_0 (v1 : Int) (m : vm_M) (Q : Int → vm_M → Prop) : Prop := vm_G 208 0 [some (vm_r 96), some (vm_i v1)] [] m (vm_qi Q)
set_option maxRecDepth 20000 in
theorem ru11_isTold_0 {v1 : Int} {m : vm_M} {Q : Int → vm_M → Prop}  (h :
    ((¬ (m 96 28) = 2 →
      Q 0 m) ∧ (¬ ¬ (m 96 28) = 2 →
      ((¬ (vm_and (vm_shr (m 96 33) (vm_w32 ((vm_w32 (m 96 29)) - 1))) 1) = 1 →
        ((¬ 0 = v1 →
          Q 0 m) ∧ (¬ ¬ 0 = v1 →
          Q 1 m))) ∧ (¬ ¬ (vm_and (vm_shr (m 96 33) (vm_w32 ((vm_w32 (m 96 29)) - 1))) 1) = 1 →
        ((¬ 1 = v1 →
          Q 0 m) ∧ (¬ ¬ 1 = v1 →
          Q 1 m))))))) : vm_C 208 [vm_r 96, vm_i v1] m (vm_qi Q) := by
  show vm_G 208 0 [some (vm_r 96), some (vm_i v1)] [] m (vm_qi Q)
  refine vm_gp [(.aload 0, 0, 0, []), (.getfield 0, 11, 28, []), (.iconst 2, 0, 0, [])] (pc1 := 5) (ls1 := [some (vm_r 96), some (vm_i v1)]) (st1 := [vm_i 2, vm_i (m 96 28)]) (m1 := m) (ob := (true && vm_is 96 11)) (by decide +kernel) rfl (vm_u rfl (by decide +kernel)) ?_
  refine vm_gj (c := ¬ (m 96 28) = 2) (t := 39) (e := 8) (i := (.if_icmp .ne 0, 39, 0, [])) (len := 3) (st1 := []) (by decide +kernel) rfl rfl (fun c1 => ?_) (fun c1 => ?_)
  · replace h := h.1 c1
    refine vm_gp [(.iconst 0, 0, 0, [])] (pc1 := 40) (ls1 := [some (vm_r 96), some (vm_i v1)]) (st1 := [vm_i 0]) (m1 := m) (ob := true) (by decide +kernel) rfl rfl ?_
    exact vm_gr (r := some (vm_i 0)) (i := (.ireturn, 2, 0, [])) (len := 1) (by decide +kernel) rfl rfl (by decide) ⟨_, rfl, h⟩
  · replace h := h.2 c1
    refine vm_gp [(.aload 0, 0, 0, []), (.getfield 0, 11, 33, []), (.aload 0, 0, 0, []), (.getfield 1, 11, 29, []), (.l2i, 0, 0, []), (.iconst 1, 0, 0, []), (.isub, 1, 0, []), (.ishr, 0, 0, []), (.iconst 1, 0, 0, []), (.iand, 0, 0, []), (.iconst 1, 0, 0, [])] (pc1 := 23) (ls1 := [some (vm_r 96), some (vm_i v1)]) (st1 := [vm_i 1, vm_i (vm_and (vm_shr (m 96 33) (vm_w32 ((vm_w32 (m 96 29)) - 1))) 1)]) (m1 := m) (ob := ((true && vm_is 96 11) && vm_is 96 11)) (by decide +kernel) rfl (vm_u (vm_u rfl (by decide +kernel)) (by decide +kernel)) ?_
    refine vm_gj (c := ¬ (vm_and (vm_shr (m 96 33) (vm_w32 ((vm_w32 (m 96 29)) - 1))) 1) = 1) (t := 30) (e := 26) (i := (.if_icmp .ne 0, 30, 0, [])) (len := 3) (st1 := []) (by decide +kernel) rfl rfl (fun c2 => ?_) (fun c2 => ?_)
    · replace h := h.1 c2
      refine vm_gp [(.iconst 0, 0, 0, []), (.iload 1, 0, 0, [])] (pc1 := 32) (ls1 := [some (vm_r 96), some (vm_i v1)]) (st1 := [vm_i v1, vm_i 0]) (m1 := m) (ob := true) (by decide +kernel) rfl rfl ?_
      refine vm_gj (c := ¬ 0 = v1) (t := 39) (e := 35) (i := (.if_icmp .ne 0, 39, 0, [])) (len := 3) (st1 := []) (by decide +kernel) rfl rfl (fun c3 => ?_) (fun c3 => ?_)
      · replace h := h.1 c3
        refine vm_gp [(.iconst 0, 0, 0, [])] (pc1 := 40) (ls1 := [some (vm_r 96), some (vm_i v1)]) (st1 := [vm_i 0]) (m1 := m) (ob := true) (by decide +kernel) rfl rfl ?_
        exact vm_gr (r := some (vm_i 0)) (i := (.ireturn, 2, 0, [])) (len := 1) (by decide +kernel) rfl rfl (by decide) ⟨_, rfl, h⟩
      · replace h := h.2 c3
        refine vm_gp [(.iconst 1, 0, 0, []), (.goto 0, 40, 0, [])] (pc1 := 40) (ls1 := [some (vm_r 96), some (vm_i v1)]) (st1 := [vm_i 1]) (m1 := m) (ob := true) (by decide +kernel) rfl rfl ?_
        exact vm_gr (r := some (vm_i 1)) (i := (.ireturn, 2, 0, [])) (len := 1) (by decide +kernel) rfl rfl (by decide) ⟨_, rfl, h⟩
    · replace h := h.2 c2
      refine vm_gp [(.iconst 1, 0, 0, []), (.goto 0, 31, 0, []), (.iload 1, 0, 0, [])] (pc1 := 32) (ls1 := [some (vm_r 96), some (vm_i v1)]) (st1 := [vm_i v1, vm_i 1]) (m1 := m) (ob := true) (by decide +kernel) rfl rfl ?_
      refine vm_gj (c := ¬ 1 = v1) (t := 39) (e := 35) (i := (.if_icmp .ne 0, 39, 0, [])) (len := 3) (st1 := []) (by decide +kernel) rfl rfl (fun c4 => ?_) (fun c4 => ?_)
      · replace h := h.1 c4
        refine vm_gp [(.iconst 0, 0, 0, [])] (pc1 := 40) (ls1 := [some (vm_r 96), some (vm_i v1)]) (st1 := [vm_i 0]) (m1 := m) (ob := true) (by decide +kernel) rfl rfl ?_
        exact vm_gr (r := some (vm_i 0)) (i := (.ireturn, 2, 0, [])) (len := 1) (by decide +kernel) rfl rfl (by decide) ⟨_, rfl, h⟩
      · replace h := h.2 c4
        refine vm_gp [(.iconst 1, 0, 0, []), (.goto 0, 40, 0, [])] (pc1 := 40) (ls1 := [some (vm_r 96), some (vm_i v1)]) (st1 := [vm_i 1]) (m1 := m) (ob := true) (by decide +kernel) rfl rfl ?_
        exact vm_gr (r := some (vm_i 1)) (i := (.ireturn, 2, 0, [])) (len := 1) (by decide +kernel) rfl rfl (by decide) ⟨_, rfl, h⟩
abbrev ku11_readSide_0 (v1 : Int) (m : vm_M) (Q : vm_M → Prop) : Prop := vm_G 209 0 [some (vm_r 96), some (vm_i v1), none] [] m (vm_qv Q)
abbrev ku11_readSide_2 (v1 : Int) (v2 : Int) (m : vm_M) (Q : vm_M → Prop) : Prop := vm_G 209 2 [some (vm_r 96), some (vm_i v1), some (vm_i v2)] [] m (vm_qv Q)
set_option maxRecDepth 20000 in
theorem ru11_readSide_0 {v1 : Int} {m : vm_M} {Q : vm_M → Prop}  (h :
    ku11_readSide_2 v1 0 m Q) : vm_C 209 [vm_r 96, vm_i v1] m (vm_qv Q) := by
  show vm_G 209 0 [some (vm_r 96), some (vm_i v1), none] [] m (vm_qv Q)
  refine vm_gp [(.iconst 0, 0, 0, []), (.istore 2, 0, 0, [])] (pc1 := 2) (ls1 := [some (vm_r 96), some (vm_i v1), some (vm_i 0)]) (st1 := []) (m1 := m) (ob := true) (by decide +kernel) rfl rfl ?_
  exact h
set_option maxRecDepth 20000 in
theorem ru11_readSide_2 {v1 : Int} {v2 : Int} {m : vm_M} {Q : vm_M → Prop}  (h :
    ((6 ≤ v2 →
      Q m) ∧ (¬ 6 ≤ v2 →
      (((m 96 31) = 0 →
        Q m) ∧ (¬ (m 96 31) = 0 →
        (vm_C 204 [vm_r 96, vm_l 508078] m (vm_qi (fun z1 m1 =>
          ((z1 = 0 →
            ((vm_32 (v1 + v2))) ∧
            (vm_C 205 [vm_r 96, vm_i 0, vm_i 9] m1 (vm_qi (fun z2 m2 =>
              ((0 ≤ (v1 + v2) ∧ (v1 + v2) < 312) ∧ (vm_32 (v2 + 1))) ∧
              ku11_readSide_2 v1 (v2 + 1) (vm_st m2 113 (v1 + v2) z2) Q)))) ∧ (¬ z1 = 0 →
            ((vm_32 (v1 + v2)) ∧ (0 ≤ (v1 + v2) ∧ (v1 + v2) < 312)) ∧
            (vm_C 202 [vm_r 96] (vm_st m1 113 (v1 + v2) (-1)) (vm_qv (fun m3 =>
              ((vm_32 (v2 + 1))) ∧
              ku11_readSide_2 v1 (v2 + 1) m3 Q))))))))))))) : ku11_readSide_2 v1 v2 m Q := by
  show vm_G 209 2 [some (vm_r 96), some (vm_i v1), some (vm_i v2)] [] m (vm_qv Q)
  refine vm_gp [(.iload 2, 0, 0, []), (.iconst 6, 0, 0, [])] (pc1 := 5) (ls1 := [some (vm_r 96), some (vm_i v1), some (vm_i v2)]) (st1 := [vm_i 6, vm_i v2]) (m1 := m) (ob := true) (by decide +kernel) rfl rfl ?_
  refine vm_gj (c := 6 ≤ v2) (t := 62) (e := 8) (i := (.if_icmp .ge 0, 62, 0, [])) (len := 3) (st1 := []) (by decide +kernel) rfl rfl (fun c1 => ?_) (fun c1 => ?_)
  · replace h := h.1 c1
    exact vm_gr (r := none) (i := (.return_, 0, 0, [])) (len := 1) (by decide +kernel) rfl rfl rfl ⟨rfl, h⟩
  · replace h := h.2 c1
    refine vm_gp [(.aload 0, 0, 0, []), (.getfield 0, 11, 31, [])] (pc1 := 12) (ls1 := [some (vm_r 96), some (vm_i v1), some (vm_i v2)]) (st1 := [vm_i (m 96 31)]) (m1 := m) (ob := (true && vm_is 96 11)) (by decide +kernel) rfl (vm_u rfl (by decide +kernel)) ?_
    refine vm_gj (c := (m 96 31) = 0) (t := 62) (e := 15) (i := (.ifCond .eq 0, 62, 0, [])) (len := 3) (st1 := []) (by decide +kernel) rfl rfl (fun c2 => ?_) (fun c2 => ?_)
    · replace h := h.1 c2
      exact vm_gr (r := none) (i := (.return_, 0, 0, [])) (len := 1) (by decide +kernel) rfl rfl rfl ⟨rfl, h⟩
    · replace h := h.2 c2
      refine vm_gp [(.aload 0, 0, 0, []), (.ldc2_w 0, 0, 0, [(508078, 0)])] (pc1 := 19) (ls1 := [some (vm_r 96), some (vm_i v1), some (vm_i v2)]) (st1 := [vm_l 508078, vm_r 96]) (m1 := m) (ob := true) (by decide +kernel) rfl rfl ?_
      refine vm_gc (g := 204) (na := 2) (av := [vm_r 96, vm_l 508078]) (rest := []) (i := (.invokevirtual 0, 204, 2, [])) (len := 3) (by decide +kernel) rfl rfl rfl (by decide +kernel) (by decide +kernel) rfl rfl (vm_u (vm_okh_v (c := 11) (by decide +kernel) (by decide +kernel)) (show vm_okn 204 2 0 0 0 3 = true by decide +kernel)) ?_
      refine vm_G.mono h ?_
      rintro _ m1 ⟨z1, rfl, h⟩
      show vm_G 209 22 [some (vm_r 96), some (vm_i v1), some (vm_i v2)] [vm_i z1] m1 _
      refine vm_gj (c := z1 = 0) (t := 41) (e := 25) (i := (.ifCond .eq 0, 41, 0, [])) (len := 3) (st1 := []) (by decide +kernel) rfl rfl (fun c3 => ?_) (fun c3 => ?_)
      · replace h := h.1 c3
        obtain ⟨o7_0, h⟩ := h
        refine vm_gp [(.aload 0, 0, 0, []), (.getfield 2, 11, 36, [(113, 0)]), (.iload 1, 0, 0, []), (.iload 2, 0, 0, []), (.iadd, 0, 0, []), (.aload 0, 0, 0, []), (.iconst 0, 0, 0, []), (.iconst 9, 0, 0, [])] (pc1 := 52) (ls1 := [some (vm_r 96), some (vm_i v1), some (vm_i v2)]) (st1 := [vm_i 9, vm_i 0, vm_r 96, vm_i (v1 + v2), vm_r 113]) (m1 := m1) (ob := (((true && vm_is 96 11) && true) && decide (vm_32 (v1 + v2)))) (by decide +kernel) rfl (vm_t (vm_u (vm_u rfl (by decide +kernel)) rfl) o7_0) ?_
        refine vm_gc (g := 205) (na := 3) (av := [vm_r 96, vm_i 0, vm_i 9]) (rest := [vm_i (v1 + v2), vm_r 113]) (i := (.invokevirtual 0, 205, 3, [])) (len := 3) (by decide +kernel) rfl rfl rfl (by decide +kernel) (by decide +kernel) rfl rfl (vm_u (vm_okh_v (c := 11) (by decide +kernel) (by decide +kernel)) (show vm_okn 205 3 2 0 0 3 = true by decide +kernel)) ?_
        refine vm_G.mono h ?_
        rintro _ m2 ⟨z2, rfl, h⟩
        show vm_G 209 55 [some (vm_r 96), some (vm_i v1), some (vm_i v2)] [vm_i z2, vm_i (v1 + v2), vm_r 113] m2 _
        obtain ⟨⟨o8_0, o8_1⟩, h⟩ := h
        refine vm_gp [(.iastore, 312, 0, []), (.iinc 2 1, 0, 0, []), (.goto 0, 2, 0, [])] (pc1 := 2) (ls1 := [some (vm_r 96), some (vm_i v1), some (vm_i (v2 + 1))]) (st1 := []) (m1 := (vm_st m2 113 (v1 + v2) z2)) (ob := (((true && vm_ar 113 100 312) && decide (0 ≤ (v1 + v2) ∧ (v1 + v2) < 312)) && decide (vm_32 (v2 + 1)))) (by decide +kernel) rfl (vm_t (vm_t (vm_u rfl (by decide +kernel)) o8_0) o8_1) ?_
        exact h
      · replace h := h.2 c3
        obtain ⟨⟨o9_0, o9_1⟩, h⟩ := h
        refine vm_gp [(.aload 0, 0, 0, []), (.getfield 2, 11, 36, [(113, 0)]), (.iload 1, 0, 0, []), (.iload 2, 0, 0, []), (.iadd, 0, 0, []), (.iconst (-1), 0, 0, []), (.iastore, 312, 0, []), (.aload 0, 0, 0, [])] (pc1 := 35) (ls1 := [some (vm_r 96), some (vm_i v1), some (vm_i v2)]) (st1 := [vm_r 96]) (m1 := (vm_st m1 113 (v1 + v2) (-1))) (ob := (((((true && vm_is 96 11) && true) && decide (vm_32 (v1 + v2))) && vm_ar 113 100 312) && decide (0 ≤ (v1 + v2) ∧ (v1 + v2) < 312))) (by decide +kernel) rfl (vm_t (vm_u (vm_t (vm_u (vm_u rfl (by decide +kernel)) rfl) o9_0) (by decide +kernel)) o9_1) ?_
        refine vm_gc (g := 202) (na := 1) (av := [vm_r 96]) (rest := []) (i := (.invokevirtual 0, 202, 1, [])) (len := 3) (by decide +kernel) rfl rfl rfl (by decide +kernel) (by decide +kernel) rfl rfl (vm_u (vm_okh_v (c := 11) (by decide +kernel) (by decide +kernel)) (show vm_okn 202 1 0 0 0 1 = true by decide +kernel)) ?_
        refine vm_G.mono h ?_
        rintro _ m3 ⟨rfl, h⟩
        show vm_G 209 38 [some (vm_r 96), some (vm_i v1), some (vm_i v2)] [] m3 _
        obtain ⟨o10_0, h⟩ := h
        refine vm_gp [(.goto 0, 56, 0, []), (.iinc 2 1, 0, 0, []), (.goto 0, 2, 0, [])] (pc1 := 2) (ls1 := [some (vm_r 96), some (vm_i v1), some (vm_i (v2 + 1))]) (st1 := []) (m1 := m3) (ob := (true && decide (vm_32 (v2 + 1)))) (by decide +kernel) rfl (vm_t rfl o10_0) ?_
        exact h
abbrev ku11_readLetter_0  (m : vm_M) (Q : vm_M → Prop) : Prop := vm_G 210 0 [some (vm_r 96), none, none] [] m (vm_qv Q)
abbrev ku11_readLetter_11 (w1 : Option vm_V) (w2 : Option vm_V) (m : vm_M) (Q : vm_M → Prop) : Prop := vm_G 210 11 [some (vm_r 96), w1, w2] [] m (vm_qv Q)
abbrev ku11_readLetter_44 (v1 : Int) (w2 : Option vm_V) (m : vm_M) (Q : vm_M → Prop) : Prop := vm_G 210 44 [some (vm_r 96), some (vm_i v1), w2] [] m (vm_qv Q)
abbrev ku11_readLetter_66 (v1 : Int) (v2 : Int) (m : vm_M) (Q : vm_M → Prop) : Prop := vm_G 210 66 [some (vm_r 96), some (vm_i v1), some (vm_i v2)] [] m (vm_qv Q)
abbrev ku11_readLetter_92 (v1 : Int) (v2 : Int) (m : vm_M) (Q : vm_M → Prop) : Prop := vm_G 210 92 [some (vm_r 96), some (vm_i v1), some (vm_i v2)] [] m (vm_qv Q)
abbrev ku11_readLetter_127 (v1 : Int) (v2 : Int) (m : vm_M) (Q : vm_M → Prop) : Prop := vm_G 210 127 [some (vm_r 96), some (vm_i v1), some (vm_i v2)] [] m (vm_qv Q)
set_option maxRecDepth 20000 in
theorem ru11_readLetter_0  {m : vm_M} {Q : vm_M → Prop}  (h :
    (vm_C 204 [vm_r 96, vm_l 408572082] m (vm_qi (fun z1 m1 =>
      (vm_C 203 [vm_r 96, vm_i z1] m1 (vm_qv (fun m2 =>
        ku11_readLetter_11 none none m2 Q))))))) : vm_C 210 [vm_r 96] m (vm_qv Q) := by
  show vm_G 210 0 [some (vm_r 96), none, none] [] m (vm_qv Q)
  refine vm_gp [(.aload 0, 0, 0, []), (.aload 0, 0, 0, []), (.ldc2_w 0, 0, 0, [(408572082, 0)])] (pc1 := 5) (ls1 := [some (vm_r 96), none, none]) (st1 := [vm_l 408572082, vm_r 96, vm_r 96]) (m1 := m) (ob := true) (by decide +kernel) rfl rfl ?_
  refine vm_gc (g := 204) (na := 2) (av := [vm_r 96, vm_l 408572082]) (rest := [vm_r 96]) (i := (.invokevirtual 0, 204, 2, [])) (len := 3) (by decide +kernel) rfl rfl rfl (by decide +kernel) (by decide +kernel) rfl rfl (vm_u (vm_okh_v (c := 11) (by decide +kernel) (by decide +kernel)) (show vm_okn 204 2 1 0 0 3 = true by decide +kernel)) ?_
  refine vm_G.mono h ?_
  rintro _ m1 ⟨z1, rfl, h⟩
  show vm_G 210 8 [some (vm_r 96), none, none] [vm_i z1, vm_r 96] m1 _
  refine vm_gc (g := 203) (na := 2) (av := [vm_r 96, vm_i z1]) (rest := []) (i := (.invokevirtual 0, 203, 2, [])) (len := 3) (by decide +kernel) rfl rfl rfl (by decide +kernel) (by decide +kernel) rfl rfl (vm_u (vm_okh_v (c := 11) (by decide +kernel) (by decide +kernel)) (show vm_okn 203 2 0 0 0 2 = true by decide +kernel)) ?_
  refine vm_G.mono h ?_
  rintro _ m2 ⟨rfl, h⟩
  show vm_G 210 11 [some (vm_r 96), none, none] [] m2 _
  exact h
set_option maxRecDepth 20000 in
theorem ru11_readLetter_11 {w1 : Option vm_V} {w2 : Option vm_V} {m : vm_M} {Q : vm_M → Prop}  (h :
    ((¬ (m 96 28) = 2 →
      (vm_C 203 [vm_r 96, vm_i 0] m (vm_qv (fun m1 =>
        ku11_readLetter_44 (vm_w32 ((vm_w32 (m 96 29)) - 1)) w2 m1 Q)))) ∧ (¬ ¬ (m 96 28) = 2 →
      (vm_C 208 [vm_r 96, vm_i 0] m (vm_qi (fun z2 m2 =>
        ((z2 = 0 →
          (vm_C 203 [vm_r 96, vm_i 0] m2 (vm_qv (fun m3 =>
            ku11_readLetter_44 (vm_w32 ((vm_w32 (m 96 29)) - 1)) w2 m3 Q)))) ∧ (¬ z2 = 0 →
          (vm_C 203 [vm_r 96, vm_i 1] m2 (vm_qv (fun m4 =>
            ku11_readLetter_44 (vm_w32 ((vm_w32 (m 96 29)) - 1)) w2 m4 Q))))))))))) : ku11_readLetter_11 w1 w2 m Q := by
  show vm_G 210 11 [some (vm_r 96), w1, w2] [] m (vm_qv Q)
  refine vm_gp [(.aload 0, 0, 0, []), (.getfield 1, 11, 29, []), (.l2i, 0, 0, []), (.iconst 1, 0, 0, []), (.isub, 1, 0, []), (.istore 1, 0, 0, []), (.aload 0, 0, 0, []), (.aload 0, 0, 0, []), (.getfield 0, 11, 28, []), (.iconst 2, 0, 0, [])] (pc1 := 25) (ls1 := [some (vm_r 96), some (vm_i (vm_w32 ((vm_w32 (m 96 29)) - 1))), w2]) (st1 := [vm_i 2, vm_i (m 96 28), vm_r 96]) (m1 := m) (ob := ((true && vm_is 96 11) && vm_is 96 11)) (by decide +kernel) rfl (vm_u (vm_u rfl (by decide +kernel)) (by decide +kernel)) ?_
  refine vm_gj (c := ¬ (m 96 28) = 2) (t := 40) (e := 28) (i := (.if_icmp .ne 0, 40, 0, [])) (len := 3) (st1 := [vm_r 96]) (by decide +kernel) rfl rfl (fun c1 => ?_) (fun c1 => ?_)
  · replace h := h.1 c1
    refine vm_gp [(.iconst 0, 0, 0, [])] (pc1 := 41) (ls1 := [some (vm_r 96), some (vm_i (vm_w32 ((vm_w32 (m 96 29)) - 1))), w2]) (st1 := [vm_i 0, vm_r 96]) (m1 := m) (ob := true) (by decide +kernel) rfl rfl ?_
    refine vm_gc (g := 203) (na := 2) (av := [vm_r 96, vm_i 0]) (rest := []) (i := (.invokevirtual 0, 203, 2, [])) (len := 3) (by decide +kernel) rfl rfl rfl (by decide +kernel) (by decide +kernel) rfl rfl (vm_u (vm_okh_v (c := 11) (by decide +kernel) (by decide +kernel)) (show vm_okn 203 2 0 0 0 2 = true by decide +kernel)) ?_
    refine vm_G.mono h ?_
    rintro _ m1 ⟨rfl, h⟩
    show vm_G 210 44 [some (vm_r 96), some (vm_i (vm_w32 ((vm_w32 (m 96 29)) - 1))), w2] [] m1 _
    exact h
  · replace h := h.2 c1
    refine vm_gp [(.aload 0, 0, 0, []), (.iconst 0, 0, 0, [])] (pc1 := 30) (ls1 := [some (vm_r 96), some (vm_i (vm_w32 ((vm_w32 (m 96 29)) - 1))), w2]) (st1 := [vm_i 0, vm_r 96, vm_r 96]) (m1 := m) (ob := true) (by decide +kernel) rfl rfl ?_
    refine vm_gc (g := 208) (na := 2) (av := [vm_r 96, vm_i 0]) (rest := [vm_r 96]) (i := (.invokevirtual 0, 208, 2, [])) (len := 3) (by decide +kernel) rfl rfl rfl (by decide +kernel) (by decide +kernel) rfl rfl (vm_u (vm_okh_v (c := 11) (by decide +kernel) (by decide +kernel)) (show vm_okn 208 2 1 0 0 2 = true by decide +kernel)) ?_
    refine vm_G.mono h ?_
    rintro _ m2 ⟨z2, rfl, h⟩
    show vm_G 210 33 [some (vm_r 96), some (vm_i (vm_w32 ((vm_w32 (m 96 29)) - 1))), w2] [vm_i z2, vm_r 96] m2 _
    refine vm_gj (c := z2 = 0) (t := 40) (e := 36) (i := (.ifCond .eq 0, 40, 0, [])) (len := 3) (st1 := [vm_r 96]) (by decide +kernel) rfl rfl (fun c2 => ?_) (fun c2 => ?_)
    · replace h := h.1 c2
      refine vm_gp [(.iconst 0, 0, 0, [])] (pc1 := 41) (ls1 := [some (vm_r 96), some (vm_i (vm_w32 ((vm_w32 (m 96 29)) - 1))), w2]) (st1 := [vm_i 0, vm_r 96]) (m1 := m2) (ob := true) (by decide +kernel) rfl rfl ?_
      refine vm_gc (g := 203) (na := 2) (av := [vm_r 96, vm_i 0]) (rest := []) (i := (.invokevirtual 0, 203, 2, [])) (len := 3) (by decide +kernel) rfl rfl rfl (by decide +kernel) (by decide +kernel) rfl rfl (vm_u (vm_okh_v (c := 11) (by decide +kernel) (by decide +kernel)) (show vm_okn 203 2 0 0 0 2 = true by decide +kernel)) ?_
      refine vm_G.mono h ?_
      rintro _ m3 ⟨rfl, h⟩
      show vm_G 210 44 [some (vm_r 96), some (vm_i (vm_w32 ((vm_w32 (m 96 29)) - 1))), w2] [] m3 _
      exact h
    · replace h := h.2 c2
      refine vm_gp [(.iconst 1, 0, 0, []), (.goto 0, 41, 0, [])] (pc1 := 41) (ls1 := [some (vm_r 96), some (vm_i (vm_w32 ((vm_w32 (m 96 29)) - 1))), w2]) (st1 := [vm_i 1, vm_r 96]) (m1 := m2) (ob := true) (by decide +kernel) rfl rfl ?_
      refine vm_gc (g := 203) (na := 2) (av := [vm_r 96, vm_i 1]) (rest := []) (i := (.invokevirtual 0, 203, 2, [])) (len := 3) (by decide +kernel) rfl rfl rfl (by decide +kernel) (by decide +kernel) rfl rfl (vm_u (vm_okh_v (c := 11) (by decide +kernel) (by decide +kernel)) (show vm_okn 203 2 0 0 0 2 = true by decide +kernel)) ?_
      refine vm_G.mono h ?_
      rintro _ m4 ⟨rfl, h⟩
      show vm_G 210 44 [some (vm_r 96), some (vm_i (vm_w32 ((vm_w32 (m 96 29)) - 1))), w2] [] m4 _
      exact h
set_option maxRecDepth 20000 in
theorem ru11_readLetter_44 {v1 : Int} {w2 : Option vm_V} {m : vm_M} {Q : vm_M → Prop}  (h :
    (vm_C 206 [vm_r 96, vm_l 763013, vm_i 1, vm_i 60] m (vm_qi (fun z1 m1 =>
      (vm_C 204 [vm_r 96, vm_l 398548] m1 (vm_qi (fun z2 m2 =>
        (vm_C 203 [vm_r 96, vm_i z2] m2 (vm_qv (fun m3 =>
          ku11_readLetter_66 v1 z1 m3 Q)))))))))) : ku11_readLetter_44 v1 w2 m Q := by
  show vm_G 210 44 [some (vm_r 96), some (vm_i v1), w2] [] m (vm_qv Q)
  refine vm_gp [(.aload 0, 0, 0, []), (.ldc2_w 0, 0, 0, [(763013, 0)]), (.iconst 1, 0, 0, []), (.iconst 60, 0, 0, [])] (pc1 := 51) (ls1 := [some (vm_r 96), some (vm_i v1), w2]) (st1 := [vm_i 60, vm_i 1, vm_l 763013, vm_r 96]) (m1 := m) (ob := true) (by decide +kernel) rfl rfl ?_
  refine vm_gc (g := 206) (na := 4) (av := [vm_r 96, vm_l 763013, vm_i 1, vm_i 60]) (rest := []) (i := (.invokevirtual 0, 206, 4, [])) (len := 3) (by decide +kernel) rfl rfl rfl (by decide +kernel) (by decide +kernel) rfl rfl (vm_u (vm_okh_v (c := 11) (by decide +kernel) (by decide +kernel)) (show vm_okn 206 4 0 0 0 5 = true by decide +kernel)) ?_
  refine vm_G.mono h ?_
  rintro _ m1 ⟨z1, rfl, h⟩
  show vm_G 210 54 [some (vm_r 96), some (vm_i v1), w2] [vm_i z1] m1 _
  refine vm_gp [(.istore 2, 0, 0, []), (.aload 0, 0, 0, []), (.aload 0, 0, 0, []), (.ldc2_w 0, 0, 0, [(398548, 0)])] (pc1 := 60) (ls1 := [some (vm_r 96), some (vm_i v1), some (vm_i z1)]) (st1 := [vm_l 398548, vm_r 96, vm_r 96]) (m1 := m1) (ob := true) (by decide +kernel) rfl rfl ?_
  refine vm_gc (g := 204) (na := 2) (av := [vm_r 96, vm_l 398548]) (rest := [vm_r 96]) (i := (.invokevirtual 0, 204, 2, [])) (len := 3) (by decide +kernel) rfl rfl rfl (by decide +kernel) (by decide +kernel) rfl rfl (vm_u (vm_okh_v (c := 11) (by decide +kernel) (by decide +kernel)) (show vm_okn 204 2 1 0 0 3 = true by decide +kernel)) ?_
  refine vm_G.mono h ?_
  rintro _ m2 ⟨z2, rfl, h⟩
  show vm_G 210 63 [some (vm_r 96), some (vm_i v1), some (vm_i z1)] [vm_i z2, vm_r 96] m2 _
  refine vm_gc (g := 203) (na := 2) (av := [vm_r 96, vm_i z2]) (rest := []) (i := (.invokevirtual 0, 203, 2, [])) (len := 3) (by decide +kernel) rfl rfl rfl (by decide +kernel) (by decide +kernel) rfl rfl (vm_u (vm_okh_v (c := 11) (by decide +kernel) (by decide +kernel)) (show vm_okn 203 2 0 0 0 2 = true by decide +kernel)) ?_
  refine vm_G.mono h ?_
  rintro _ m3 ⟨rfl, h⟩
  show vm_G 210 66 [some (vm_r 96), some (vm_i v1), some (vm_i z1)] [] m3 _
  exact h
set_option maxRecDepth 20000 in
theorem ru11_readLetter_66 {v1 : Int} {v2 : Int} {m : vm_M} {Q : vm_M → Prop}  (h :
    (((m 96 31) = 0 →
      (vm_C 204 [vm_r 96, vm_l 19176724] m (vm_qi (fun z1 m1 =>
        (vm_C 203 [vm_r 96, vm_i z1] m1 (vm_qv (fun m2 =>
          ku11_readLetter_92 v1 v2 m2 Q))))))) ∧ (¬ (m 96 31) = 0 →
      ((vm_32 (12 * v1))) ∧
      (vm_C 209 [vm_r 96, vm_i (12 * v1)] m (vm_qv (fun m3 =>
        (vm_C 204 [vm_r 96, vm_l 19176724] m3 (vm_qi (fun z4 m4 =>
          (vm_C 203 [vm_r 96, vm_i z4] m4 (vm_qv (fun m5 =>
            ku11_readLetter_92 v1 v2 m5 Q)))))))))))) : ku11_readLetter_66 v1 v2 m Q := by
  show vm_G 210 66 [some (vm_r 96), some (vm_i v1), some (vm_i v2)] [] m (vm_qv Q)
  refine vm_gp [(.aload 0, 0, 0, []), (.getfield 0, 11, 31, [])] (pc1 := 70) (ls1 := [some (vm_r 96), some (vm_i v1), some (vm_i v2)]) (st1 := [vm_i (m 96 31)]) (m1 := m) (ob := (true && vm_is 96 11)) (by decide +kernel) rfl (vm_u rfl (by decide +kernel)) ?_
  refine vm_gj (c := (m 96 31) = 0) (t := 81) (e := 73) (i := (.ifCond .eq 0, 81, 0, [])) (len := 3) (st1 := []) (by decide +kernel) rfl rfl (fun c1 => ?_) (fun c1 => ?_)
  · replace h := h.1 c1
    refine vm_gp [(.aload 0, 0, 0, []), (.aload 0, 0, 0, []), (.ldc2_w 0, 0, 0, [(19176724, 0)])] (pc1 := 86) (ls1 := [some (vm_r 96), some (vm_i v1), some (vm_i v2)]) (st1 := [vm_l 19176724, vm_r 96, vm_r 96]) (m1 := m) (ob := true) (by decide +kernel) rfl rfl ?_
    refine vm_gc (g := 204) (na := 2) (av := [vm_r 96, vm_l 19176724]) (rest := [vm_r 96]) (i := (.invokevirtual 0, 204, 2, [])) (len := 3) (by decide +kernel) rfl rfl rfl (by decide +kernel) (by decide +kernel) rfl rfl (vm_u (vm_okh_v (c := 11) (by decide +kernel) (by decide +kernel)) (show vm_okn 204 2 1 0 0 3 = true by decide +kernel)) ?_
    refine vm_G.mono h ?_
    rintro _ m1 ⟨z1, rfl, h⟩
    show vm_G 210 89 [some (vm_r 96), some (vm_i v1), some (vm_i v2)] [vm_i z1, vm_r 96] m1 _
    refine vm_gc (g := 203) (na := 2) (av := [vm_r 96, vm_i z1]) (rest := []) (i := (.invokevirtual 0, 203, 2, [])) (len := 3) (by decide +kernel) rfl rfl rfl (by decide +kernel) (by decide +kernel) rfl rfl (vm_u (vm_okh_v (c := 11) (by decide +kernel) (by decide +kernel)) (show vm_okn 203 2 0 0 0 2 = true by decide +kernel)) ?_
    refine vm_G.mono h ?_
    rintro _ m2 ⟨rfl, h⟩
    show vm_G 210 92 [some (vm_r 96), some (vm_i v1), some (vm_i v2)] [] m2 _
    exact h
  · replace h := h.2 c1
    obtain ⟨o5_0, h⟩ := h
    refine vm_gp [(.aload 0, 0, 0, []), (.iconst 12, 0, 0, []), (.iload 1, 0, 0, []), (.imul, 0, 0, [])] (pc1 := 78) (ls1 := [some (vm_r 96), some (vm_i v1), some (vm_i v2)]) (st1 := [vm_i (12 * v1), vm_r 96]) (m1 := m) (ob := (true && decide (vm_32 (12 * v1)))) (by decide +kernel) rfl (vm_t rfl o5_0) ?_
    refine vm_gc (g := 209) (na := 2) (av := [vm_r 96, vm_i (12 * v1)]) (rest := []) (i := (.invokevirtual 0, 209, 2, [])) (len := 3) (by decide +kernel) rfl rfl rfl (by decide +kernel) (by decide +kernel) rfl rfl (vm_u (vm_okh_v (c := 11) (by decide +kernel) (by decide +kernel)) (show vm_okn 209 2 0 0 0 2 = true by decide +kernel)) ?_
    refine vm_G.mono h ?_
    rintro _ m3 ⟨rfl, h⟩
    show vm_G 210 81 [some (vm_r 96), some (vm_i v1), some (vm_i v2)] [] m3 _
    refine vm_gp [(.aload 0, 0, 0, []), (.aload 0, 0, 0, []), (.ldc2_w 0, 0, 0, [(19176724, 0)])] (pc1 := 86) (ls1 := [some (vm_r 96), some (vm_i v1), some (vm_i v2)]) (st1 := [vm_l 19176724, vm_r 96, vm_r 96]) (m1 := m3) (ob := true) (by decide +kernel) rfl rfl ?_
    refine vm_gc (g := 204) (na := 2) (av := [vm_r 96, vm_l 19176724]) (rest := [vm_r 96]) (i := (.invokevirtual 0, 204, 2, [])) (len := 3) (by decide +kernel) rfl rfl rfl (by decide +kernel) (by decide +kernel) rfl rfl (vm_u (vm_okh_v (c := 11) (by decide +kernel) (by decide +kernel)) (show vm_okn 204 2 1 0 0 3 = true by decide +kernel)) ?_
    refine vm_G.mono h ?_
    rintro _ m4 ⟨z4, rfl, h⟩
    show vm_G 210 89 [some (vm_r 96), some (vm_i v1), some (vm_i v2)] [vm_i z4, vm_r 96] m4 _
    refine vm_gc (g := 203) (na := 2) (av := [vm_r 96, vm_i z4]) (rest := []) (i := (.invokevirtual 0, 203, 2, [])) (len := 3) (by decide +kernel) rfl rfl rfl (by decide +kernel) (by decide +kernel) rfl rfl (vm_u (vm_okh_v (c := 11) (by decide +kernel) (by decide +kernel)) (show vm_okn 203 2 0 0 0 2 = true by decide +kernel)) ?_
    refine vm_G.mono h ?_
    rintro _ m5 ⟨rfl, h⟩
    show vm_G 210 92 [some (vm_r 96), some (vm_i v1), some (vm_i v2)] [] m5 _
    exact h
set_option maxRecDepth 20000 in
theorem ru11_readLetter_92 {v1 : Int} {v2 : Int} {m : vm_M} {Q : vm_M → Prop}  (h :
    (((m 96 31) = 0 →
      ((¬ (m 96 28) = 4 →
        (vm_C 203 [vm_r 96, vm_i 0] m (vm_qv (fun m1 =>
          ku11_readLetter_127 v1 v2 m1 Q)))) ∧ (¬ ¬ (m 96 28) = 4 →
        (vm_C 203 [vm_r 96, vm_i 1] m (vm_qv (fun m2 =>
          ku11_readLetter_127 v1 v2 m2 Q)))))) ∧ (¬ (m 96 31) = 0 →
      ((vm_32 (12 * v1)) ∧ (vm_32 ((12 * v1) + 6))) ∧
      (vm_C 209 [vm_r 96, vm_i ((12 * v1) + 6)] m (vm_qv (fun m3 =>
        ((¬ (m3 96 28) = 4 →
          (vm_C 203 [vm_r 96, vm_i 0] m3 (vm_qv (fun m4 =>
            ku11_readLetter_127 v1 v2 m4 Q)))) ∧ (¬ ¬ (m3 96 28) = 4 →
          (vm_C 203 [vm_r 96, vm_i 1] m3 (vm_qv (fun m5 =>
            ku11_readLetter_127 v1 v2 m5 Q))))))))))) : ku11_readLetter_92 v1 v2 m Q := by
  show vm_G 210 92 [some (vm_r 96), some (vm_i v1), some (vm_i v2)] [] m (vm_qv Q)
  refine vm_gp [(.aload 0, 0, 0, []), (.getfield 0, 11, 31, [])] (pc1 := 96) (ls1 := [some (vm_r 96), some (vm_i v1), some (vm_i v2)]) (st1 := [vm_i (m 96 31)]) (m1 := m) (ob := (true && vm_is 96 11)) (by decide +kernel) rfl (vm_u rfl (by decide +kernel)) ?_
  refine vm_gj (c := (m 96 31) = 0) (t := 110) (e := 99) (i := (.ifCond .eq 0, 110, 0, [])) (len := 3) (st1 := []) (by decide +kernel) rfl rfl (fun c1 => ?_) (fun c1 => ?_)
  · replace h := h.1 c1
    refine vm_gp [(.aload 0, 0, 0, []), (.aload 0, 0, 0, []), (.getfield 0, 11, 28, []), (.iconst 4, 0, 0, [])] (pc1 := 116) (ls1 := [some (vm_r 96), some (vm_i v1), some (vm_i v2)]) (st1 := [vm_i 4, vm_i (m 96 28), vm_r 96]) (m1 := m) (ob := (true && vm_is 96 11)) (by decide +kernel) rfl (vm_u rfl (by decide +kernel)) ?_
    refine vm_gj (c := ¬ (m 96 28) = 4) (t := 123) (e := 119) (i := (.if_icmp .ne 0, 123, 0, [])) (len := 3) (st1 := [vm_r 96]) (by decide +kernel) rfl rfl (fun c2 => ?_) (fun c2 => ?_)
    · replace h := h.1 c2
      refine vm_gp [(.iconst 0, 0, 0, [])] (pc1 := 124) (ls1 := [some (vm_r 96), some (vm_i v1), some (vm_i v2)]) (st1 := [vm_i 0, vm_r 96]) (m1 := m) (ob := true) (by decide +kernel) rfl rfl ?_
      refine vm_gc (g := 203) (na := 2) (av := [vm_r 96, vm_i 0]) (rest := []) (i := (.invokevirtual 0, 203, 2, [])) (len := 3) (by decide +kernel) rfl rfl rfl (by decide +kernel) (by decide +kernel) rfl rfl (vm_u (vm_okh_v (c := 11) (by decide +kernel) (by decide +kernel)) (show vm_okn 203 2 0 0 0 2 = true by decide +kernel)) ?_
      refine vm_G.mono h ?_
      rintro _ m1 ⟨rfl, h⟩
      show vm_G 210 127 [some (vm_r 96), some (vm_i v1), some (vm_i v2)] [] m1 _
      exact h
    · replace h := h.2 c2
      refine vm_gp [(.iconst 1, 0, 0, []), (.goto 0, 124, 0, [])] (pc1 := 124) (ls1 := [some (vm_r 96), some (vm_i v1), some (vm_i v2)]) (st1 := [vm_i 1, vm_r 96]) (m1 := m) (ob := true) (by decide +kernel) rfl rfl ?_
      refine vm_gc (g := 203) (na := 2) (av := [vm_r 96, vm_i 1]) (rest := []) (i := (.invokevirtual 0, 203, 2, [])) (len := 3) (by decide +kernel) rfl rfl rfl (by decide +kernel) (by decide +kernel) rfl rfl (vm_u (vm_okh_v (c := 11) (by decide +kernel) (by decide +kernel)) (show vm_okn 203 2 0 0 0 2 = true by decide +kernel)) ?_
      refine vm_G.mono h ?_
      rintro _ m2 ⟨rfl, h⟩
      show vm_G 210 127 [some (vm_r 96), some (vm_i v1), some (vm_i v2)] [] m2 _
      exact h
  · replace h := h.2 c1
    obtain ⟨⟨o7_0, o7_1⟩, h⟩ := h
    refine vm_gp [(.aload 0, 0, 0, []), (.iconst 12, 0, 0, []), (.iload 1, 0, 0, []), (.imul, 0, 0, []), (.iconst 6, 0, 0, []), (.iadd, 0, 0, [])] (pc1 := 107) (ls1 := [some (vm_r 96), some (vm_i v1), some (vm_i v2)]) (st1 := [vm_i ((12 * v1) + 6), vm_r 96]) (m1 := m) (ob := ((true && decide (vm_32 (12 * v1))) && decide (vm_32 ((12 * v1) + 6)))) (by decide +kernel) rfl (vm_t (vm_t rfl o7_0) o7_1) ?_
    refine vm_gc (g := 209) (na := 2) (av := [vm_r 96, vm_i ((12 * v1) + 6)]) (rest := []) (i := (.invokevirtual 0, 209, 2, [])) (len := 3) (by decide +kernel) rfl rfl rfl (by decide +kernel) (by decide +kernel) rfl rfl (vm_u (vm_okh_v (c := 11) (by decide +kernel) (by decide +kernel)) (show vm_okn 209 2 0 0 0 2 = true by decide +kernel)) ?_
    refine vm_G.mono h ?_
    rintro _ m3 ⟨rfl, h⟩
    show vm_G 210 110 [some (vm_r 96), some (vm_i v1), some (vm_i v2)] [] m3 _
    refine vm_gp [(.aload 0, 0, 0, []), (.aload 0, 0, 0, []), (.getfield 0, 11, 28, []), (.iconst 4, 0, 0, [])] (pc1 := 116) (ls1 := [some (vm_r 96), some (vm_i v1), some (vm_i v2)]) (st1 := [vm_i 4, vm_i (m3 96 28), vm_r 96]) (m1 := m3) (ob := (true && vm_is 96 11)) (by decide +kernel) rfl (vm_u rfl (by decide +kernel)) ?_
    refine vm_gj (c := ¬ (m3 96 28) = 4) (t := 123) (e := 119) (i := (.if_icmp .ne 0, 123, 0, [])) (len := 3) (st1 := [vm_r 96]) (by decide +kernel) rfl rfl (fun c3 => ?_) (fun c3 => ?_)
    · replace h := h.1 c3
      refine vm_gp [(.iconst 0, 0, 0, [])] (pc1 := 124) (ls1 := [some (vm_r 96), some (vm_i v1), some (vm_i v2)]) (st1 := [vm_i 0, vm_r 96]) (m1 := m3) (ob := true) (by decide +kernel) rfl rfl ?_
      refine vm_gc (g := 203) (na := 2) (av := [vm_r 96, vm_i 0]) (rest := []) (i := (.invokevirtual 0, 203, 2, [])) (len := 3) (by decide +kernel) rfl rfl rfl (by decide +kernel) (by decide +kernel) rfl rfl (vm_u (vm_okh_v (c := 11) (by decide +kernel) (by decide +kernel)) (show vm_okn 203 2 0 0 0 2 = true by decide +kernel)) ?_
      refine vm_G.mono h ?_
      rintro _ m4 ⟨rfl, h⟩
      show vm_G 210 127 [some (vm_r 96), some (vm_i v1), some (vm_i v2)] [] m4 _
      exact h
    · replace h := h.2 c3
      refine vm_gp [(.iconst 1, 0, 0, []), (.goto 0, 124, 0, [])] (pc1 := 124) (ls1 := [some (vm_r 96), some (vm_i v1), some (vm_i v2)]) (st1 := [vm_i 1, vm_r 96]) (m1 := m3) (ob := true) (by decide +kernel) rfl rfl ?_
      refine vm_gc (g := 203) (na := 2) (av := [vm_r 96, vm_i 1]) (rest := []) (i := (.invokevirtual 0, 203, 2, [])) (len := 3) (by decide +kernel) rfl rfl rfl (by decide +kernel) (by decide +kernel) rfl rfl (vm_u (vm_okh_v (c := 11) (by decide +kernel) (by decide +kernel)) (show vm_okn 203 2 0 0 0 2 = true by decide +kernel)) ?_
      refine vm_G.mono h ?_
      rintro _ m5 ⟨rfl, h⟩
      show vm_G 210 127 [some (vm_r 96), some (vm_i v1), some (vm_i v2)] [] m5 _
      exact h
set_option maxRecDepth 20000 in
theorem ru11_readLetter_127 {v1 : Int} {v2 : Int} {m : vm_M} {Q : vm_M → Prop}  (h :
    (((m 96 31) = 0 →
      Q m) ∧ (¬ (m 96 31) = 0 →
      ((0 ≤ v1 ∧ v1 < 26)) ∧
      Q (vm_st (vm_st m 112 v1 v2) 96 33 (vm_or ((vm_st m 112 v1 v2) 96 33) (vm_shl 1 v1)))))) : ku11_readLetter_127 v1 v2 m Q := by
  show vm_G 210 127 [some (vm_r 96), some (vm_i v1), some (vm_i v2)] [] m (vm_qv Q)
  refine vm_gp [(.aload 0, 0, 0, []), (.getfield 0, 11, 31, [])] (pc1 := 131) (ls1 := [some (vm_r 96), some (vm_i v1), some (vm_i v2)]) (st1 := [vm_i (m 96 31)]) (m1 := m) (ob := (true && vm_is 96 11)) (by decide +kernel) rfl (vm_u rfl (by decide +kernel)) ?_
  refine vm_gj (c := (m 96 31) = 0) (t := 153) (e := 134) (i := (.ifCond .eq 0, 153, 0, [])) (len := 3) (st1 := []) (by decide +kernel) rfl rfl (fun c1 => ?_) (fun c1 => ?_)
  · replace h := h.1 c1
    exact vm_gr (r := none) (i := (.return_, 0, 0, [])) (len := 1) (by decide +kernel) rfl rfl rfl ⟨rfl, h⟩
  · replace h := h.2 c1
    obtain ⟨o3_0, h⟩ := h
    refine vm_gp [(.aload 0, 0, 0, []), (.getfield 2, 11, 35, [(112, 0)]), (.iload 1, 0, 0, []), (.iload 2, 0, 0, []), (.iastore, 26, 0, []), (.aload 0, 0, 0, []), (.dup, 0, 0, []), (.getfield 0, 11, 33, []), (.iconst 1, 0, 0, []), (.iload 1, 0, 0, []), (.ishl, 0, 0, []), (.ior, 0, 0, []), (.putfield 0, 11, 33, [])] (pc1 := 153) (ls1 := [some (vm_r 96), some (vm_i v1), some (vm_i v2)]) (st1 := []) (m1 := (vm_st (vm_st m 112 v1 v2) 96 33 (vm_or ((vm_st m 112 v1 v2) 96 33) (vm_shl 1 v1)))) (ob := ((((((true && vm_is 96 11) && true) && vm_ar 112 100 26) && decide (0 ≤ v1 ∧ v1 < 26)) && vm_is 96 11) && vm_is 96 11)) (by decide +kernel) rfl (vm_u (vm_u (vm_t (vm_u (vm_u (vm_u rfl (by decide +kernel)) rfl) (by decide +kernel)) o3_0) (by decide +kernel)) (by decide +kernel)) ?_
    exact vm_gr (r := none) (i := (.return_, 0, 0, [])) (len := 1) (by decide +kernel) rfl rfl rfl ⟨rfl, h⟩
abbrev ku11_readPair_0  (m : vm_M) (Q : vm_M → Prop) : Prop := vm_G 211 0 [some (vm_r 96), none, none, none, none] [] m (vm_qv Q)
abbrev ku11_readPair_11 (w1 : Option vm_V) (w2 : Option vm_V) (w3 : Option vm_V) (w4 : Option vm_V) (m : vm_M) (Q : vm_M → Prop) : Prop := vm_G 211 11 [some (vm_r 96), w1, w2, w3, w4] [] m (vm_qv Q)
abbrev ku11_readPair_44 (v1 : Int) (w2 : Option vm_V) (w3 : Option vm_V) (w4 : Option vm_V) (m : vm_M) (Q : vm_M → Prop) : Prop := vm_G 211 44 [some (vm_r 96), some (vm_i v1), w2, w3, w4] [] m (vm_qv Q)
abbrev ku11_readPair_77 (v1 : Int) (v2 : Int) (w3 : Option vm_V) (w4 : Option vm_V) (m : vm_M) (Q : vm_M → Prop) : Prop := vm_G 211 77 [some (vm_r 96), some (vm_i v1), some (vm_i v2), w3, w4] [] m (vm_qv Q)
abbrev ku11_readPair_108 (v1 : Int) (v2 : Int) (v3 : Int) (w4 : Option vm_V) (m : vm_M) (Q : vm_M → Prop) : Prop := vm_G 211 108 [some (vm_r 96), some (vm_i v1), some (vm_i v2), some (vm_i v3), w4] [] m (vm_qv Q)
abbrev ku11_readPair_134 (v1 : Int) (v2 : Int) (v3 : Int) (v4 : Int) (m : vm_M) (Q : vm_M → Prop) : Prop := vm_G 211 134 [some (vm_r 96), some (vm_i v1), some (vm_i v2), some (vm_i v3), some (vm_i v4)] [] m (vm_qv Q)
set_option maxRecDepth 20000 in
theorem ru11_readPair_0  {m : vm_M} {Q : vm_M → Prop}  (h :
    (vm_C 204 [vm_r 96, vm_l 525618] m (vm_qi (fun z1 m1 =>
      (vm_C 203 [vm_r 96, vm_i z1] m1 (vm_qv (fun m2 =>
        ku11_readPair_11 none none none none m2 Q))))))) : vm_C 211 [vm_r 96] m (vm_qv Q) := by
  show vm_G 211 0 [some (vm_r 96), none, none, none, none] [] m (vm_qv Q)
  refine vm_gp [(.aload 0, 0, 0, []), (.aload 0, 0, 0, []), (.ldc2_w 0, 0, 0, [(525618, 0)])] (pc1 := 5) (ls1 := [some (vm_r 96), none, none, none, none]) (st1 := [vm_l 525618, vm_r 96, vm_r 96]) (m1 := m) (ob := true) (by decide +kernel) rfl rfl ?_
  refine vm_gc (g := 204) (na := 2) (av := [vm_r 96, vm_l 525618]) (rest := [vm_r 96]) (i := (.invokevirtual 0, 204, 2, [])) (len := 3) (by decide +kernel) rfl rfl rfl (by decide +kernel) (by decide +kernel) rfl rfl (vm_u (vm_okh_v (c := 11) (by decide +kernel) (by decide +kernel)) (show vm_okn 204 2 1 0 0 3 = true by decide +kernel)) ?_
  refine vm_G.mono h ?_
  rintro _ m1 ⟨z1, rfl, h⟩
  show vm_G 211 8 [some (vm_r 96), none, none, none, none] [vm_i z1, vm_r 96] m1 _
  refine vm_gc (g := 203) (na := 2) (av := [vm_r 96, vm_i z1]) (rest := []) (i := (.invokevirtual 0, 203, 2, [])) (len := 3) (by decide +kernel) rfl rfl rfl (by decide +kernel) (by decide +kernel) rfl rfl (vm_u (vm_okh_v (c := 11) (by decide +kernel) (by decide +kernel)) (show vm_okn 203 2 0 0 0 2 = true by decide +kernel)) ?_
  refine vm_G.mono h ?_
  rintro _ m2 ⟨rfl, h⟩
  show vm_G 211 11 [some (vm_r 96), none, none, none, none] [] m2 _
  exact h
set_option maxRecDepth 20000 in
theorem ru11_readPair_11 {w1 : Option vm_V} {w2 : Option vm_V} {w3 : Option vm_V} {w4 : Option vm_V} {m : vm_M} {Q : vm_M → Prop}  (h :
    ((¬ (m 96 28) = 2 →
      (vm_C 203 [vm_r 96, vm_i 0] m (vm_qv (fun m1 =>
        ku11_readPair_44 (vm_w32 ((vm_w32 (m 96 29)) - 1)) w2 w3 w4 m1 Q)))) ∧ (¬ ¬ (m 96 28) = 2 →
      (vm_C 208 [vm_r 96, vm_i 1] m (vm_qi (fun z2 m2 =>
        ((z2 = 0 →
          (vm_C 203 [vm_r 96, vm_i 0] m2 (vm_qv (fun m3 =>
            ku11_readPair_44 (vm_w32 ((vm_w32 (m 96 29)) - 1)) w2 w3 w4 m3 Q)))) ∧ (¬ z2 = 0 →
          (vm_C 203 [vm_r 96, vm_i 1] m2 (vm_qv (fun m4 =>
            ku11_readPair_44 (vm_w32 ((vm_w32 (m 96 29)) - 1)) w2 w3 w4 m4 Q))))))))))) : ku11_readPair_11 w1 w2 w3 w4 m Q := by
  show vm_G 211 11 [some (vm_r 96), w1, w2, w3, w4] [] m (vm_qv Q)
  refine vm_gp [(.aload 0, 0, 0, []), (.getfield 1, 11, 29, []), (.l2i, 0, 0, []), (.iconst 1, 0, 0, []), (.isub, 1, 0, []), (.istore 1, 0, 0, []), (.aload 0, 0, 0, []), (.aload 0, 0, 0, []), (.getfield 0, 11, 28, []), (.iconst 2, 0, 0, [])] (pc1 := 25) (ls1 := [some (vm_r 96), some (vm_i (vm_w32 ((vm_w32 (m 96 29)) - 1))), w2, w3, w4]) (st1 := [vm_i 2, vm_i (m 96 28), vm_r 96]) (m1 := m) (ob := ((true && vm_is 96 11) && vm_is 96 11)) (by decide +kernel) rfl (vm_u (vm_u rfl (by decide +kernel)) (by decide +kernel)) ?_
  refine vm_gj (c := ¬ (m 96 28) = 2) (t := 40) (e := 28) (i := (.if_icmp .ne 0, 40, 0, [])) (len := 3) (st1 := [vm_r 96]) (by decide +kernel) rfl rfl (fun c1 => ?_) (fun c1 => ?_)
  · replace h := h.1 c1
    refine vm_gp [(.iconst 0, 0, 0, [])] (pc1 := 41) (ls1 := [some (vm_r 96), some (vm_i (vm_w32 ((vm_w32 (m 96 29)) - 1))), w2, w3, w4]) (st1 := [vm_i 0, vm_r 96]) (m1 := m) (ob := true) (by decide +kernel) rfl rfl ?_
    refine vm_gc (g := 203) (na := 2) (av := [vm_r 96, vm_i 0]) (rest := []) (i := (.invokevirtual 0, 203, 2, [])) (len := 3) (by decide +kernel) rfl rfl rfl (by decide +kernel) (by decide +kernel) rfl rfl (vm_u (vm_okh_v (c := 11) (by decide +kernel) (by decide +kernel)) (show vm_okn 203 2 0 0 0 2 = true by decide +kernel)) ?_
    refine vm_G.mono h ?_
    rintro _ m1 ⟨rfl, h⟩
    show vm_G 211 44 [some (vm_r 96), some (vm_i (vm_w32 ((vm_w32 (m 96 29)) - 1))), w2, w3, w4] [] m1 _
    exact h
  · replace h := h.2 c1
    refine vm_gp [(.aload 0, 0, 0, []), (.iconst 1, 0, 0, [])] (pc1 := 30) (ls1 := [some (vm_r 96), some (vm_i (vm_w32 ((vm_w32 (m 96 29)) - 1))), w2, w3, w4]) (st1 := [vm_i 1, vm_r 96, vm_r 96]) (m1 := m) (ob := true) (by decide +kernel) rfl rfl ?_
    refine vm_gc (g := 208) (na := 2) (av := [vm_r 96, vm_i 1]) (rest := [vm_r 96]) (i := (.invokevirtual 0, 208, 2, [])) (len := 3) (by decide +kernel) rfl rfl rfl (by decide +kernel) (by decide +kernel) rfl rfl (vm_u (vm_okh_v (c := 11) (by decide +kernel) (by decide +kernel)) (show vm_okn 208 2 1 0 0 2 = true by decide +kernel)) ?_
    refine vm_G.mono h ?_
    rintro _ m2 ⟨z2, rfl, h⟩
    show vm_G 211 33 [some (vm_r 96), some (vm_i (vm_w32 ((vm_w32 (m 96 29)) - 1))), w2, w3, w4] [vm_i z2, vm_r 96] m2 _
    refine vm_gj (c := z2 = 0) (t := 40) (e := 36) (i := (.ifCond .eq 0, 40, 0, [])) (len := 3) (st1 := [vm_r 96]) (by decide +kernel) rfl rfl (fun c2 => ?_) (fun c2 => ?_)
    · replace h := h.1 c2
      refine vm_gp [(.iconst 0, 0, 0, [])] (pc1 := 41) (ls1 := [some (vm_r 96), some (vm_i (vm_w32 ((vm_w32 (m 96 29)) - 1))), w2, w3, w4]) (st1 := [vm_i 0, vm_r 96]) (m1 := m2) (ob := true) (by decide +kernel) rfl rfl ?_
      refine vm_gc (g := 203) (na := 2) (av := [vm_r 96, vm_i 0]) (rest := []) (i := (.invokevirtual 0, 203, 2, [])) (len := 3) (by decide +kernel) rfl rfl rfl (by decide +kernel) (by decide +kernel) rfl rfl (vm_u (vm_okh_v (c := 11) (by decide +kernel) (by decide +kernel)) (show vm_okn 203 2 0 0 0 2 = true by decide +kernel)) ?_
      refine vm_G.mono h ?_
      rintro _ m3 ⟨rfl, h⟩
      show vm_G 211 44 [some (vm_r 96), some (vm_i (vm_w32 ((vm_w32 (m 96 29)) - 1))), w2, w3, w4] [] m3 _
      exact h
    · replace h := h.2 c2
      refine vm_gp [(.iconst 1, 0, 0, []), (.goto 0, 41, 0, [])] (pc1 := 41) (ls1 := [some (vm_r 96), some (vm_i (vm_w32 ((vm_w32 (m 96 29)) - 1))), w2, w3, w4]) (st1 := [vm_i 1, vm_r 96]) (m1 := m2) (ob := true) (by decide +kernel) rfl rfl ?_
      refine vm_gc (g := 203) (na := 2) (av := [vm_r 96, vm_i 1]) (rest := []) (i := (.invokevirtual 0, 203, 2, [])) (len := 3) (by decide +kernel) rfl rfl rfl (by decide +kernel) (by decide +kernel) rfl rfl (vm_u (vm_okh_v (c := 11) (by decide +kernel) (by decide +kernel)) (show vm_okn 203 2 0 0 0 2 = true by decide +kernel)) ?_
      refine vm_G.mono h ?_
      rintro _ m4 ⟨rfl, h⟩
      show vm_G 211 44 [some (vm_r 96), some (vm_i (vm_w32 ((vm_w32 (m 96 29)) - 1))), w2, w3, w4] [] m4 _
      exact h
set_option maxRecDepth 20000 in
theorem ru11_readPair_44 {v1 : Int} {w2 : Option vm_V} {w3 : Option vm_V} {w4 : Option vm_V} {m : vm_M} {Q : vm_M → Prop}  (h :
    ((¬ (m 96 28) = 2 →
      (vm_C 203 [vm_r 96, vm_i 0] m (vm_qv (fun m1 =>
        ku11_readPair_77 v1 (vm_w32 ((vm_w32 (m 96 29)) - 1)) w3 w4 m1 Q)))) ∧ (¬ ¬ (m 96 28) = 2 →
      (vm_C 208 [vm_r 96, vm_i 1] m (vm_qi (fun z2 m2 =>
        ((z2 = 0 →
          (vm_C 203 [vm_r 96, vm_i 0] m2 (vm_qv (fun m3 =>
            ku11_readPair_77 v1 (vm_w32 ((vm_w32 (m 96 29)) - 1)) w3 w4 m3 Q)))) ∧ (¬ z2 = 0 →
          (vm_C 203 [vm_r 96, vm_i 1] m2 (vm_qv (fun m4 =>
            ku11_readPair_77 v1 (vm_w32 ((vm_w32 (m 96 29)) - 1)) w3 w4 m4 Q))))))))))) : ku11_readPair_44 v1 w2 w3 w4 m Q := by
  show vm_G 211 44 [some (vm_r 96), some (vm_i v1), w2, w3, w4] [] m (vm_qv Q)
  refine vm_gp [(.aload 0, 0, 0, []), (.getfield 1, 11, 29, []), (.l2i, 0, 0, []), (.iconst 1, 0, 0, []), (.isub, 1, 0, []), (.istore 2, 0, 0, []), (.aload 0, 0, 0, []), (.aload 0, 0, 0, []), (.getfield 0, 11, 28, []), (.iconst 2, 0, 0, [])] (pc1 := 58) (ls1 := [some (vm_r 96), some (vm_i v1), some (vm_i (vm_w32 ((vm_w32 (m 96 29)) - 1))), w3, w4]) (st1 := [vm_i 2, vm_i (m 96 28), vm_r 96]) (m1 := m) (ob := ((true && vm_is 96 11) && vm_is 96 11)) (by decide +kernel) rfl (vm_u (vm_u rfl (by decide +kernel)) (by decide +kernel)) ?_
  refine vm_gj (c := ¬ (m 96 28) = 2) (t := 73) (e := 61) (i := (.if_icmp .ne 0, 73, 0, [])) (len := 3) (st1 := [vm_r 96]) (by decide +kernel) rfl rfl (fun c1 => ?_) (fun c1 => ?_)
  · replace h := h.1 c1
    refine vm_gp [(.iconst 0, 0, 0, [])] (pc1 := 74) (ls1 := [some (vm_r 96), some (vm_i v1), some (vm_i (vm_w32 ((vm_w32 (m 96 29)) - 1))), w3, w4]) (st1 := [vm_i 0, vm_r 96]) (m1 := m) (ob := true) (by decide +kernel) rfl rfl ?_
    refine vm_gc (g := 203) (na := 2) (av := [vm_r 96, vm_i 0]) (rest := []) (i := (.invokevirtual 0, 203, 2, [])) (len := 3) (by decide +kernel) rfl rfl rfl (by decide +kernel) (by decide +kernel) rfl rfl (vm_u (vm_okh_v (c := 11) (by decide +kernel) (by decide +kernel)) (show vm_okn 203 2 0 0 0 2 = true by decide +kernel)) ?_
    refine vm_G.mono h ?_
    rintro _ m1 ⟨rfl, h⟩
    show vm_G 211 77 [some (vm_r 96), some (vm_i v1), some (vm_i (vm_w32 ((vm_w32 (m 96 29)) - 1))), w3, w4] [] m1 _
    exact h
  · replace h := h.2 c1
    refine vm_gp [(.aload 0, 0, 0, []), (.iconst 1, 0, 0, [])] (pc1 := 63) (ls1 := [some (vm_r 96), some (vm_i v1), some (vm_i (vm_w32 ((vm_w32 (m 96 29)) - 1))), w3, w4]) (st1 := [vm_i 1, vm_r 96, vm_r 96]) (m1 := m) (ob := true) (by decide +kernel) rfl rfl ?_
    refine vm_gc (g := 208) (na := 2) (av := [vm_r 96, vm_i 1]) (rest := [vm_r 96]) (i := (.invokevirtual 0, 208, 2, [])) (len := 3) (by decide +kernel) rfl rfl rfl (by decide +kernel) (by decide +kernel) rfl rfl (vm_u (vm_okh_v (c := 11) (by decide +kernel) (by decide +kernel)) (show vm_okn 208 2 1 0 0 2 = true by decide +kernel)) ?_
    refine vm_G.mono h ?_
    rintro _ m2 ⟨z2, rfl, h⟩
    show vm_G 211 66 [some (vm_r 96), some (vm_i v1), some (vm_i (vm_w32 ((vm_w32 (m 96 29)) - 1))), w3, w4] [vm_i z2, vm_r 96] m2 _
    refine vm_gj (c := z2 = 0) (t := 73) (e := 69) (i := (.ifCond .eq 0, 73, 0, [])) (len := 3) (st1 := [vm_r 96]) (by decide +kernel) rfl rfl (fun c2 => ?_) (fun c2 => ?_)
    · replace h := h.1 c2
      refine vm_gp [(.iconst 0, 0, 0, [])] (pc1 := 74) (ls1 := [some (vm_r 96), some (vm_i v1), some (vm_i (vm_w32 ((vm_w32 (m 96 29)) - 1))), w3, w4]) (st1 := [vm_i 0, vm_r 96]) (m1 := m2) (ob := true) (by decide +kernel) rfl rfl ?_
      refine vm_gc (g := 203) (na := 2) (av := [vm_r 96, vm_i 0]) (rest := []) (i := (.invokevirtual 0, 203, 2, [])) (len := 3) (by decide +kernel) rfl rfl rfl (by decide +kernel) (by decide +kernel) rfl rfl (vm_u (vm_okh_v (c := 11) (by decide +kernel) (by decide +kernel)) (show vm_okn 203 2 0 0 0 2 = true by decide +kernel)) ?_
      refine vm_G.mono h ?_
      rintro _ m3 ⟨rfl, h⟩
      show vm_G 211 77 [some (vm_r 96), some (vm_i v1), some (vm_i (vm_w32 ((vm_w32 (m 96 29)) - 1))), w3, w4] [] m3 _
      exact h
    · replace h := h.2 c2
      refine vm_gp [(.iconst 1, 0, 0, []), (.goto 0, 74, 0, [])] (pc1 := 74) (ls1 := [some (vm_r 96), some (vm_i v1), some (vm_i (vm_w32 ((vm_w32 (m 96 29)) - 1))), w3, w4]) (st1 := [vm_i 1, vm_r 96]) (m1 := m2) (ob := true) (by decide +kernel) rfl rfl ?_
      refine vm_gc (g := 203) (na := 2) (av := [vm_r 96, vm_i 1]) (rest := []) (i := (.invokevirtual 0, 203, 2, [])) (len := 3) (by decide +kernel) rfl rfl rfl (by decide +kernel) (by decide +kernel) rfl rfl (vm_u (vm_okh_v (c := 11) (by decide +kernel) (by decide +kernel)) (show vm_okn 203 2 0 0 0 2 = true by decide +kernel)) ?_
      refine vm_G.mono h ?_
      rintro _ m4 ⟨rfl, h⟩
      show vm_G 211 77 [some (vm_r 96), some (vm_i v1), some (vm_i (vm_w32 ((vm_w32 (m 96 29)) - 1))), w3, w4] [] m4 _
      exact h
set_option maxRecDepth 20000 in
theorem ru11_readPair_77 {v1 : Int} {v2 : Int} {w3 : Option vm_V} {w4 : Option vm_V} {m : vm_M} {Q : vm_M → Prop}  (h :
    (vm_C 204 [vm_r 96, vm_l 113757362] m (vm_qi (fun z1 m1 =>
      ((¬ z1 = 0 →
        (vm_C 203 [vm_r 96, vm_i 1] m1 (vm_qv (fun m2 =>
          ku11_readPair_108 v1 v2 z1 w4 m2 Q)))) ∧ (¬ ¬ z1 = 0 →
        (vm_C 204 [vm_r 96, vm_l 24416434] m1 (vm_qi (fun z3 m3 =>
          ((z3 = 0 →
            (vm_C 203 [vm_r 96, vm_i 0] m3 (vm_qv (fun m4 =>
              ku11_readPair_108 v1 v2 z1 w4 m4 Q)))) ∧ (¬ z3 = 0 →
            (vm_C 203 [vm_r 96, vm_i 1] m3 (vm_qv (fun m5 =>
              ku11_readPair_108 v1 v2 z1 w4 m5 Q)))))))))))))) : ku11_readPair_77 v1 v2 w3 w4 m Q := by
  show vm_G 211 77 [some (vm_r 96), some (vm_i v1), some (vm_i v2), w3, w4] [] m (vm_qv Q)
  refine vm_gp [(.aload 0, 0, 0, []), (.ldc2_w 0, 0, 0, [(113757362, 0)])] (pc1 := 81) (ls1 := [some (vm_r 96), some (vm_i v1), some (vm_i v2), w3, w4]) (st1 := [vm_l 113757362, vm_r 96]) (m1 := m) (ob := true) (by decide +kernel) rfl rfl ?_
  refine vm_gc (g := 204) (na := 2) (av := [vm_r 96, vm_l 113757362]) (rest := []) (i := (.invokevirtual 0, 204, 2, [])) (len := 3) (by decide +kernel) rfl rfl rfl (by decide +kernel) (by decide +kernel) rfl rfl (vm_u (vm_okh_v (c := 11) (by decide +kernel) (by decide +kernel)) (show vm_okn 204 2 0 0 0 3 = true by decide +kernel)) ?_
  refine vm_G.mono h ?_
  rintro _ m1 ⟨z1, rfl, h⟩
  show vm_G 211 84 [some (vm_r 96), some (vm_i v1), some (vm_i v2), w3, w4] [vm_i z1] m1 _
  refine vm_gp [(.istore 3, 0, 0, []), (.aload 0, 0, 0, []), (.iload 3, 0, 0, [])] (pc1 := 87) (ls1 := [some (vm_r 96), some (vm_i v1), some (vm_i v2), some (vm_i z1), w4]) (st1 := [vm_i z1, vm_r 96]) (m1 := m1) (ob := true) (by decide +kernel) rfl rfl ?_
  refine vm_gj (c := ¬ z1 = 0) (t := 100) (e := 90) (i := (.ifCond .ne 0, 100, 0, [])) (len := 3) (st1 := [vm_r 96]) (by decide +kernel) rfl rfl (fun c1 => ?_) (fun c1 => ?_)
  · replace h := h.1 c1
    refine vm_gp [(.iconst 1, 0, 0, []), (.goto 0, 105, 0, [])] (pc1 := 105) (ls1 := [some (vm_r 96), some (vm_i v1), some (vm_i v2), some (vm_i z1), w4]) (st1 := [vm_i 1, vm_r 96]) (m1 := m1) (ob := true) (by decide +kernel) rfl rfl ?_
    refine vm_gc (g := 203) (na := 2) (av := [vm_r 96, vm_i 1]) (rest := []) (i := (.invokevirtual 0, 203, 2, [])) (len := 3) (by decide +kernel) rfl rfl rfl (by decide +kernel) (by decide +kernel) rfl rfl (vm_u (vm_okh_v (c := 11) (by decide +kernel) (by decide +kernel)) (show vm_okn 203 2 0 0 0 2 = true by decide +kernel)) ?_
    refine vm_G.mono h ?_
    rintro _ m2 ⟨rfl, h⟩
    show vm_G 211 108 [some (vm_r 96), some (vm_i v1), some (vm_i v2), some (vm_i z1), w4] [] m2 _
    exact h
  · replace h := h.2 c1
    refine vm_gp [(.aload 0, 0, 0, []), (.ldc2_w 0, 0, 0, [(24416434, 0)])] (pc1 := 94) (ls1 := [some (vm_r 96), some (vm_i v1), some (vm_i v2), some (vm_i z1), w4]) (st1 := [vm_l 24416434, vm_r 96, vm_r 96]) (m1 := m1) (ob := true) (by decide +kernel) rfl rfl ?_
    refine vm_gc (g := 204) (na := 2) (av := [vm_r 96, vm_l 24416434]) (rest := [vm_r 96]) (i := (.invokevirtual 0, 204, 2, [])) (len := 3) (by decide +kernel) rfl rfl rfl (by decide +kernel) (by decide +kernel) rfl rfl (vm_u (vm_okh_v (c := 11) (by decide +kernel) (by decide +kernel)) (show vm_okn 204 2 1 0 0 3 = true by decide +kernel)) ?_
    refine vm_G.mono h ?_
    rintro _ m3 ⟨z3, rfl, h⟩
    show vm_G 211 97 [some (vm_r 96), some (vm_i v1), some (vm_i v2), some (vm_i z1), w4] [vm_i z3, vm_r 96] m3 _
    refine vm_gj (c := z3 = 0) (t := 104) (e := 100) (i := (.ifCond .eq 0, 104, 0, [])) (len := 3) (st1 := [vm_r 96]) (by decide +kernel) rfl rfl (fun c2 => ?_) (fun c2 => ?_)
    · replace h := h.1 c2
      refine vm_gp [(.iconst 0, 0, 0, [])] (pc1 := 105) (ls1 := [some (vm_r 96), some (vm_i v1), some (vm_i v2), some (vm_i z1), w4]) (st1 := [vm_i 0, vm_r 96]) (m1 := m3) (ob := true) (by decide +kernel) rfl rfl ?_
      refine vm_gc (g := 203) (na := 2) (av := [vm_r 96, vm_i 0]) (rest := []) (i := (.invokevirtual 0, 203, 2, [])) (len := 3) (by decide +kernel) rfl rfl rfl (by decide +kernel) (by decide +kernel) rfl rfl (vm_u (vm_okh_v (c := 11) (by decide +kernel) (by decide +kernel)) (show vm_okn 203 2 0 0 0 2 = true by decide +kernel)) ?_
      refine vm_G.mono h ?_
      rintro _ m4 ⟨rfl, h⟩
      show vm_G 211 108 [some (vm_r 96), some (vm_i v1), some (vm_i v2), some (vm_i z1), w4] [] m4 _
      exact h
    · replace h := h.2 c2
      refine vm_gp [(.iconst 1, 0, 0, []), (.goto 0, 105, 0, [])] (pc1 := 105) (ls1 := [some (vm_r 96), some (vm_i v1), some (vm_i v2), some (vm_i z1), w4]) (st1 := [vm_i 1, vm_r 96]) (m1 := m3) (ob := true) (by decide +kernel) rfl rfl ?_
      refine vm_gc (g := 203) (na := 2) (av := [vm_r 96, vm_i 1]) (rest := []) (i := (.invokevirtual 0, 203, 2, [])) (len := 3) (by decide +kernel) rfl rfl rfl (by decide +kernel) (by decide +kernel) rfl rfl (vm_u (vm_okh_v (c := 11) (by decide +kernel) (by decide +kernel)) (show vm_okn 203 2 0 0 0 2 = true by decide +kernel)) ?_
      refine vm_G.mono h ?_
      rintro _ m5 ⟨rfl, h⟩
      show vm_G 211 108 [some (vm_r 96), some (vm_i v1), some (vm_i v2), some (vm_i z1), w4] [] m5 _
      exact h
set_option maxRecDepth 20000 in
theorem ru11_readPair_108 {v1 : Int} {v2 : Int} {v3 : Int} {w4 : Option vm_V} {m : vm_M} {Q : vm_M → Prop}  (h :
    (vm_C 205 [vm_r 96, vm_i 0, vm_i 9] m (vm_qi (fun z1 m1 =>
      ((¬ (m1 96 28) = 4 →
        (vm_C 203 [vm_r 96, vm_i 0] m1 (vm_qv (fun m2 =>
          ku11_readPair_134 v1 v2 v3 z1 m2 Q)))) ∧ (¬ ¬ (m1 96 28) = 4 →
        (vm_C 203 [vm_r 96, vm_i 1] m1 (vm_qv (fun m3 =>
          ku11_readPair_134 v1 v2 v3 z1 m3 Q))))))))) : ku11_readPair_108 v1 v2 v3 w4 m Q := by
  show vm_G 211 108 [some (vm_r 96), some (vm_i v1), some (vm_i v2), some (vm_i v3), w4] [] m (vm_qv Q)
  refine vm_gp [(.aload 0, 0, 0, []), (.iconst 0, 0, 0, []), (.iconst 9, 0, 0, [])] (pc1 := 112) (ls1 := [some (vm_r 96), some (vm_i v1), some (vm_i v2), some (vm_i v3), w4]) (st1 := [vm_i 9, vm_i 0, vm_r 96]) (m1 := m) (ob := true) (by decide +kernel) rfl rfl ?_
  refine vm_gc (g := 205) (na := 3) (av := [vm_r 96, vm_i 0, vm_i 9]) (rest := []) (i := (.invokevirtual 0, 205, 3, [])) (len := 3) (by decide +kernel) rfl rfl rfl (by decide +kernel) (by decide +kernel) rfl rfl (vm_u (vm_okh_v (c := 11) (by decide +kernel) (by decide +kernel)) (show vm_okn 205 3 0 0 0 3 = true by decide +kernel)) ?_
  refine vm_G.mono h ?_
  rintro _ m1 ⟨z1, rfl, h⟩
  show vm_G 211 115 [some (vm_r 96), some (vm_i v1), some (vm_i v2), some (vm_i v3), w4] [vm_i z1] m1 _
  refine vm_gp [(.istore 4, 0, 0, []), (.aload 0, 0, 0, []), (.aload 0, 0, 0, []), (.getfield 0, 11, 28, []), (.iconst 4, 0, 0, [])] (pc1 := 123) (ls1 := [some (vm_r 96), some (vm_i v1), some (vm_i v2), some (vm_i v3), some (vm_i z1)]) (st1 := [vm_i 4, vm_i (m1 96 28), vm_r 96]) (m1 := m1) (ob := (true && vm_is 96 11)) (by decide +kernel) rfl (vm_u rfl (by decide +kernel)) ?_
  refine vm_gj (c := ¬ (m1 96 28) = 4) (t := 130) (e := 126) (i := (.if_icmp .ne 0, 130, 0, [])) (len := 3) (st1 := [vm_r 96]) (by decide +kernel) rfl rfl (fun c1 => ?_) (fun c1 => ?_)
  · replace h := h.1 c1
    refine vm_gp [(.iconst 0, 0, 0, [])] (pc1 := 131) (ls1 := [some (vm_r 96), some (vm_i v1), some (vm_i v2), some (vm_i v3), some (vm_i z1)]) (st1 := [vm_i 0, vm_r 96]) (m1 := m1) (ob := true) (by decide +kernel) rfl rfl ?_
    refine vm_gc (g := 203) (na := 2) (av := [vm_r 96, vm_i 0]) (rest := []) (i := (.invokevirtual 0, 203, 2, [])) (len := 3) (by decide +kernel) rfl rfl rfl (by decide +kernel) (by decide +kernel) rfl rfl (vm_u (vm_okh_v (c := 11) (by decide +kernel) (by decide +kernel)) (show vm_okn 203 2 0 0 0 2 = true by decide +kernel)) ?_
    refine vm_G.mono h ?_
    rintro _ m2 ⟨rfl, h⟩
    show vm_G 211 134 [some (vm_r 96), some (vm_i v1), some (vm_i v2), some (vm_i v3), some (vm_i z1)] [] m2 _
    exact h
  · replace h := h.2 c1
    refine vm_gp [(.iconst 1, 0, 0, []), (.goto 0, 131, 0, [])] (pc1 := 131) (ls1 := [some (vm_r 96), some (vm_i v1), some (vm_i v2), some (vm_i v3), some (vm_i z1)]) (st1 := [vm_i 1, vm_r 96]) (m1 := m1) (ob := true) (by decide +kernel) rfl rfl ?_
    refine vm_gc (g := 203) (na := 2) (av := [vm_r 96, vm_i 1]) (rest := []) (i := (.invokevirtual 0, 203, 2, [])) (len := 3) (by decide +kernel) rfl rfl rfl (by decide +kernel) (by decide +kernel) rfl rfl (vm_u (vm_okh_v (c := 11) (by decide +kernel) (by decide +kernel)) (show vm_okn 203 2 0 0 0 2 = true by decide +kernel)) ?_
    refine vm_G.mono h ?_
    rintro _ m3 ⟨rfl, h⟩
    show vm_G 211 134 [some (vm_r 96), some (vm_i v1), some (vm_i v2), some (vm_i v3), some (vm_i z1)] [] m3 _
    exact h
set_option maxRecDepth 20000 in
theorem ru11_readPair_134 {v1 : Int} {v2 : Int} {v3 : Int} {v4 : Int} {m : vm_M} {Q : vm_M → Prop}  (h :
    (((m 96 31) = 0 →
      Q m) ∧ (¬ (m 96 31) = 0 →
      ((vm_32 (26 * v1)) ∧ (vm_32 ((26 * v1) + v2))) ∧
      ((v3 = 0 →
        ((0 ≤ ((26 * v1) + v2) ∧ ((26 * v1) + v2) < 676)) ∧
        Q (vm_st m 114 ((26 * v1) + v2) v4)) ∧ (¬ v3 = 0 →
        ((vm_32 (-v4)) ∧ (0 ≤ ((26 * v1) + v2) ∧ ((26 * v1) + v2) < 676)) ∧
        Q (vm_st m 114 ((26 * v1) + v2) (-v4))))))) : ku11_readPair_134 v1 v2 v3 v4 m Q := by
  show vm_G 211 134 [some (vm_r 96), some (vm_i v1), some (vm_i v2), some (vm_i v3), some (vm_i v4)] [] m (vm_qv Q)
  refine vm_gp [(.aload 0, 0, 0, []), (.getfield 0, 11, 31, [])] (pc1 := 138) (ls1 := [some (vm_r 96), some (vm_i v1), some (vm_i v2), some (vm_i v3), some (vm_i v4)]) (st1 := [vm_i (m 96 31)]) (m1 := m) (ob := (true && vm_is 96 11)) (by decide +kernel) rfl (vm_u rfl (by decide +kernel)) ?_
  refine vm_gj (c := (m 96 31) = 0) (t := 164) (e := 141) (i := (.ifCond .eq 0, 164, 0, [])) (len := 3) (st1 := []) (by decide +kernel) rfl rfl (fun c1 => ?_) (fun c1 => ?_)
  · replace h := h.1 c1
    exact vm_gr (r := none) (i := (.return_, 0, 0, [])) (len := 1) (by decide +kernel) rfl rfl rfl ⟨rfl, h⟩
  · replace h := h.2 c1
    obtain ⟨⟨o3_0, o3_1⟩, h⟩ := h
    refine vm_gp [(.aload 0, 0, 0, []), (.getfield 2, 11, 37, [(114, 0)]), (.iconst 26, 0, 0, []), (.iload 1, 0, 0, []), (.imul, 0, 0, []), (.iload 2, 0, 0, []), (.iadd, 0, 0, []), (.iload 3, 0, 0, [])] (pc1 := 152) (ls1 := [some (vm_r 96), some (vm_i v1), some (vm_i v2), some (vm_i v3), some (vm_i v4)]) (st1 := [vm_i v3, vm_i ((26 * v1) + v2), vm_r 114]) (m1 := m) (ob := ((((true && vm_is 96 11) && true) && decide (vm_32 (26 * v1))) && decide (vm_32 ((26 * v1) + v2)))) (by decide +kernel) rfl (vm_t (vm_t (vm_u (vm_u rfl (by decide +kernel)) rfl) o3_0) o3_1) ?_
    refine vm_gj (c := v3 = 0) (t := 161) (e := 155) (i := (.ifCond .eq 0, 161, 0, [])) (len := 3) (st1 := [vm_i ((26 * v1) + v2), vm_r 114]) (by decide +kernel) rfl rfl (fun c2 => ?_) (fun c2 => ?_)
    · replace h := h.1 c2
      obtain ⟨o4_0, h⟩ := h
      refine vm_gp [(.iload 4, 0, 0, []), (.iastore, 676, 0, [])] (pc1 := 164) (ls1 := [some (vm_r 96), some (vm_i v1), some (vm_i v2), some (vm_i v3), some (vm_i v4)]) (st1 := []) (m1 := (vm_st m 114 ((26 * v1) + v2) v4)) (ob := ((true && vm_ar 114 100 676) && decide (0 ≤ ((26 * v1) + v2) ∧ ((26 * v1) + v2) < 676))) (by decide +kernel) rfl (vm_t (vm_u rfl (by decide +kernel)) o4_0) ?_
      exact vm_gr (r := none) (i := (.return_, 0, 0, [])) (len := 1) (by decide +kernel) rfl rfl rfl ⟨rfl, h⟩
    · replace h := h.2 c2
      obtain ⟨⟨o5_0, o5_1⟩, h⟩ := h
      refine vm_gp [(.iload 4, 0, 0, []), (.ineg, 0, 0, []), (.goto 0, 163, 0, []), (.iastore, 676, 0, [])] (pc1 := 164) (ls1 := [some (vm_r 96), some (vm_i v1), some (vm_i v2), some (vm_i v3), some (vm_i v4)]) (st1 := []) (m1 := (vm_st m 114 ((26 * v1) + v2) (-v4))) (ob := (((true && decide (vm_32 (-v4))) && vm_ar 114 100 676) && decide (0 ≤ ((26 * v1) + v2) ∧ ((26 * v1) + v2) < 676))) (by decide +kernel) rfl (vm_t (vm_u (vm_t rfl o5_0) (by decide +kernel)) o5_1) ?_
      exact vm_gr (r := none) (i := (.return_, 0, 0, [])) (len := 1) (by decide +kernel) rfl rfl rfl ⟨rfl, h⟩
abbrev ku11_readAll_0  (m : vm_M) (Q : vm_M → Prop) : Prop := vm_G 212 0 [some (vm_r 96)] [] m (vm_qv Q)
abbrev ku11_readAll_12  (m : vm_M) (Q : vm_M → Prop) : Prop := vm_G 212 12 [some (vm_r 96)] [] m (vm_qv Q)
abbrev ku11_readAll_29  (m : vm_M) (Q : vm_M → Prop) : Prop := vm_G 212 29 [some (vm_r 96)] [] m (vm_qv Q)
set_option maxRecDepth 20000 in
theorem ru11_readAll_0  {m : vm_M} {Q : vm_M → Prop}  (h :
    (vm_C 202 [vm_r 96] m (vm_qv (fun m1 =>
      (vm_C 207 [vm_r 96] m1 (vm_qv (fun m2 =>
        (vm_C 210 [vm_r 96] m2 (vm_qv (fun m3 =>
          ku11_readAll_12 m3 Q)))))))))) : vm_C 212 [vm_r 96] m (vm_qv Q) := by
  show vm_G 212 0 [some (vm_r 96)] [] m (vm_qv Q)
  refine vm_gp [(.aload 0, 0, 0, [])] (pc1 := 1) (ls1 := [some (vm_r 96)]) (st1 := [vm_r 96]) (m1 := m) (ob := true) (by decide +kernel) rfl rfl ?_
  refine vm_gc (g := 202) (na := 1) (av := [vm_r 96]) (rest := []) (i := (.invokevirtual 0, 202, 1, [])) (len := 3) (by decide +kernel) rfl rfl rfl (by decide +kernel) (by decide +kernel) rfl rfl (vm_u (vm_okh_v (c := 11) (by decide +kernel) (by decide +kernel)) (show vm_okn 202 1 0 0 0 1 = true by decide +kernel)) ?_
  refine vm_G.mono h ?_
  rintro _ m1 ⟨rfl, h⟩
  show vm_G 212 4 [some (vm_r 96)] [] m1 _
  refine vm_gp [(.aload 0, 0, 0, [])] (pc1 := 5) (ls1 := [some (vm_r 96)]) (st1 := [vm_r 96]) (m1 := m1) (ob := true) (by decide +kernel) rfl rfl ?_
  refine vm_gc (g := 207) (na := 1) (av := [vm_r 96]) (rest := []) (i := (.invokevirtual 0, 207, 1, [])) (len := 3) (by decide +kernel) rfl rfl rfl (by decide +kernel) (by decide +kernel) rfl rfl (vm_u (vm_okh_v (c := 11) (by decide +kernel) (by decide +kernel)) (show vm_okn 207 1 0 0 0 1 = true by decide +kernel)) ?_
  refine vm_G.mono h ?_
  rintro _ m2 ⟨rfl, h⟩
  show vm_G 212 8 [some (vm_r 96)] [] m2 _
  refine vm_gp [(.aload 0, 0, 0, [])] (pc1 := 9) (ls1 := [some (vm_r 96)]) (st1 := [vm_r 96]) (m1 := m2) (ob := true) (by decide +kernel) rfl rfl ?_
  refine vm_gc (g := 210) (na := 1) (av := [vm_r 96]) (rest := []) (i := (.invokevirtual 0, 210, 1, [])) (len := 3) (by decide +kernel) rfl rfl rfl (by decide +kernel) (by decide +kernel) rfl rfl (vm_u (vm_okh_v (c := 11) (by decide +kernel) (by decide +kernel)) (show vm_okn 210 1 0 0 0 1 = true by decide +kernel)) ?_
  refine vm_G.mono h ?_
  rintro _ m3 ⟨rfl, h⟩
  show vm_G 212 12 [some (vm_r 96)] [] m3 _
  exact h
set_option maxRecDepth 20000 in
theorem ru11_readAll_12  {m : vm_M} {Q : vm_M → Prop}  (h :
    (vm_C 204 [vm_r 96, vm_l 408572082] m (vm_qi (fun z1 m1 =>
      ((z1 = 0 →
        ku11_readAll_29 m1 Q) ∧ (¬ z1 = 0 →
        (vm_C 210 [vm_r 96] m1 (vm_qv (fun m2 =>
          ku11_readAll_12 m2 Q))))))))) : ku11_readAll_12 m Q := by
  show vm_G 212 12 [some (vm_r 96)] [] m (vm_qv Q)
  refine vm_gp [(.aload 0, 0, 0, []), (.ldc2_w 0, 0, 0, [(408572082, 0)])] (pc1 := 16) (ls1 := [some (vm_r 96)]) (st1 := [vm_l 408572082, vm_r 96]) (m1 := m) (ob := true) (by decide +kernel) rfl rfl ?_
  refine vm_gc (g := 204) (na := 2) (av := [vm_r 96, vm_l 408572082]) (rest := []) (i := (.invokevirtual 0, 204, 2, [])) (len := 3) (by decide +kernel) rfl rfl rfl (by decide +kernel) (by decide +kernel) rfl rfl (vm_u (vm_okh_v (c := 11) (by decide +kernel) (by decide +kernel)) (show vm_okn 204 2 0 0 0 3 = true by decide +kernel)) ?_
  refine vm_G.mono h ?_
  rintro _ m1 ⟨z1, rfl, h⟩
  show vm_G 212 19 [some (vm_r 96)] [vm_i z1] m1 _
  refine vm_gj (c := z1 = 0) (t := 29) (e := 22) (i := (.ifCond .eq 0, 29, 0, [])) (len := 3) (st1 := []) (by decide +kernel) rfl rfl (fun c1 => ?_) (fun c1 => ?_)
  · replace h := h.1 c1
    exact h
  · replace h := h.2 c1
    refine vm_gp [(.aload 0, 0, 0, [])] (pc1 := 23) (ls1 := [some (vm_r 96)]) (st1 := [vm_r 96]) (m1 := m1) (ob := true) (by decide +kernel) rfl rfl ?_
    refine vm_gc (g := 210) (na := 1) (av := [vm_r 96]) (rest := []) (i := (.invokevirtual 0, 210, 1, [])) (len := 3) (by decide +kernel) rfl rfl rfl (by decide +kernel) (by decide +kernel) rfl rfl (vm_u (vm_okh_v (c := 11) (by decide +kernel) (by decide +kernel)) (show vm_okn 210 1 0 0 0 1 = true by decide +kernel)) ?_
    refine vm_G.mono h ?_
    rintro _ m2 ⟨rfl, h⟩
    show vm_G 212 26 [some (vm_r 96)] [] m2 _
    refine vm_gp [(.goto 0, 12, 0, [])] (pc1 := 12) (ls1 := [some (vm_r 96)]) (st1 := []) (m1 := m2) (ob := true) (by decide +kernel) rfl rfl ?_
    exact h
set_option maxRecDepth 20000 in
theorem ru11_readAll_29  {m : vm_M} {Q : vm_M → Prop}  (h :
    (((m 96 31) = 0 →
      Q m) ∧ (¬ (m 96 31) = 0 →
      (((m 96 28) = 0 →
        Q m) ∧ (¬ (m 96 28) = 0 →
        (vm_C 211 [vm_r 96] m (vm_qv (fun m1 =>
          ku11_readAll_29 m1 Q)))))))) : ku11_readAll_29 m Q := by
  show vm_G 212 29 [some (vm_r 96)] [] m (vm_qv Q)
  refine vm_gp [(.aload 0, 0, 0, []), (.getfield 0, 11, 31, [])] (pc1 := 33) (ls1 := [some (vm_r 96)]) (st1 := [vm_i (m 96 31)]) (m1 := m) (ob := (true && vm_is 96 11)) (by decide +kernel) rfl (vm_u rfl (by decide +kernel)) ?_
  refine vm_gj (c := (m 96 31) = 0) (t := 50) (e := 36) (i := (.ifCond .eq 0, 50, 0, [])) (len := 3) (st1 := []) (by decide +kernel) rfl rfl (fun c1 => ?_) (fun c1 => ?_)
  · replace h := h.1 c1
    exact vm_gr (r := none) (i := (.return_, 0, 0, [])) (len := 1) (by decide +kernel) rfl rfl rfl ⟨rfl, h⟩
  · replace h := h.2 c1
    refine vm_gp [(.aload 0, 0, 0, []), (.getfield 0, 11, 28, [])] (pc1 := 40) (ls1 := [some (vm_r 96)]) (st1 := [vm_i (m 96 28)]) (m1 := m) (ob := (true && vm_is 96 11)) (by decide +kernel) rfl (vm_u rfl (by decide +kernel)) ?_
    refine vm_gj (c := (m 96 28) = 0) (t := 50) (e := 43) (i := (.ifCond .eq 0, 50, 0, [])) (len := 3) (st1 := []) (by decide +kernel) rfl rfl (fun c2 => ?_) (fun c2 => ?_)
    · replace h := h.1 c2
      exact vm_gr (r := none) (i := (.return_, 0, 0, [])) (len := 1) (by decide +kernel) rfl rfl rfl ⟨rfl, h⟩
    · replace h := h.2 c2
      refine vm_gp [(.aload 0, 0, 0, [])] (pc1 := 44) (ls1 := [some (vm_r 96)]) (st1 := [vm_r 96]) (m1 := m) (ob := true) (by decide +kernel) rfl rfl ?_
      refine vm_gc (g := 211) (na := 1) (av := [vm_r 96]) (rest := []) (i := (.invokevirtual 0, 211, 1, [])) (len := 3) (by decide +kernel) rfl rfl rfl (by decide +kernel) (by decide +kernel) rfl rfl (vm_u (vm_okh_v (c := 11) (by decide +kernel) (by decide +kernel)) (show vm_okn 211 1 0 0 0 1 = true by decide +kernel)) ?_
      refine vm_G.mono h ?_
      rintro _ m1 ⟨rfl, h⟩
      show vm_G 212 47 [some (vm_r 96)] [] m1 _
      refine vm_gp [(.goto 0, 29, 0, [])] (pc1 := 29) (ls1 := [some (vm_r 96)]) (st1 := []) (m1 := m1) (ob := true) (by decide +kernel) rfl rfl ?_
      exact h
abbrev ku11_append_0 (v1 : Int) (v2 : Int) (v3 : Int) (v4 : Int) (v5 : Int) (m : vm_M) (Q : Int → vm_M → Prop) : Prop := vm_G 213 0 [some (vm_r 96), some (vm_i v1), some (vm_i v2), some (vm_i v3), some (vm_i v4), some (vm_i v5)] [] m (vm_qi Q)
set_option maxRecDepth 20000 in
theorem ru11_append_0 {v1 : Int} {v2 : Int} {v3 : Int} {v4 : Int} {v5 : Int} {m : vm_M} {Q : Int → vm_M → Prop}  (h :
    ((vm_32 ((m 96 1) + 20))) ∧
    ((((m 96 1) + 20) ≤ 2000 →
      (vm_C 214 [vm_r 96, vm_i v1] m (vm_qv (fun m1 =>
        (vm_C 214 [vm_r 96, vm_i v2] m1 (vm_qv (fun m2 =>
          (vm_C 214 [vm_r 96, vm_i v3] m2 (vm_qv (fun m3 =>
            (vm_C 214 [vm_r 96, vm_i v4] m3 (vm_qv (fun m4 =>
              (vm_C 214 [vm_r 96, vm_i v5] m4 (vm_qv (fun m5 =>
                Q (m5 96 1) m5)))))))))))))))) ∧ (¬ ((m 96 1) + 20) ≤ 2000 →
      Q (-1) m))) : vm_C 213 [vm_r 96, vm_i v1, vm_i v2, vm_i v3, vm_i v4, vm_i v5] m (vm_qi Q) := by
  show vm_G 213 0 [some (vm_r 96), some (vm_i v1), some (vm_i v2), some (vm_i v3), some (vm_i v4), some (vm_i v5)] [] m (vm_qi Q)
  obtain ⟨o1_0, h⟩ := h
  refine vm_gp [(.aload 0, 0, 0, []), (.getfield 0, 11, 1, []), (.iconst 20, 0, 0, []), (.iadd, 0, 0, []), (.iconst 2000, 0, 0, [])] (pc1 := 10) (ls1 := [some (vm_r 96), some (vm_i v1), some (vm_i v2), some (vm_i v3), some (vm_i v4), some (vm_i v5)]) (st1 := [vm_i 2000, vm_i ((m 96 1) + 20)]) (m1 := m) (ob := ((true && vm_is 96 11) && decide (vm_32 ((m 96 1) + 20)))) (by decide +kernel) rfl (vm_t (vm_u rfl (by decide +kernel)) o1_0) ?_
  refine vm_gj (c := ((m 96 1) + 20) ≤ 2000) (t := 15) (e := 13) (i := (.if_icmp .le 0, 15, 0, [])) (len := 3) (st1 := []) (by decide +kernel) rfl rfl (fun c1 => ?_) (fun c1 => ?_)
  · replace h := h.1 c1
    refine vm_gp [(.aload 0, 0, 0, []), (.iload 1, 0, 0, [])] (pc1 := 17) (ls1 := [some (vm_r 96), some (vm_i v1), some (vm_i v2), some (vm_i v3), some (vm_i v4), some (vm_i v5)]) (st1 := [vm_i v1, vm_r 96]) (m1 := m) (ob := true) (by decide +kernel) rfl rfl ?_
    refine vm_gc (g := 214) (na := 2) (av := [vm_r 96, vm_i v1]) (rest := []) (i := (.invokevirtual 0, 214, 2, [])) (len := 3) (by decide +kernel) rfl rfl rfl (by decide +kernel) (by decide +kernel) rfl rfl (vm_u (vm_okh_v (c := 11) (by decide +kernel) (by decide +kernel)) (show vm_okn 214 2 0 0 0 2 = true by decide +kernel)) ?_
    refine vm_G.mono h ?_
    rintro _ m1 ⟨rfl, h⟩
    show vm_G 213 20 [some (vm_r 96), some (vm_i v1), some (vm_i v2), some (vm_i v3), some (vm_i v4), some (vm_i v5)] [] m1 _
    refine vm_gp [(.aload 0, 0, 0, []), (.iload 2, 0, 0, [])] (pc1 := 22) (ls1 := [some (vm_r 96), some (vm_i v1), some (vm_i v2), some (vm_i v3), some (vm_i v4), some (vm_i v5)]) (st1 := [vm_i v2, vm_r 96]) (m1 := m1) (ob := true) (by decide +kernel) rfl rfl ?_
    refine vm_gc (g := 214) (na := 2) (av := [vm_r 96, vm_i v2]) (rest := []) (i := (.invokevirtual 0, 214, 2, [])) (len := 3) (by decide +kernel) rfl rfl rfl (by decide +kernel) (by decide +kernel) rfl rfl (vm_u (vm_okh_v (c := 11) (by decide +kernel) (by decide +kernel)) (show vm_okn 214 2 0 0 0 2 = true by decide +kernel)) ?_
    refine vm_G.mono h ?_
    rintro _ m2 ⟨rfl, h⟩
    show vm_G 213 25 [some (vm_r 96), some (vm_i v1), some (vm_i v2), some (vm_i v3), some (vm_i v4), some (vm_i v5)] [] m2 _
    refine vm_gp [(.aload 0, 0, 0, []), (.iload 3, 0, 0, [])] (pc1 := 27) (ls1 := [some (vm_r 96), some (vm_i v1), some (vm_i v2), some (vm_i v3), some (vm_i v4), some (vm_i v5)]) (st1 := [vm_i v3, vm_r 96]) (m1 := m2) (ob := true) (by decide +kernel) rfl rfl ?_
    refine vm_gc (g := 214) (na := 2) (av := [vm_r 96, vm_i v3]) (rest := []) (i := (.invokevirtual 0, 214, 2, [])) (len := 3) (by decide +kernel) rfl rfl rfl (by decide +kernel) (by decide +kernel) rfl rfl (vm_u (vm_okh_v (c := 11) (by decide +kernel) (by decide +kernel)) (show vm_okn 214 2 0 0 0 2 = true by decide +kernel)) ?_
    refine vm_G.mono h ?_
    rintro _ m3 ⟨rfl, h⟩
    show vm_G 213 30 [some (vm_r 96), some (vm_i v1), some (vm_i v2), some (vm_i v3), some (vm_i v4), some (vm_i v5)] [] m3 _
    refine vm_gp [(.aload 0, 0, 0, []), (.iload 4, 0, 0, [])] (pc1 := 33) (ls1 := [some (vm_r 96), some (vm_i v1), some (vm_i v2), some (vm_i v3), some (vm_i v4), some (vm_i v5)]) (st1 := [vm_i v4, vm_r 96]) (m1 := m3) (ob := true) (by decide +kernel) rfl rfl ?_
    refine vm_gc (g := 214) (na := 2) (av := [vm_r 96, vm_i v4]) (rest := []) (i := (.invokevirtual 0, 214, 2, [])) (len := 3) (by decide +kernel) rfl rfl rfl (by decide +kernel) (by decide +kernel) rfl rfl (vm_u (vm_okh_v (c := 11) (by decide +kernel) (by decide +kernel)) (show vm_okn 214 2 0 0 0 2 = true by decide +kernel)) ?_
    refine vm_G.mono h ?_
    rintro _ m4 ⟨rfl, h⟩
    show vm_G 213 36 [some (vm_r 96), some (vm_i v1), some (vm_i v2), some (vm_i v3), some (vm_i v4), some (vm_i v5)] [] m4 _
    refine vm_gp [(.aload 0, 0, 0, []), (.iload 5, 0, 0, [])] (pc1 := 39) (ls1 := [some (vm_r 96), some (vm_i v1), some (vm_i v2), some (vm_i v3), some (vm_i v4), some (vm_i v5)]) (st1 := [vm_i v5, vm_r 96]) (m1 := m4) (ob := true) (by decide +kernel) rfl rfl ?_
    refine vm_gc (g := 214) (na := 2) (av := [vm_r 96, vm_i v5]) (rest := []) (i := (.invokevirtual 0, 214, 2, [])) (len := 3) (by decide +kernel) rfl rfl rfl (by decide +kernel) (by decide +kernel) rfl rfl (vm_u (vm_okh_v (c := 11) (by decide +kernel) (by decide +kernel)) (show vm_okn 214 2 0 0 0 2 = true by decide +kernel)) ?_
    refine vm_G.mono h ?_
    rintro _ m5 ⟨rfl, h⟩
    show vm_G 213 42 [some (vm_r 96), some (vm_i v1), some (vm_i v2), some (vm_i v3), some (vm_i v4), some (vm_i v5)] [] m5 _
    refine vm_gp [(.aload 0, 0, 0, []), (.getfield 0, 11, 1, [])] (pc1 := 46) (ls1 := [some (vm_r 96), some (vm_i v1), some (vm_i v2), some (vm_i v3), some (vm_i v4), some (vm_i v5)]) (st1 := [vm_i (m5 96 1)]) (m1 := m5) (ob := (true && vm_is 96 11)) (by decide +kernel) rfl (vm_u rfl (by decide +kernel)) ?_
    exact vm_gr (r := some (vm_i (m5 96 1))) (i := (.ireturn, 1, 0, [])) (len := 1) (by decide +kernel) rfl rfl rfl ⟨_, rfl, h⟩
  · replace h := h.2 c1
    refine vm_gp [(.iconst (-1), 0, 0, [])] (pc1 := 14) (ls1 := [some (vm_r 96), some (vm_i v1), some (vm_i v2), some (vm_i v3), some (vm_i v4), some (vm_i v5)]) (st1 := [vm_i (-1)]) (m1 := m) (ob := true) (by decide +kernel) rfl rfl ?_
    exact vm_gr (r := some (vm_i (-1))) (i := (.ireturn, 1, 0, [])) (len := 1) (by decide +kernel) rfl rfl rfl ⟨_, rfl, h⟩
abbrev ku11_feeds_0 (v1 : Int) (m : vm_M) (Q : vm_M → Prop) : Prop := vm_G 214 0 [some (vm_r 96), some (vm_i v1), none] [] m (vm_qv Q)
abbrev ku11_feeds_3 (v1 : Int) (v2 : Int) (m : vm_M) (Q : vm_M → Prop) : Prop := vm_G 214 3 [some (vm_r 96), some (vm_i v1), some (vm_i v2)] [] m (vm_qv Q)
set_option maxRecDepth 20000 in
theorem ru11_feeds_0 {v1 : Int} {m : vm_M} {Q : vm_M → Prop}  (h :
    ku11_feeds_3 v1 24 m Q) : vm_C 214 [vm_r 96, vm_i v1] m (vm_qv Q) := by
  show vm_G 214 0 [some (vm_r 96), some (vm_i v1), none] [] m (vm_qv Q)
  refine vm_gp [(.iconst 24, 0, 0, []), (.istore 2, 0, 0, [])] (pc1 := 3) (ls1 := [some (vm_r 96), some (vm_i v1), some (vm_i 24)]) (st1 := []) (m1 := m) (ob := true) (by decide +kernel) rfl rfl ?_
  exact h
set_option maxRecDepth 20000 in
theorem ru11_feeds_3 {v1 : Int} {v2 : Int} {m : vm_M} {Q : vm_M → Prop}  (h :
    ((v2 < 0 →
      Q m) ∧ (¬ v2 < 0 →
      ((0 ≤ (m 96 1) ∧ (m 96 1) < 2000) ∧ (-128 ≤ (vm_w8 (vm_shr v1 v2)) ∧ (vm_w8 (vm_shr v1 v2)) ≤ 127) ∧ (vm_32 (((vm_st m 97 (m 96 1) (vm_w8 (vm_shr v1 v2))) 96 1) + 1)) ∧ (vm_32 (v2 + (-8)))) ∧
      ku11_feeds_3 v1 (v2 + (-8)) (vm_st (vm_st m 97 (m 96 1) (vm_w8 (vm_shr v1 v2))) 96 1 (((vm_st m 97 (m 96 1) (vm_w8 (vm_shr v1 v2))) 96 1) + 1)) Q))) : ku11_feeds_3 v1 v2 m Q := by
  show vm_G 214 3 [some (vm_r 96), some (vm_i v1), some (vm_i v2)] [] m (vm_qv Q)
  refine vm_gp [(.iload 2, 0, 0, [])] (pc1 := 4) (ls1 := [some (vm_r 96), some (vm_i v1), some (vm_i v2)]) (st1 := [vm_i v2]) (m1 := m) (ob := true) (by decide +kernel) rfl rfl ?_
  refine vm_gj (c := v2 < 0) (t := 36) (e := 7) (i := (.ifCond .lt 0, 36, 0, [])) (len := 3) (st1 := []) (by decide +kernel) rfl rfl (fun c1 => ?_) (fun c1 => ?_)
  · replace h := h.1 c1
    exact vm_gr (r := none) (i := (.return_, 0, 0, [])) (len := 1) (by decide +kernel) rfl rfl rfl ⟨rfl, h⟩
  · replace h := h.2 c1
    obtain ⟨⟨o3_0, o3_1, o3_2, o3_3⟩, h⟩ := h
    refine vm_gp [(.aload 0, 0, 0, []), (.getfield 2, 11, 0, [(97, 0)]), (.aload 0, 0, 0, []), (.getfield 0, 11, 1, []), (.iload 1, 0, 0, []), (.iload 2, 0, 0, []), (.ishr, 0, 0, []), (.i2b, 0, 0, []), (.bastore, 2000, 101, []), (.aload 0, 0, 0, []), (.dup, 0, 0, []), (.getfield 0, 11, 1, []), (.iconst 1, 0, 0, []), (.iadd, 0, 0, []), (.putfield 0, 11, 1, []), (.iinc 2 (-8), 0, 0, []), (.goto 0, 3, 0, [])] (pc1 := 3) (ls1 := [some (vm_r 96), some (vm_i v1), some (vm_i (v2 + (-8)))]) (st1 := []) (m1 := (vm_st (vm_st m 97 (m 96 1) (vm_w8 (vm_shr v1 v2))) 96 1 (((vm_st m 97 (m 96 1) (vm_w8 (vm_shr v1 v2))) 96 1) + 1))) (ob := ((((((((((true && vm_is 96 11) && true) && vm_is 96 11) && vm_ar 97 101 2000) && decide (0 ≤ (m 96 1) ∧ (m 96 1) < 2000)) && decide (-128 ≤ (vm_w8 (vm_shr v1 v2)) ∧ (vm_w8 (vm_shr v1 v2)) ≤ 127)) && vm_is 96 11) && decide (vm_32 (((vm_st m 97 (m 96 1) (vm_w8 (vm_shr v1 v2))) 96 1) + 1))) && vm_is 96 11) && decide (vm_32 (v2 + (-8))))) (by decide +kernel) rfl (vm_t (vm_u (vm_t (vm_u (vm_t (vm_t (vm_u (vm_u (vm_u (vm_u rfl (by decide +kernel)) rfl) (by decide +kernel)) (by decide +kernel)) o3_0) o3_1) (by decide +kernel)) o3_2) (by decide +kernel)) o3_3) ?_
    exact h
abbrev ku11_truncate_0 (v1 : Int) (m : vm_M) (Q : Int → vm_M → Prop) : Prop := vm_G 215 0 [some (vm_r 96), some (vm_i v1)] [] m (vm_qi Q)
set_option maxRecDepth 20000 in
theorem ru11_truncate_0 {v1 : Int} {m : vm_M} {Q : Int → vm_M → Prop}  (h :
    (vm_C 164 [vm_l v1, vm_l 0, vm_l (m 96 1)] m (vm_qi (fun z1 m1 =>
      ((¬ z1 = 0 →
        ((vm_32 ((m1 96 1) - v1))) ∧
        Q ((vm_st m1 96 1 ((m1 96 1) - v1)) 96 1) (vm_st m1 96 1 ((m1 96 1) - v1))) ∧ (¬ ¬ z1 = 0 →
        Q (-1) m1)))))) : vm_C 215 [vm_r 96, vm_i v1] m (vm_qi Q) := by
  show vm_G 215 0 [some (vm_r 96), some (vm_i v1)] [] m (vm_qi Q)
  refine vm_gp [(.iload 1, 0, 0, []), (.i2l, 0, 0, []), (.ldc2_w 0, 0, 0, [(0, 0)]), (.aload 0, 0, 0, []), (.getfield 0, 11, 1, []), (.i2l, 0, 0, [])] (pc1 := 8) (ls1 := [some (vm_r 96), some (vm_i v1)]) (st1 := [vm_l (m 96 1), vm_l 0, vm_l v1]) (m1 := m) (ob := (true && vm_is 96 11)) (by decide +kernel) rfl (vm_u rfl (by decide +kernel)) ?_
  refine vm_gc (g := 164) (na := 3) (av := [vm_l v1, vm_l 0, vm_l (m 96 1)]) (rest := []) (i := (.invokestatic 0, 164, 3, [])) (len := 3) (by decide +kernel) rfl rfl rfl (by decide +kernel) (by decide +kernel) rfl rfl (vm_u (vm_okh_s (by decide +kernel)) (show vm_okn 164 3 0 0 0 6 = true by decide +kernel)) ?_
  refine vm_G.mono h ?_
  rintro _ m1 ⟨z1, rfl, h⟩
  show vm_G 215 11 [some (vm_r 96), some (vm_i v1)] [vm_i z1] m1 _
  refine vm_gj (c := ¬ z1 = 0) (t := 16) (e := 14) (i := (.ifCond .ne 0, 16, 0, [])) (len := 3) (st1 := []) (by decide +kernel) rfl rfl (fun c1 => ?_) (fun c1 => ?_)
  · replace h := h.1 c1
    obtain ⟨o3_0, h⟩ := h
    refine vm_gp [(.aload 0, 0, 0, []), (.dup, 0, 0, []), (.getfield 0, 11, 1, []), (.iload 1, 0, 0, []), (.isub, 0, 0, []), (.putfield 0, 11, 1, []), (.aload 0, 0, 0, []), (.getfield 0, 11, 1, [])] (pc1 := 30) (ls1 := [some (vm_r 96), some (vm_i v1)]) (st1 := [vm_i ((vm_st m1 96 1 ((m1 96 1) - v1)) 96 1)]) (m1 := (vm_st m1 96 1 ((m1 96 1) - v1))) (ob := ((((true && vm_is 96 11) && decide (vm_32 ((m1 96 1) - v1))) && vm_is 96 11) && vm_is 96 11)) (by decide +kernel) rfl (vm_u (vm_u (vm_t (vm_u rfl (by decide +kernel)) o3_0) (by decide +kernel)) (by decide +kernel)) ?_
    exact vm_gr (r := some (vm_i ((vm_st m1 96 1 ((m1 96 1) - v1)) 96 1))) (i := (.ireturn, 1, 0, [])) (len := 1) (by decide +kernel) rfl rfl rfl ⟨_, rfl, h⟩
  · replace h := h.2 c1
    refine vm_gp [(.iconst (-1), 0, 0, [])] (pc1 := 15) (ls1 := [some (vm_r 96), some (vm_i v1)]) (st1 := [vm_i (-1)]) (m1 := m1) (ob := true) (by decide +kernel) rfl rfl ?_
    exact vm_gr (r := some (vm_i (-1))) (i := (.ireturn, 1, 0, [])) (len := 1) (by decide +kernel) rfl rfl rfl ⟨_, rfl, h⟩
abbrev ku11_load_0  (m : vm_M) (Q : Int → vm_M → Prop) : Prop := vm_G 216 0 [some (vm_r 96), none] [] m (vm_qi Q)
abbrev ku11_load_23 (v1 : Int) (m : vm_M) (Q : Int → vm_M → Prop) : Prop := vm_G 216 23 [some (vm_r 96), some (vm_i v1)] [] m (vm_qi Q)
abbrev ku11_load_63 (v1 : Int) (m : vm_M) (Q : Int → vm_M → Prop) : Prop := vm_G 216 63 [some (vm_r 96), some (vm_i v1)] [] m (vm_qi Q)
abbrev ku11_load_101 (v1 : Int) (m : vm_M) (Q : Int → vm_M → Prop) : Prop := vm_G 216 101 [some (vm_r 96), some (vm_i v1)] [] m (vm_qi Q)
abbrev ku11_load_127 (v1 : Int) (m : vm_M) (Q : Int → vm_M → Prop) : Prop := vm_G 216 127 [some (vm_r 96), some (vm_i v1)] [] m (vm_qi Q)
abbrev ku11_load_153 (v1 : Int) (m : vm_M) (Q : Int → vm_M → Prop) : Prop := vm_G 216 153 [some (vm_r 96), some (vm_i v1)] [] m (vm_qi Q)
abbrev ku11_load_180 (v1 : Int) (m : vm_M) (Q : Int → vm_M → Prop) : Prop := vm_G 216 180 [some (vm_r 96), some (vm_i v1)] [] m (vm_qi Q)
set_option maxRecDepth 20000 in
theorem ru11_load_0  {m : vm_M} {Q : Int → vm_M → Prop}  (h :
    ku11_load_23 0 (vm_st (vm_st (vm_st (vm_st m 96 2 (-2)) 96 31 1) 96 26 0) 96 33 0) Q) : vm_C 216 [vm_r 96] m (vm_qi Q) := by
  show vm_G 216 0 [some (vm_r 96), none] [] m (vm_qi Q)
  refine vm_gp [(.aload 0, 0, 0, []), (.iconst (-2), 0, 0, []), (.putfield 0, 11, 2, []), (.aload 0, 0, 0, []), (.iconst 1, 0, 0, []), (.putfield 3, 11, 31, []), (.aload 0, 0, 0, []), (.iconst 0, 0, 0, []), (.putfield 0, 11, 26, []), (.aload 0, 0, 0, []), (.iconst 0, 0, 0, []), (.putfield 0, 11, 33, []), (.iconst 0, 0, 0, []), (.istore 1, 0, 0, [])] (pc1 := 23) (ls1 := [some (vm_r 96), some (vm_i 0)]) (st1 := []) (m1 := (vm_st (vm_st (vm_st (vm_st m 96 2 (-2)) 96 31 1) 96 26 0) 96 33 0)) (ob := (((((true && vm_is 96 11) && vm_is 96 11) && decide ((1 : Int) = 0 ∨ (1 : Int) = 1)) && vm_is 96 11) && vm_is 96 11)) (by decide +kernel) rfl (vm_u (vm_u (vm_t (vm_u (vm_u rfl (by decide +kernel)) (by decide +kernel)) (by decide)) (by decide +kernel)) (by decide +kernel)) ?_
  exact h
set_option maxRecDepth 20000 in
theorem ru11_load_23 {v1 : Int} {m : vm_M} {Q : Int → vm_M → Prop}  (h :
    ((676 ≤ v1 →
      (vm_C 212 [vm_r 96] m (vm_qv (fun m1 =>
        ((¬ ((vm_st m1 96 1 0) 96 31) = 0 →
          ku11_load_63 0 (vm_st m1 96 1 0) Q) ∧ (¬ ¬ ((vm_st m1 96 1 0) 96 31) = 0 →
          Q (-1) (vm_st m1 96 1 0))))))) ∧ (¬ 676 ≤ v1 →
      ((0 ≤ v1 ∧ v1 < 676) ∧ (vm_32 (v1 + 1))) ∧
      ku11_load_23 (v1 + 1) (vm_st m 114 v1 0) Q))) : ku11_load_23 v1 m Q := by
  show vm_G 216 23 [some (vm_r 96), some (vm_i v1)] [] m (vm_qi Q)
  refine vm_gp [(.iload 1, 0, 0, []), (.iconst 676, 0, 0, [])] (pc1 := 27) (ls1 := [some (vm_r 96), some (vm_i v1)]) (st1 := [vm_i 676, vm_i v1]) (m1 := m) (ob := true) (by decide +kernel) rfl rfl ?_
  refine vm_gj (c := 676 ≤ v1) (t := 43) (e := 30) (i := (.if_icmp .ge 0, 43, 0, [])) (len := 3) (st1 := []) (by decide +kernel) rfl rfl (fun c1 => ?_) (fun c1 => ?_)
  · replace h := h.1 c1
    refine vm_gp [(.aload 0, 0, 0, [])] (pc1 := 44) (ls1 := [some (vm_r 96), some (vm_i v1)]) (st1 := [vm_r 96]) (m1 := m) (ob := true) (by decide +kernel) rfl rfl ?_
    refine vm_gc (g := 212) (na := 1) (av := [vm_r 96]) (rest := []) (i := (.invokevirtual 0, 212, 1, [])) (len := 3) (by decide +kernel) rfl rfl rfl (by decide +kernel) (by decide +kernel) rfl rfl (vm_u (vm_okh_v (c := 11) (by decide +kernel) (by decide +kernel)) (show vm_okn 212 1 0 0 0 1 = true by decide +kernel)) ?_
    refine vm_G.mono h ?_
    rintro _ m1 ⟨rfl, h⟩
    show vm_G 216 47 [some (vm_r 96), some (vm_i v1)] [] m1 _
    refine vm_gp [(.aload 0, 0, 0, []), (.iconst 0, 0, 0, []), (.putfield 0, 11, 1, []), (.aload 0, 0, 0, []), (.getfield 0, 11, 31, [])] (pc1 := 56) (ls1 := [some (vm_r 96), some (vm_i v1)]) (st1 := [vm_i ((vm_st m1 96 1 0) 96 31)]) (m1 := (vm_st m1 96 1 0)) (ob := ((true && vm_is 96 11) && vm_is 96 11)) (by decide +kernel) rfl (vm_u (vm_u rfl (by decide +kernel)) (by decide +kernel)) ?_
    refine vm_gj (c := ¬ ((vm_st m1 96 1 0) 96 31) = 0) (t := 61) (e := 59) (i := (.ifCond .ne 0, 61, 0, [])) (len := 3) (st1 := []) (by decide +kernel) rfl rfl (fun c2 => ?_) (fun c2 => ?_)
    · replace h := h.1 c2
      refine vm_gp [(.iconst 0, 0, 0, []), (.istore 1, 0, 0, [])] (pc1 := 63) (ls1 := [some (vm_r 96), some (vm_i 0)]) (st1 := []) (m1 := (vm_st m1 96 1 0)) (ob := true) (by decide +kernel) rfl rfl ?_
      exact h
    · replace h := h.2 c2
      refine vm_gp [(.iconst (-1), 0, 0, [])] (pc1 := 60) (ls1 := [some (vm_r 96), some (vm_i v1)]) (st1 := [vm_i (-1)]) (m1 := (vm_st m1 96 1 0)) (ob := true) (by decide +kernel) rfl rfl ?_
      exact vm_gr (r := some (vm_i (-1))) (i := (.ireturn, 1, 0, [])) (len := 1) (by decide +kernel) rfl rfl rfl ⟨_, rfl, h⟩
  · replace h := h.2 c1
    obtain ⟨⟨o6_0, o6_1⟩, h⟩ := h
    refine vm_gp [(.aload 0, 0, 0, []), (.getfield 2, 11, 37, [(114, 0)]), (.iload 1, 0, 0, []), (.iconst 0, 0, 0, []), (.iastore, 676, 0, []), (.iinc 1 1, 0, 0, []), (.goto 0, 23, 0, [])] (pc1 := 23) (ls1 := [some (vm_r 96), some (vm_i (v1 + 1))]) (st1 := []) (m1 := (vm_st m 114 v1 0)) (ob := (((((true && vm_is 96 11) && true) && vm_ar 114 100 676) && decide (0 ≤ v1 ∧ v1 < 676)) && decide (vm_32 (v1 + 1)))) (by decide +kernel) rfl (vm_t (vm_t (vm_u (vm_u (vm_u rfl (by decide +kernel)) rfl) (by decide +kernel)) o6_0) o6_1) ?_
    exact h
set_option maxRecDepth 20000 in
theorem ru11_load_63 {v1 : Int} {m : vm_M} {Q : Int → vm_M → Prop}  (h :
    ((1075 ≤ v1 →
      ku11_load_101 0 (vm_st (vm_st m 96 3 (m 96 32)) 96 4 ((vm_st m 96 3 (m 96 32)) 96 33)) Q) ∧ (¬ 1075 ≤ v1 →
      ((0 ≤ v1 ∧ v1 < 1075) ∧ (vm_32 (v1 + 1))) ∧
      ku11_load_63 (v1 + 1) (vm_st m 100 v1 0) Q))) : ku11_load_63 v1 m Q := by
  show vm_G 216 63 [some (vm_r 96), some (vm_i v1)] [] m (vm_qi Q)
  refine vm_gp [(.iload 1, 0, 0, []), (.iconst 1075, 0, 0, [])] (pc1 := 67) (ls1 := [some (vm_r 96), some (vm_i v1)]) (st1 := [vm_i 1075, vm_i v1]) (m1 := m) (ob := true) (by decide +kernel) rfl rfl ?_
  refine vm_gj (c := 1075 ≤ v1) (t := 83) (e := 70) (i := (.if_icmp .ge 0, 83, 0, [])) (len := 3) (st1 := []) (by decide +kernel) rfl rfl (fun c1 => ?_) (fun c1 => ?_)
  · replace h := h.1 c1
    refine vm_gp [(.aload 0, 0, 0, []), (.aload 0, 0, 0, []), (.getfield 0, 11, 32, []), (.putfield 0, 11, 3, []), (.aload 0, 0, 0, []), (.aload 0, 0, 0, []), (.getfield 0, 11, 33, []), (.putfield 0, 11, 4, []), (.iconst 0, 0, 0, []), (.istore 1, 0, 0, [])] (pc1 := 101) (ls1 := [some (vm_r 96), some (vm_i 0)]) (st1 := []) (m1 := (vm_st (vm_st m 96 3 (m 96 32)) 96 4 ((vm_st m 96 3 (m 96 32)) 96 33))) (ob := ((((true && vm_is 96 11) && vm_is 96 11) && vm_is 96 11) && vm_is 96 11)) (by decide +kernel) rfl (vm_u (vm_u (vm_u (vm_u rfl (by decide +kernel)) (by decide +kernel)) (by decide +kernel)) (by decide +kernel)) ?_
    exact h
  · replace h := h.2 c1
    obtain ⟨⟨o3_0, o3_1⟩, h⟩ := h
    refine vm_gp [(.aload 0, 0, 0, []), (.getfield 2, 11, 7, [(100, 0)]), (.iload 1, 0, 0, []), (.iconst 0, 0, 0, []), (.iastore, 1075, 0, []), (.iinc 1 1, 0, 0, []), (.goto 0, 63, 0, [])] (pc1 := 63) (ls1 := [some (vm_r 96), some (vm_i (v1 + 1))]) (st1 := []) (m1 := (vm_st m 100 v1 0)) (ob := (((((true && vm_is 96 11) && true) && vm_ar 100 100 1075) && decide (0 ≤ v1 ∧ v1 < 1075)) && decide (vm_32 (v1 + 1)))) (by decide +kernel) rfl (vm_t (vm_t (vm_u (vm_u (vm_u rfl (by decide +kernel)) rfl) (by decide +kernel)) o3_0) o3_1) ?_
    exact h
set_option maxRecDepth 20000 in
theorem ru11_load_101 {v1 : Int} {m : vm_M} {Q : Int → vm_M → Prop}  (h :
    ((6 ≤ v1 →
      ku11_load_127 0 m Q) ∧ (¬ 6 ≤ v1 →
      ((0 ≤ v1 ∧ v1 < 6) ∧ (0 ≤ v1 ∧ v1 < 1075) ∧ (vm_32 (v1 + 1))) ∧
      ku11_load_101 (v1 + 1) (vm_st m 100 v1 (m 111 v1)) Q))) : ku11_load_101 v1 m Q := by
  show vm_G 216 101 [some (vm_r 96), some (vm_i v1)] [] m (vm_qi Q)
  refine vm_gp [(.iload 1, 0, 0, []), (.iconst 6, 0, 0, [])] (pc1 := 104) (ls1 := [some (vm_r 96), some (vm_i v1)]) (st1 := [vm_i 6, vm_i v1]) (m1 := m) (ob := true) (by decide +kernel) rfl rfl ?_
  refine vm_gj (c := 6 ≤ v1) (t := 125) (e := 107) (i := (.if_icmp .ge 0, 125, 0, [])) (len := 3) (st1 := []) (by decide +kernel) rfl rfl (fun c1 => ?_) (fun c1 => ?_)
  · replace h := h.1 c1
    refine vm_gp [(.iconst 0, 0, 0, []), (.istore 1, 0, 0, [])] (pc1 := 127) (ls1 := [some (vm_r 96), some (vm_i 0)]) (st1 := []) (m1 := m) (ob := true) (by decide +kernel) rfl rfl ?_
    exact h
  · replace h := h.2 c1
    obtain ⟨⟨o3_0, o3_1, o3_2⟩, h⟩ := h
    refine vm_gp [(.aload 0, 0, 0, []), (.getfield 2, 11, 7, [(100, 0)]), (.iload 1, 0, 0, []), (.aload 0, 0, 0, []), (.getfield 2, 11, 34, [(111, 0)]), (.iload 1, 0, 0, []), (.iaload, 6, 0, []), (.iastore, 1075, 0, []), (.iinc 1 1, 0, 0, []), (.goto 0, 101, 0, [])] (pc1 := 101) (ls1 := [some (vm_r 96), some (vm_i (v1 + 1))]) (st1 := []) (m1 := (vm_st m 100 v1 (m 111 v1))) (ob := (((((((((true && vm_is 96 11) && true) && vm_is 96 11) && true) && vm_ar 111 100 6) && decide (0 ≤ v1 ∧ v1 < 6)) && vm_ar 100 100 1075) && decide (0 ≤ v1 ∧ v1 < 1075)) && decide (vm_32 (v1 + 1)))) (by decide +kernel) rfl (vm_t (vm_t (vm_u (vm_t (vm_u (vm_u (vm_u (vm_u (vm_u rfl (by decide +kernel)) rfl) (by decide +kernel)) rfl) (by decide +kernel)) o3_0) (by decide +kernel)) o3_1) o3_2) ?_
    exact h
set_option maxRecDepth 20000 in
theorem ru11_load_127 {v1 : Int} {m : vm_M} {Q : Int → vm_M → Prop}  (h :
    ((26 ≤ v1 →
      ku11_load_153 0 m Q) ∧ (¬ 26 ≤ v1 →
      ((0 ≤ v1 ∧ v1 < 26) ∧ (0 ≤ v1 ∧ v1 < 26) ∧ (vm_32 (v1 + 1))) ∧
      ku11_load_127 (v1 + 1) (vm_st m 98 v1 (m 112 v1)) Q))) : ku11_load_127 v1 m Q := by
  show vm_G 216 127 [some (vm_r 96), some (vm_i v1)] [] m (vm_qi Q)
  refine vm_gp [(.iload 1, 0, 0, []), (.iconst 26, 0, 0, [])] (pc1 := 130) (ls1 := [some (vm_r 96), some (vm_i v1)]) (st1 := [vm_i 26, vm_i v1]) (m1 := m) (ob := true) (by decide +kernel) rfl rfl ?_
  refine vm_gj (c := 26 ≤ v1) (t := 151) (e := 133) (i := (.if_icmp .ge 0, 151, 0, [])) (len := 3) (st1 := []) (by decide +kernel) rfl rfl (fun c1 => ?_) (fun c1 => ?_)
  · replace h := h.1 c1
    refine vm_gp [(.iconst 0, 0, 0, []), (.istore 1, 0, 0, [])] (pc1 := 153) (ls1 := [some (vm_r 96), some (vm_i 0)]) (st1 := []) (m1 := m) (ob := true) (by decide +kernel) rfl rfl ?_
    exact h
  · replace h := h.2 c1
    obtain ⟨⟨o3_0, o3_1, o3_2⟩, h⟩ := h
    refine vm_gp [(.aload 0, 0, 0, []), (.getfield 2, 11, 5, [(98, 0)]), (.iload 1, 0, 0, []), (.aload 0, 0, 0, []), (.getfield 2, 11, 35, [(112, 0)]), (.iload 1, 0, 0, []), (.iaload, 26, 0, []), (.iastore, 26, 0, []), (.iinc 1 1, 0, 0, []), (.goto 0, 127, 0, [])] (pc1 := 127) (ls1 := [some (vm_r 96), some (vm_i (v1 + 1))]) (st1 := []) (m1 := (vm_st m 98 v1 (m 112 v1))) (ob := (((((((((true && vm_is 96 11) && true) && vm_is 96 11) && true) && vm_ar 112 100 26) && decide (0 ≤ v1 ∧ v1 < 26)) && vm_ar 98 100 26) && decide (0 ≤ v1 ∧ v1 < 26)) && decide (vm_32 (v1 + 1)))) (by decide +kernel) rfl (vm_t (vm_t (vm_u (vm_t (vm_u (vm_u (vm_u (vm_u (vm_u rfl (by decide +kernel)) rfl) (by decide +kernel)) rfl) (by decide +kernel)) o3_0) (by decide +kernel)) o3_1) o3_2) ?_
    exact h
set_option maxRecDepth 20000 in
theorem ru11_load_153 {v1 : Int} {m : vm_M} {Q : Int → vm_M → Prop}  (h :
    ((312 ≤ v1 →
      ku11_load_180 0 m Q) ∧ (¬ 312 ≤ v1 →
      ((0 ≤ v1 ∧ v1 < 312) ∧ (0 ≤ v1 ∧ v1 < 312) ∧ (vm_32 (v1 + 1))) ∧
      ku11_load_153 (v1 + 1) (vm_st m 99 v1 (m 113 v1)) Q))) : ku11_load_153 v1 m Q := by
  show vm_G 216 153 [some (vm_r 96), some (vm_i v1)] [] m (vm_qi Q)
  refine vm_gp [(.iload 1, 0, 0, []), (.iconst 312, 0, 0, [])] (pc1 := 157) (ls1 := [some (vm_r 96), some (vm_i v1)]) (st1 := [vm_i 312, vm_i v1]) (m1 := m) (ob := true) (by decide +kernel) rfl rfl ?_
  refine vm_gj (c := 312 ≤ v1) (t := 178) (e := 160) (i := (.if_icmp .ge 0, 178, 0, [])) (len := 3) (st1 := []) (by decide +kernel) rfl rfl (fun c1 => ?_) (fun c1 => ?_)
  · replace h := h.1 c1
    refine vm_gp [(.iconst 0, 0, 0, []), (.istore 1, 0, 0, [])] (pc1 := 180) (ls1 := [some (vm_r 96), some (vm_i 0)]) (st1 := []) (m1 := m) (ob := true) (by decide +kernel) rfl rfl ?_
    exact h
  · replace h := h.2 c1
    obtain ⟨⟨o3_0, o3_1, o3_2⟩, h⟩ := h
    refine vm_gp [(.aload 0, 0, 0, []), (.getfield 2, 11, 6, [(99, 0)]), (.iload 1, 0, 0, []), (.aload 0, 0, 0, []), (.getfield 2, 11, 36, [(113, 0)]), (.iload 1, 0, 0, []), (.iaload, 312, 0, []), (.iastore, 312, 0, []), (.iinc 1 1, 0, 0, []), (.goto 0, 153, 0, [])] (pc1 := 153) (ls1 := [some (vm_r 96), some (vm_i (v1 + 1))]) (st1 := []) (m1 := (vm_st m 99 v1 (m 113 v1))) (ob := (((((((((true && vm_is 96 11) && true) && vm_is 96 11) && true) && vm_ar 113 100 312) && decide (0 ≤ v1 ∧ v1 < 312)) && vm_ar 99 100 312) && decide (0 ≤ v1 ∧ v1 < 312)) && decide (vm_32 (v1 + 1)))) (by decide +kernel) rfl (vm_t (vm_t (vm_u (vm_t (vm_u (vm_u (vm_u (vm_u (vm_u rfl (by decide +kernel)) rfl) (by decide +kernel)) rfl) (by decide +kernel)) o3_0) (by decide +kernel)) o3_1) o3_2) ?_
    exact h
set_option maxRecDepth 20000 in
theorem ru11_load_180 {v1 : Int} {m : vm_M} {Q : Int → vm_M → Prop}  (h :
    ((676 ≤ v1 →
      (vm_C 233 [vm_r 96] (vm_st (vm_st (vm_st m 103 0 0) 103 1 0) 96 11 0) (vm_qi (fun z1 m1 =>
        Q z1 m1)))) ∧ (¬ 676 ≤ v1 →
      ((vm_32 (9 + v1)) ∧ (0 ≤ v1 ∧ v1 < 676) ∧ (0 ≤ (9 + v1) ∧ (9 + v1) < 1075) ∧ (vm_32 (v1 + 1))) ∧
      ku11_load_180 (v1 + 1) (vm_st m 100 (9 + v1) (m 114 v1)) Q))) : ku11_load_180 v1 m Q := by
  show vm_G 216 180 [some (vm_r 96), some (vm_i v1)] [] m (vm_qi Q)
  refine vm_gp [(.iload 1, 0, 0, []), (.iconst 676, 0, 0, [])] (pc1 := 184) (ls1 := [some (vm_r 96), some (vm_i v1)]) (st1 := [vm_i 676, vm_i v1]) (m1 := m) (ob := true) (by decide +kernel) rfl rfl ?_
  refine vm_gj (c := 676 ≤ v1) (t := 208) (e := 187) (i := (.if_icmp .ge 0, 208, 0, [])) (len := 3) (st1 := []) (by decide +kernel) rfl rfl (fun c1 => ?_) (fun c1 => ?_)
  · replace h := h.1 c1
    refine vm_gp [(.aload 0, 0, 0, []), (.getfield 2, 11, 10, [(103, 0)]), (.iconst 0, 0, 0, []), (.iconst 0, 0, 0, []), (.bastore, 2, 102, []), (.aload 0, 0, 0, []), (.getfield 2, 11, 10, [(103, 0)]), (.iconst 1, 0, 0, []), (.iconst 0, 0, 0, []), (.bastore, 2, 102, []), (.aload 0, 0, 0, []), (.iconst 0, 0, 0, []), (.putfield 0, 11, 11, []), (.aload 0, 0, 0, [])] (pc1 := 228) (ls1 := [some (vm_r 96), some (vm_i v1)]) (st1 := [vm_r 96]) (m1 := (vm_st (vm_st (vm_st m 103 0 0) 103 1 0) 96 11 0)) (ob := (((((((((((true && vm_is 96 11) && true) && vm_ar 103 102 2) && decide ((0 : Int) ≤ 0 ∧ (0 : Int) < 2)) && decide ((0 : Int) = 0 ∨ (0 : Int) = 1)) && vm_is 96 11) && true) && vm_ar 103 102 2) && decide ((0 : Int) ≤ 1 ∧ (1 : Int) < 2)) && decide ((0 : Int) = 0 ∨ (0 : Int) = 1)) && vm_is 96 11)) (by decide +kernel) rfl (vm_u (vm_t (vm_t (vm_u (vm_u (vm_u (vm_t (vm_t (vm_u (vm_u (vm_u rfl (by decide +kernel)) rfl) (by decide +kernel)) (by decide)) (by decide)) (by decide +kernel)) rfl) (by decide +kernel)) (by decide)) (by decide)) (by decide +kernel)) ?_
    refine vm_gc (g := 233) (na := 1) (av := [vm_r 96]) (rest := []) (i := (.invokevirtual 0, 233, 1, [])) (len := 3) (by decide +kernel) rfl rfl rfl (by decide +kernel) (by decide +kernel) rfl rfl (vm_u (vm_okh_v (c := 11) (by decide +kernel) (by decide +kernel)) (show vm_okn 233 1 0 0 0 1 = true by decide +kernel)) ?_
    refine vm_G.mono h ?_
    rintro _ m1 ⟨z1, rfl, h⟩
    show vm_G 216 231 [some (vm_r 96), some (vm_i v1)] [vm_i z1] m1 _
    exact vm_gr (r := some (vm_i z1)) (i := (.ireturn, 1, 0, [])) (len := 1) (by decide +kernel) rfl rfl rfl ⟨_, rfl, h⟩
  · replace h := h.2 c1
    obtain ⟨⟨o4_0, o4_1, o4_2, o4_3⟩, h⟩ := h
    refine vm_gp [(.aload 0, 0, 0, []), (.getfield 2, 11, 7, [(100, 0)]), (.iconst 9, 0, 0, []), (.iload 1, 0, 0, []), (.iadd, 0, 0, []), (.aload 0, 0, 0, []), (.getfield 2, 11, 37, [(114, 0)]), (.iload 1, 0, 0, []), (.iaload, 676, 0, []), (.iastore, 1075, 0, []), (.iinc 1 1, 0, 0, []), (.goto 0, 180, 0, [])] (pc1 := 180) (ls1 := [some (vm_r 96), some (vm_i (v1 + 1))]) (st1 := []) (m1 := (vm_st m 100 (9 + v1) (m 114 v1))) (ob := ((((((((((true && vm_is 96 11) && true) && decide (vm_32 (9 + v1))) && vm_is 96 11) && true) && vm_ar 114 100 676) && decide (0 ≤ v1 ∧ v1 < 676)) && vm_ar 100 100 1075) && decide (0 ≤ (9 + v1) ∧ (9 + v1) < 1075)) && decide (vm_32 (v1 + 1)))) (by decide +kernel) rfl (vm_t (vm_t (vm_u (vm_t (vm_u (vm_u (vm_u (vm_t (vm_u (vm_u rfl (by decide +kernel)) rfl) o4_0) (by decide +kernel)) rfl) (by decide +kernel)) o4_1) (by decide +kernel)) o4_2) o4_3) ?_
    exact h
abbrev ku11_errorPosition_0  (m : vm_M) (Q : Int → vm_M → Prop) : Prop := vm_G 217 0 [some (vm_r 96)] [] m (vm_qi Q)
set_option maxRecDepth 20000 in
theorem ru11_errorPosition_0  {m : vm_M} {Q : Int → vm_M → Prop}  (h :
    Q (m 96 2) m) : vm_C 217 [vm_r 96] m (vm_qi Q) := by
  show vm_G 217 0 [some (vm_r 96)] [] m (vm_qi Q)
  refine vm_gp [(.aload 0, 0, 0, []), (.getfield 0, 11, 2, [])] (pc1 := 4) (ls1 := [some (vm_r 96)]) (st1 := [vm_i (m 96 2)]) (m1 := m) (ob := (true && vm_is 96 11)) (by decide +kernel) rfl (vm_u rfl (by decide +kernel)) ?_
  exact vm_gr (r := some (vm_i (m 96 2))) (i := (.ireturn, 1, 0, [])) (len := 1) (by decide +kernel) rfl rfl rfl ⟨_, rfl, h⟩
abbrev ku11_readSpoken_0  (m : vm_M) (Q : Int → vm_M → Prop) : Prop := vm_G 218 0 [some (vm_r 96), none] [] m (vm_qi Q)
abbrev ku11_readSpoken_13 (v1 : Int) (m : vm_M) (Q : Int → vm_M → Prop) : Prop := vm_G 218 13 [some (vm_r 96), some (vm_i v1)] [] m (vm_qi Q)
set_option maxRecDepth 20000 in
theorem ru11_readSpoken_0  {m : vm_M} {Q : Int → vm_M → Prop}  (h :
    ((¬ (m 96 40) = 30 →
      ku11_readSpoken_13 0 m Q) ∧ (¬ ¬ (m 96 40) = 30 →
      Q 0 m))) : vm_C 218 [vm_r 96] m (vm_qi Q) := by
  show vm_G 218 0 [some (vm_r 96), none] [] m (vm_qi Q)
  refine vm_gp [(.aload 0, 0, 0, []), (.getfield 0, 11, 40, []), (.iconst 30, 0, 0, [])] (pc1 := 6) (ls1 := [some (vm_r 96), none]) (st1 := [vm_i 30, vm_i (m 96 40)]) (m1 := m) (ob := (true && vm_is 96 11)) (by decide +kernel) rfl (vm_u rfl (by decide +kernel)) ?_
  refine vm_gj (c := ¬ (m 96 40) = 30) (t := 11) (e := 9) (i := (.if_icmp .ne 0, 11, 0, [])) (len := 3) (st1 := []) (by decide +kernel) rfl rfl (fun c1 => ?_) (fun c1 => ?_)
  · replace h := h.1 c1
    refine vm_gp [(.iconst 0, 0, 0, []), (.istore 1, 0, 0, [])] (pc1 := 13) (ls1 := [some (vm_r 96), some (vm_i 0)]) (st1 := []) (m1 := m) (ob := true) (by decide +kernel) rfl rfl ?_
    exact h
  · replace h := h.2 c1
    refine vm_gp [(.iconst 0, 0, 0, [])] (pc1 := 10) (ls1 := [some (vm_r 96), none]) (st1 := [vm_i 0]) (m1 := m) (ob := true) (by decide +kernel) rfl rfl ?_
    exact vm_gr (r := some (vm_i 0)) (i := (.ireturn, 2, 0, [])) (len := 1) (by decide +kernel) rfl rfl (by decide) ⟨_, rfl, h⟩
set_option maxRecDepth 20000 in
theorem ru11_readSpoken_13 {v1 : Int} {m : vm_M} {Q : Int → vm_M → Prop}  (h :
    (((m 96 1) ≤ (m 96 26) →
      ((0 ≤ (m 96 40) ∧ (m 96 40) < 30) ∧ (vm_32 (((vm_st m 115 (m 96 40) v1) 96 40) + 1))) ∧
      Q 1 (vm_st (vm_st m 115 (m 96 40) v1) 96 40 (((vm_st m 115 (m 96 40) v1) 96 40) + 1))) ∧ (¬ (m 96 1) ≤ (m 96 26) →
      (vm_C 201 [vm_r 96] m (vm_qi (fun z1 m1 =>
        ((¬ z1 = 0 →
          ((0 ≤ (m1 96 40) ∧ (m1 96 40) < 30) ∧ (vm_32 (((vm_st m1 115 (m1 96 40) v1) 96 40) + 1))) ∧
          Q 1 (vm_st (vm_st m1 115 (m1 96 40) v1) 96 40 (((vm_st m1 115 (m1 96 40) v1) 96 40) + 1))) ∧ (¬ ¬ z1 = 0 →
          (vm_C 197 [vm_r 96, vm_i 97, vm_i 122] m1 (vm_qi (fun z2 m2 =>
            ((z2 = 0 →
              Q 0 m2) ∧ (¬ z2 = 0 →
              ((0 ≤ (m2 96 26) ∧ (m2 96 26) < 2000) ∧ (vm_32 ((m2 97 (m2 96 26)) - 97))) ∧
              (vm_C 165 [vm_r 96, vm_i ((m2 97 (m2 96 26)) - 97)] m2 (vm_qi (fun z3 m3 =>
                ((z3 = 0 →
                  Q 0 m3) ∧ (¬ z3 = 0 →
                  ((¬ v1 = 12 →
                    ((vm_32 (12 * (m3 96 40))) ∧ (vm_32 ((12 * (m3 96 40)) + v1)) ∧ (0 ≤ (m3 96 26) ∧ (m3 96 26) < 2000) ∧ (vm_32 ((m3 97 (m3 96 26)) - 97)) ∧ (0 ≤ ((12 * (m3 96 40)) + v1) ∧ ((12 * (m3 96 40)) + v1) < 360) ∧ (vm_32 (v1 + 1)) ∧ (vm_32 (((vm_st m3 116 ((12 * (m3 96 40)) + v1) ((m3 97 (m3 96 26)) - 97)) 96 26) + 1))) ∧
                    ku11_readSpoken_13 (v1 + 1) (vm_st (vm_st m3 116 ((12 * (m3 96 40)) + v1) ((m3 97 (m3 96 26)) - 97)) 96 26 (((vm_st m3 116 ((12 * (m3 96 40)) + v1) ((m3 97 (m3 96 26)) - 97)) 96 26) + 1)) Q) ∧ (¬ ¬ v1 = 12 →
                    Q 0 m3)))))))))))))))))))) : ku11_readSpoken_13 v1 m Q := by
  show vm_G 218 13 [some (vm_r 96), some (vm_i v1)] [] m (vm_qi Q)
  refine vm_gp [(.aload 0, 0, 0, []), (.getfield 0, 11, 26, []), (.aload 0, 0, 0, []), (.getfield 0, 11, 1, [])] (pc1 := 21) (ls1 := [some (vm_r 96), some (vm_i v1)]) (st1 := [vm_i (m 96 1), vm_i (m 96 26)]) (m1 := m) (ob := ((true && vm_is 96 11) && vm_is 96 11)) (by decide +kernel) rfl (vm_u (vm_u rfl (by decide +kernel)) (by decide +kernel)) ?_
  refine vm_gj (c := (m 96 1) ≤ (m 96 26)) (t := 111) (e := 24) (i := (.if_icmp .ge 0, 111, 0, [])) (len := 3) (st1 := []) (by decide +kernel) rfl rfl (fun c1 => ?_) (fun c1 => ?_)
  · replace h := h.1 c1
    obtain ⟨⟨o2_0, o2_1⟩, h⟩ := h
    refine vm_gp [(.aload 0, 0, 0, []), (.getfield 2, 11, 38, [(115, 0)]), (.aload 0, 0, 0, []), (.getfield 0, 11, 40, []), (.iload 1, 0, 0, []), (.iastore, 30, 0, []), (.aload 0, 0, 0, []), (.dup, 0, 0, []), (.getfield 0, 11, 40, []), (.iconst 1, 0, 0, []), (.iadd, 0, 0, []), (.putfield 0, 11, 40, []), (.iconst 1, 0, 0, [])] (pc1 := 132) (ls1 := [some (vm_r 96), some (vm_i v1)]) (st1 := [vm_i 1]) (m1 := (vm_st (vm_st m 115 (m 96 40) v1) 96 40 (((vm_st m 115 (m 96 40) v1) 96 40) + 1))) (ob := ((((((((true && vm_is 96 11) && true) && vm_is 96 11) && vm_ar 115 100 30) && decide (0 ≤ (m 96 40) ∧ (m 96 40) < 30)) && vm_is 96 11) && decide (vm_32 (((vm_st m 115 (m 96 40) v1) 96 40) + 1))) && vm_is 96 11)) (by decide +kernel) rfl (vm_u (vm_t (vm_u (vm_t (vm_u (vm_u (vm_u (vm_u rfl (by decide +kernel)) rfl) (by decide +kernel)) (by decide +kernel)) o2_0) (by decide +kernel)) o2_1) (by decide +kernel)) ?_
    exact vm_gr (r := some (vm_i 1)) (i := (.ireturn, 2, 0, [])) (len := 1) (by decide +kernel) rfl rfl (by decide) ⟨_, rfl, h⟩
  · replace h := h.2 c1
    refine vm_gp [(.aload 0, 0, 0, [])] (pc1 := 25) (ls1 := [some (vm_r 96), some (vm_i v1)]) (st1 := [vm_r 96]) (m1 := m) (ob := true) (by decide +kernel) rfl rfl ?_
    refine vm_gc (g := 201) (na := 1) (av := [vm_r 96]) (rest := []) (i := (.invokevirtual 0, 201, 1, [])) (len := 3) (by decide +kernel) rfl rfl rfl (by decide +kernel) (by decide +kernel) rfl rfl (vm_u (vm_okh_v (c := 11) (by decide +kernel) (by decide +kernel)) (show vm_okn 201 1 0 0 0 1 = true by decide +kernel)) ?_
    refine vm_G.mono h ?_
    rintro _ m1 ⟨z1, rfl, h⟩
    show vm_G 218 28 [some (vm_r 96), some (vm_i v1)] [vm_i z1] m1 _
    refine vm_gj (c := ¬ z1 = 0) (t := 111) (e := 31) (i := (.ifCond .ne 0, 111, 0, [])) (len := 3) (st1 := []) (by decide +kernel) rfl rfl (fun c2 => ?_) (fun c2 => ?_)
    · replace h := h.1 c2
      obtain ⟨⟨o5_0, o5_1⟩, h⟩ := h
      refine vm_gp [(.aload 0, 0, 0, []), (.getfield 2, 11, 38, [(115, 0)]), (.aload 0, 0, 0, []), (.getfield 0, 11, 40, []), (.iload 1, 0, 0, []), (.iastore, 30, 0, []), (.aload 0, 0, 0, []), (.dup, 0, 0, []), (.getfield 0, 11, 40, []), (.iconst 1, 0, 0, []), (.iadd, 0, 0, []), (.putfield 0, 11, 40, []), (.iconst 1, 0, 0, [])] (pc1 := 132) (ls1 := [some (vm_r 96), some (vm_i v1)]) (st1 := [vm_i 1]) (m1 := (vm_st (vm_st m1 115 (m1 96 40) v1) 96 40 (((vm_st m1 115 (m1 96 40) v1) 96 40) + 1))) (ob := ((((((((true && vm_is 96 11) && true) && vm_is 96 11) && vm_ar 115 100 30) && decide (0 ≤ (m1 96 40) ∧ (m1 96 40) < 30)) && vm_is 96 11) && decide (vm_32 (((vm_st m1 115 (m1 96 40) v1) 96 40) + 1))) && vm_is 96 11)) (by decide +kernel) rfl (vm_u (vm_t (vm_u (vm_t (vm_u (vm_u (vm_u (vm_u rfl (by decide +kernel)) rfl) (by decide +kernel)) (by decide +kernel)) o5_0) (by decide +kernel)) o5_1) (by decide +kernel)) ?_
      exact vm_gr (r := some (vm_i 1)) (i := (.ireturn, 2, 0, [])) (len := 1) (by decide +kernel) rfl rfl (by decide) ⟨_, rfl, h⟩
    · replace h := h.2 c2
      refine vm_gp [(.aload 0, 0, 0, []), (.iconst 97, 0, 0, []), (.iconst 122, 0, 0, [])] (pc1 := 36) (ls1 := [some (vm_r 96), some (vm_i v1)]) (st1 := [vm_i 122, vm_i 97, vm_r 96]) (m1 := m1) (ob := true) (by decide +kernel) rfl rfl ?_
      refine vm_gc (g := 197) (na := 3) (av := [vm_r 96, vm_i 97, vm_i 122]) (rest := []) (i := (.invokevirtual 0, 197, 3, [])) (len := 3) (by decide +kernel) rfl rfl rfl (by decide +kernel) (by decide +kernel) rfl rfl (vm_u (vm_okh_v (c := 11) (by decide +kernel) (by decide +kernel)) (show vm_okn 197 3 0 0 0 3 = true by decide +kernel)) ?_
      refine vm_G.mono h ?_
      rintro _ m2 ⟨z2, rfl, h⟩
      show vm_G 218 39 [some (vm_r 96), some (vm_i v1)] [vm_i z2] m2 _
      refine vm_gj (c := z2 = 0) (t := 67) (e := 42) (i := (.ifCond .eq 0, 67, 0, [])) (len := 3) (st1 := []) (by decide +kernel) rfl rfl (fun c3 => ?_) (fun c3 => ?_)
      · replace h := h.1 c3
        refine vm_gp [(.iconst 0, 0, 0, [])] (pc1 := 68) (ls1 := [some (vm_r 96), some (vm_i v1)]) (st1 := [vm_i 0]) (m1 := m2) (ob := true) (by decide +kernel) rfl rfl ?_
        exact vm_gr (r := some (vm_i 0)) (i := (.ireturn, 2, 0, [])) (len := 1) (by decide +kernel) rfl rfl (by decide) ⟨_, rfl, h⟩
      · replace h := h.2 c3
        obtain ⟨⟨o9_0, o9_1⟩, h⟩ := h
        refine vm_gp [(.aload 0, 0, 0, []), (.aload 0, 0, 0, []), (.getfield 2, 11, 0, [(97, 0)]), (.aload 0, 0, 0, []), (.getfield 0, 11, 26, []), (.baload, 2000, 101, []), (.iconst 97, 0, 0, []), (.isub, 0, 0, [])] (pc1 := 55) (ls1 := [some (vm_r 96), some (vm_i v1)]) (st1 := [vm_i ((m2 97 (m2 96 26)) - 97), vm_r 96]) (m1 := m2) (ob := ((((((true && vm_is 96 11) && true) && vm_is 96 11) && vm_ar 97 101 2000) && decide (0 ≤ (m2 96 26) ∧ (m2 96 26) < 2000)) && decide (vm_32 ((m2 97 (m2 96 26)) - 97)))) (by decide +kernel) rfl (vm_t (vm_t (vm_u (vm_u (vm_u (vm_u rfl (by decide +kernel)) rfl) (by decide +kernel)) (by decide +kernel)) o9_0) o9_1) ?_
        refine vm_gc (g := 165) (na := 2) (av := [vm_r 96, vm_i ((m2 97 (m2 96 26)) - 97)]) (rest := []) (i := (.invokevirtual 0, 165, 2, [])) (len := 3) (by decide +kernel) rfl rfl rfl (by decide +kernel) (by decide +kernel) rfl rfl (vm_u (vm_okh_v (c := 11) (by decide +kernel) (by decide +kernel)) (show vm_okn 165 2 0 0 0 2 = true by decide +kernel)) ?_
        refine vm_G.mono h ?_
        rintro _ m3 ⟨z3, rfl, h⟩
        show vm_G 218 58 [some (vm_r 96), some (vm_i v1)] [vm_i z3] m3 _
        refine vm_gj (c := z3 = 0) (t := 67) (e := 61) (i := (.ifCond .eq 0, 67, 0, [])) (len := 3) (st1 := []) (by decide +kernel) rfl rfl (fun c4 => ?_) (fun c4 => ?_)
        · replace h := h.1 c4
          refine vm_gp [(.iconst 0, 0, 0, [])] (pc1 := 68) (ls1 := [some (vm_r 96), some (vm_i v1)]) (st1 := [vm_i 0]) (m1 := m3) (ob := true) (by decide +kernel) rfl rfl ?_
          exact vm_gr (r := some (vm_i 0)) (i := (.ireturn, 2, 0, [])) (len := 1) (by decide +kernel) rfl rfl (by decide) ⟨_, rfl, h⟩
        · replace h := h.2 c4
          refine vm_gp [(.iload 1, 0, 0, []), (.iconst 12, 0, 0, [])] (pc1 := 64) (ls1 := [some (vm_r 96), some (vm_i v1)]) (st1 := [vm_i 12, vm_i v1]) (m1 := m3) (ob := true) (by decide +kernel) rfl rfl ?_
          refine vm_gj (c := ¬ v1 = 12) (t := 69) (e := 67) (i := (.if_icmp .ne 0, 69, 0, [])) (len := 3) (st1 := []) (by decide +kernel) rfl rfl (fun c5 => ?_) (fun c5 => ?_)
          · replace h := h.1 c5
            obtain ⟨⟨o13_0, o13_1, o13_2, o13_3, o13_4, o13_5, o13_6⟩, h⟩ := h
            refine vm_gp [(.aload 0, 0, 0, []), (.getfield 2, 11, 39, [(116, 0)]), (.iconst 12, 0, 0, []), (.aload 0, 0, 0, []), (.getfield 0, 11, 40, []), (.imul, 0, 0, []), (.iload 1, 0, 0, []), (.iadd, 0, 0, []), (.aload 0, 0, 0, []), (.getfield 2, 11, 0, [(97, 0)]), (.aload 0, 0, 0, []), (.getfield 0, 11, 26, []), (.baload, 2000, 101, []), (.iconst 97, 0, 0, []), (.isub, 0, 0, []), (.iastore, 360, 0, []), (.iinc 1 1, 0, 0, []), (.aload 0, 0, 0, []), (.dup, 0, 0, []), (.getfield 0, 11, 26, []), (.iconst 1, 0, 0, []), (.iadd, 0, 0, []), (.putfield 0, 11, 26, []), (.goto 0, 13, 0, [])] (pc1 := 13) (ls1 := [some (vm_r 96), some (vm_i (v1 + 1))]) (st1 := []) (m1 := (vm_st (vm_st m3 116 ((12 * (m3 96 40)) + v1) ((m3 97 (m3 96 26)) - 97)) 96 26 (((vm_st m3 116 ((12 * (m3 96 40)) + v1) ((m3 97 (m3 96 26)) - 97)) 96 26) + 1))) (ob := (((((((((((((((((true && vm_is 96 11) && true) && vm_is 96 11) && decide (vm_32 (12 * (m3 96 40)))) && decide (vm_32 ((12 * (m3 96 40)) + v1))) && vm_is 96 11) && true) && vm_is 96 11) && vm_ar 97 101 2000) && decide (0 ≤ (m3 96 26) ∧ (m3 96 26) < 2000)) && decide (vm_32 ((m3 97 (m3 96 26)) - 97))) && vm_ar 116 100 360) && decide (0 ≤ ((12 * (m3 96 40)) + v1) ∧ ((12 * (m3 96 40)) + v1) < 360)) && decide (vm_32 (v1 + 1))) && vm_is 96 11) && decide (vm_32 (((vm_st m3 116 ((12 * (m3 96 40)) + v1) ((m3 97 (m3 96 26)) - 97)) 96 26) + 1))) && vm_is 96 11)) (by decide +kernel) rfl (vm_u (vm_t (vm_u (vm_t (vm_t (vm_u (vm_t (vm_t (vm_u (vm_u (vm_u (vm_u (vm_t (vm_t (vm_u (vm_u (vm_u rfl (by decide +kernel)) rfl) (by decide +kernel)) o13_0) o13_1) (by decide +kernel)) rfl) (by decide +kernel)) (by decide +kernel)) o13_2) o13_3) (by decide +kernel)) o13_4) o13_5) (by decide +kernel)) o13_6) (by decide +kernel)) ?_
            exact h
          · replace h := h.2 c5
            refine vm_gp [(.iconst 0, 0, 0, [])] (pc1 := 68) (ls1 := [some (vm_r 96), some (vm_i v1)]) (st1 := [vm_i 0]) (m1 := m3) (ob := true) (by decide +kernel) rfl rfl ?_
            exact vm_gr (r := some (vm_i 0)) (i := (.ireturn, 2, 0, [])) (len := 1) (by decide +kernel) rfl rfl (by decide) ⟨_, rfl, h⟩
abbrev ku11_readsWords_0  (m : vm_M) (Q : Int → vm_M → Prop) : Prop := vm_G 219 0 [some (vm_r 96)] [] m (vm_qi Q)
abbrev ku11_readsWords_10  (m : vm_M) (Q : Int → vm_M → Prop) : Prop := vm_G 219 10 [some (vm_r 96)] [] m (vm_qi Q)
set_option maxRecDepth 20000 in
theorem ru11_readsWords_0  {m : vm_M} {Q : Int → vm_M → Prop}  (h :
    ku11_readsWords_10 (vm_st (vm_st m 96 26 0) 96 40 0) Q) : vm_C 219 [vm_r 96] m (vm_qi Q) := by
  show vm_G 219 0 [some (vm_r 96)] [] m (vm_qi Q)
  refine vm_gp [(.aload 0, 0, 0, []), (.iconst 0, 0, 0, []), (.putfield 0, 11, 26, []), (.aload 0, 0, 0, []), (.iconst 0, 0, 0, []), (.putfield 0, 11, 40, [])] (pc1 := 10) (ls1 := [some (vm_r 96)]) (st1 := []) (m1 := (vm_st (vm_st m 96 26 0) 96 40 0)) (ob := ((true && vm_is 96 11) && vm_is 96 11)) (by decide +kernel) rfl (vm_u (vm_u rfl (by decide +kernel)) (by decide +kernel)) ?_
  exact h
set_option maxRecDepth 20000 in
theorem ru11_readsWords_10  {m : vm_M} {Q : Int → vm_M → Prop}  (h :
    (vm_C 201 [vm_r 96] m (vm_qi (fun z1 m1 =>
      ((z1 = 0 →
        ((¬ (m1 96 26) = (m1 96 1) →
          (vm_C 218 [vm_r 96] m1 (vm_qi (fun z2 m2 =>
            ((¬ z2 = 0 →
              ku11_readsWords_10 m2 Q) ∧ (¬ ¬ z2 = 0 →
              Q 0 m2)))))) ∧ (¬ ¬ (m1 96 26) = (m1 96 1) →
          Q 1 m1))) ∧ (¬ z1 = 0 →
        ((vm_32 ((m1 96 26) + 1))) ∧
        ku11_readsWords_10 (vm_st m1 96 26 ((m1 96 26) + 1)) Q)))))) : ku11_readsWords_10 m Q := by
  show vm_G 219 10 [some (vm_r 96)] [] m (vm_qi Q)
  refine vm_gp [(.aload 0, 0, 0, [])] (pc1 := 11) (ls1 := [some (vm_r 96)]) (st1 := [vm_r 96]) (m1 := m) (ob := true) (by decide +kernel) rfl rfl ?_
  refine vm_gc (g := 201) (na := 1) (av := [vm_r 96]) (rest := []) (i := (.invokevirtual 0, 201, 1, [])) (len := 3) (by decide +kernel) rfl rfl rfl (by decide +kernel) (by decide +kernel) rfl rfl (vm_u (vm_okh_v (c := 11) (by decide +kernel) (by decide +kernel)) (show vm_okn 201 1 0 0 0 1 = true by decide +kernel)) ?_
  refine vm_G.mono h ?_
  rintro _ m1 ⟨z1, rfl, h⟩
  show vm_G 219 14 [some (vm_r 96)] [vm_i z1] m1 _
  refine vm_gj (c := z1 = 0) (t := 30) (e := 17) (i := (.ifCond .eq 0, 30, 0, [])) (len := 3) (st1 := []) (by decide +kernel) rfl rfl (fun c1 => ?_) (fun c1 => ?_)
  · replace h := h.1 c1
    refine vm_gp [(.aload 0, 0, 0, []), (.getfield 0, 11, 26, []), (.aload 0, 0, 0, []), (.getfield 0, 11, 1, [])] (pc1 := 38) (ls1 := [some (vm_r 96)]) (st1 := [vm_i (m1 96 1), vm_i (m1 96 26)]) (m1 := m1) (ob := ((true && vm_is 96 11) && vm_is 96 11)) (by decide +kernel) rfl (vm_u (vm_u rfl (by decide +kernel)) (by decide +kernel)) ?_
    refine vm_gj (c := ¬ (m1 96 26) = (m1 96 1)) (t := 43) (e := 41) (i := (.if_icmp .ne 0, 43, 0, [])) (len := 3) (st1 := []) (by decide +kernel) rfl rfl (fun c2 => ?_) (fun c2 => ?_)
    · replace h := h.1 c2
      refine vm_gp [(.aload 0, 0, 0, [])] (pc1 := 44) (ls1 := [some (vm_r 96)]) (st1 := [vm_r 96]) (m1 := m1) (ob := true) (by decide +kernel) rfl rfl ?_
      refine vm_gc (g := 218) (na := 1) (av := [vm_r 96]) (rest := []) (i := (.invokevirtual 0, 218, 1, [])) (len := 3) (by decide +kernel) rfl rfl rfl (by decide +kernel) (by decide +kernel) rfl rfl (vm_u (vm_okh_v (c := 11) (by decide +kernel) (by decide +kernel)) (show vm_okn 218 1 0 0 0 1 = true by decide +kernel)) ?_
      refine vm_G.mono h ?_
      rintro _ m2 ⟨z2, rfl, h⟩
      show vm_G 219 47 [some (vm_r 96)] [vm_i z2] m2 _
      refine vm_gj (c := ¬ z2 = 0) (t := 10) (e := 50) (i := (.ifCond .ne 0, 10, 0, [])) (len := 3) (st1 := []) (by decide +kernel) rfl rfl (fun c3 => ?_) (fun c3 => ?_)
      · replace h := h.1 c3
        exact h
      · replace h := h.2 c3
        refine vm_gp [(.iconst 0, 0, 0, [])] (pc1 := 51) (ls1 := [some (vm_r 96)]) (st1 := [vm_i 0]) (m1 := m2) (ob := true) (by decide +kernel) rfl rfl ?_
        exact vm_gr (r := some (vm_i 0)) (i := (.ireturn, 2, 0, [])) (len := 1) (by decide +kernel) rfl rfl (by decide) ⟨_, rfl, h⟩
    · replace h := h.2 c2
      refine vm_gp [(.iconst 1, 0, 0, [])] (pc1 := 42) (ls1 := [some (vm_r 96)]) (st1 := [vm_i 1]) (m1 := m1) (ob := true) (by decide +kernel) rfl rfl ?_
      exact vm_gr (r := some (vm_i 1)) (i := (.ireturn, 2, 0, [])) (len := 1) (by decide +kernel) rfl rfl (by decide) ⟨_, rfl, h⟩
  · replace h := h.2 c1
    obtain ⟨o9_0, h⟩ := h
    refine vm_gp [(.aload 0, 0, 0, []), (.dup, 0, 0, []), (.getfield 0, 11, 26, []), (.iconst 1, 0, 0, []), (.iadd, 0, 0, []), (.putfield 0, 11, 26, []), (.goto 0, 10, 0, [])] (pc1 := 10) (ls1 := [some (vm_r 96)]) (st1 := []) (m1 := (vm_st m1 96 26 ((m1 96 26) + 1))) (ob := (((true && vm_is 96 11) && decide (vm_32 ((m1 96 26) + 1))) && vm_is 96 11)) (by decide +kernel) rfl (vm_u (vm_t (vm_u rfl (by decide +kernel)) o9_0) (by decide +kernel)) ?_
    exact h
abbrev ku11_say_0  (m : vm_M) (Q : Int → vm_M → Prop) : Prop := vm_G 220 0 [some (vm_r 96), none, none, none] [] m (vm_qi Q)
abbrev ku11_say_47 (v1 : Int) (v2 : Int) (w3 : Option vm_V) (m : vm_M) (Q : Int → vm_M → Prop) : Prop := vm_G 220 47 [some (vm_r 96), some (vm_i v1), some (vm_i v2), w3] [] m (vm_qi Q)
abbrev ku11_say_83 (v1 : Int) (v2 : Int) (v3 : Int) (m : vm_M) (Q : Int → vm_M → Prop) : Prop := vm_G 220 83 [some (vm_r 96), some (vm_i v1), some (vm_i v2), some (vm_i v3)] [] m (vm_qi Q)
set_option maxRecDepth 20000 in
theorem ru11_say_0  {m : vm_M} {Q : Int → vm_M → Prop}  (h :
    (vm_C 219 [vm_r 96] (vm_st m 96 2 (-2)) (vm_qi (fun z1 m1 =>
      ((¬ z1 = 0 →
        (vm_C 221 [vm_r 96] (vm_st m1 96 1 0) (vm_qv (fun m2 =>
          ku11_say_47 z1 0 none (vm_st m2 100 8 (m2 96 40)) Q)))) ∧ (¬ ¬ z1 = 0 →
        Q (-1) (vm_st (vm_st m1 96 1 0) 96 2 ((vm_st m1 96 1 0) 96 26)))))))) : vm_C 220 [vm_r 96] m (vm_qi Q) := by
  show vm_G 220 0 [some (vm_r 96), none, none, none] [] m (vm_qi Q)
  refine vm_gp [(.aload 0, 0, 0, []), (.iconst (-2), 0, 0, []), (.putfield 0, 11, 2, []), (.aload 0, 0, 0, [])] (pc1 := 7) (ls1 := [some (vm_r 96), none, none, none]) (st1 := [vm_r 96]) (m1 := (vm_st m 96 2 (-2))) (ob := (true && vm_is 96 11)) (by decide +kernel) rfl (vm_u rfl (by decide +kernel)) ?_
  refine vm_gc (g := 219) (na := 1) (av := [vm_r 96]) (rest := []) (i := (.invokevirtual 0, 219, 1, [])) (len := 3) (by decide +kernel) rfl rfl rfl (by decide +kernel) (by decide +kernel) rfl rfl (vm_u (vm_okh_v (c := 11) (by decide +kernel) (by decide +kernel)) (show vm_okn 219 1 0 0 0 1 = true by decide +kernel)) ?_
  refine vm_G.mono h ?_
  rintro _ m1 ⟨z1, rfl, h⟩
  show vm_G 220 10 [some (vm_r 96), none, none, none] [vm_i z1] m1 _
  refine vm_gp [(.istore 1, 0, 0, []), (.aload 0, 0, 0, []), (.iconst 0, 0, 0, []), (.putfield 0, 11, 1, []), (.iload 1, 0, 0, [])] (pc1 := 17) (ls1 := [some (vm_r 96), some (vm_i z1), none, none]) (st1 := [vm_i z1]) (m1 := (vm_st m1 96 1 0)) (ob := (true && vm_is 96 11)) (by decide +kernel) rfl (vm_u rfl (by decide +kernel)) ?_
  refine vm_gj (c := ¬ z1 = 0) (t := 30) (e := 20) (i := (.ifCond .ne 0, 30, 0, [])) (len := 3) (st1 := []) (by decide +kernel) rfl rfl (fun c1 => ?_) (fun c1 => ?_)
  · replace h := h.1 c1
    refine vm_gp [(.aload 0, 0, 0, [])] (pc1 := 31) (ls1 := [some (vm_r 96), some (vm_i z1), none, none]) (st1 := [vm_r 96]) (m1 := (vm_st m1 96 1 0)) (ob := true) (by decide +kernel) rfl rfl ?_
    refine vm_gc (g := 221) (na := 1) (av := [vm_r 96]) (rest := []) (i := (.invokevirtual 0, 221, 1, [])) (len := 3) (by decide +kernel) rfl rfl rfl (by decide +kernel) (by decide +kernel) rfl rfl (vm_u (vm_okh_v (c := 11) (by decide +kernel) (by decide +kernel)) (show vm_okn 221 1 0 0 0 1 = true by decide +kernel)) ?_
    refine vm_G.mono h ?_
    rintro _ m2 ⟨rfl, h⟩
    show vm_G 220 34 [some (vm_r 96), some (vm_i z1), none, none] [] m2 _
    refine vm_gp [(.aload 0, 0, 0, []), (.getfield 2, 11, 7, [(100, 0)]), (.iconst 8, 0, 0, []), (.aload 0, 0, 0, []), (.getfield 0, 11, 40, []), (.iastore, 1075, 0, []), (.iconst 0, 0, 0, []), (.istore 2, 0, 0, [])] (pc1 := 47) (ls1 := [some (vm_r 96), some (vm_i z1), some (vm_i 0), none]) (st1 := []) (m1 := (vm_st m2 100 8 (m2 96 40))) (ob := (((((true && vm_is 96 11) && true) && vm_is 96 11) && vm_ar 100 100 1075) && decide ((0 : Int) ≤ 8 ∧ (8 : Int) < 1075))) (by decide +kernel) rfl (vm_t (vm_u (vm_u (vm_u (vm_u rfl (by decide +kernel)) rfl) (by decide +kernel)) (by decide +kernel)) (by decide)) ?_
    exact h
  · replace h := h.2 c1
    refine vm_gp [(.aload 0, 0, 0, []), (.aload 0, 0, 0, []), (.getfield 0, 11, 26, []), (.putfield 0, 11, 2, []), (.iconst (-1), 0, 0, [])] (pc1 := 29) (ls1 := [some (vm_r 96), some (vm_i z1), none, none]) (st1 := [vm_i (-1)]) (m1 := (vm_st (vm_st m1 96 1 0) 96 2 ((vm_st m1 96 1 0) 96 26))) (ob := ((true && vm_is 96 11) && vm_is 96 11)) (by decide +kernel) rfl (vm_u (vm_u rfl (by decide +kernel)) (by decide +kernel)) ?_
    exact vm_gr (r := some (vm_i (-1))) (i := (.ireturn, 1, 0, [])) (len := 1) (by decide +kernel) rfl rfl rfl ⟨_, rfl, h⟩
set_option maxRecDepth 20000 in
theorem ru11_say_47 {v1 : Int} {v2 : Int} {w3 : Option vm_V} {m : vm_M} {Q : Int → vm_M → Prop}  (h :
    ((30 ≤ v2 →
      Q (m 96 40) m) ∧ (¬ 30 ≤ v2 →
      ((vm_32 (685 + v2))) ∧
      (((m 96 40) ≤ v2 →
        ((0 ≤ (685 + v2) ∧ (685 + v2) < 1075)) ∧
        ku11_say_83 v1 v2 0 (vm_st m 100 (685 + v2) 0) Q) ∧ (¬ (m 96 40) ≤ v2 →
        ((0 ≤ v2 ∧ v2 < 30) ∧ (0 ≤ (685 + v2) ∧ (685 + v2) < 1075)) ∧
        ku11_say_83 v1 v2 0 (vm_st m 100 (685 + v2) (m 115 v2)) Q))))) : ku11_say_47 v1 v2 w3 m Q := by
  show vm_G 220 47 [some (vm_r 96), some (vm_i v1), some (vm_i v2), w3] [] m (vm_qi Q)
  refine vm_gp [(.iload 2, 0, 0, []), (.iconst 30, 0, 0, [])] (pc1 := 50) (ls1 := [some (vm_r 96), some (vm_i v1), some (vm_i v2), w3]) (st1 := [vm_i 30, vm_i v2]) (m1 := m) (ob := true) (by decide +kernel) rfl rfl ?_
  refine vm_gj (c := 30 ≤ v2) (t := 149) (e := 53) (i := (.if_icmp .ge 0, 149, 0, [])) (len := 3) (st1 := []) (by decide +kernel) rfl rfl (fun c1 => ?_) (fun c1 => ?_)
  · replace h := h.1 c1
    refine vm_gp [(.aload 0, 0, 0, []), (.getfield 0, 11, 40, [])] (pc1 := 153) (ls1 := [some (vm_r 96), some (vm_i v1), some (vm_i v2), w3]) (st1 := [vm_i (m 96 40)]) (m1 := m) (ob := (true && vm_is 96 11)) (by decide +kernel) rfl (vm_u rfl (by decide +kernel)) ?_
    exact vm_gr (r := some (vm_i (m 96 40))) (i := (.ireturn, 1, 0, [])) (len := 1) (by decide +kernel) rfl rfl rfl ⟨_, rfl, h⟩
  · replace h := h.2 c1
    obtain ⟨o3_0, h⟩ := h
    refine vm_gp [(.aload 0, 0, 0, []), (.getfield 2, 11, 7, [(100, 0)]), (.iconst 685, 0, 0, []), (.iload 2, 0, 0, []), (.iadd, 0, 0, []), (.iload 2, 0, 0, []), (.aload 0, 0, 0, []), (.getfield 0, 11, 40, [])] (pc1 := 67) (ls1 := [some (vm_r 96), some (vm_i v1), some (vm_i v2), w3]) (st1 := [vm_i (m 96 40), vm_i v2, vm_i (685 + v2), vm_r 100]) (m1 := m) (ob := ((((true && vm_is 96 11) && true) && decide (vm_32 (685 + v2))) && vm_is 96 11)) (by decide +kernel) rfl (vm_u (vm_t (vm_u (vm_u rfl (by decide +kernel)) rfl) o3_0) (by decide +kernel)) ?_
    refine vm_gj (c := (m 96 40) ≤ v2) (t := 79) (e := 70) (i := (.if_icmp .ge 0, 79, 0, [])) (len := 3) (st1 := [vm_i (685 + v2), vm_r 100]) (by decide +kernel) rfl rfl (fun c2 => ?_) (fun c2 => ?_)
    · replace h := h.1 c2
      obtain ⟨o4_0, h⟩ := h
      refine vm_gp [(.iconst 0, 0, 0, []), (.iastore, 1075, 0, []), (.iconst 0, 0, 0, []), (.istore 3, 0, 0, [])] (pc1 := 83) (ls1 := [some (vm_r 96), some (vm_i v1), some (vm_i v2), some (vm_i 0)]) (st1 := []) (m1 := (vm_st m 100 (685 + v2) 0)) (ob := ((true && vm_ar 100 100 1075) && decide (0 ≤ (685 + v2) ∧ (685 + v2) < 1075))) (by decide +kernel) rfl (vm_t (vm_u rfl (by decide +kernel)) o4_0) ?_
      exact h
    · replace h := h.2 c2
      obtain ⟨⟨o5_0, o5_1⟩, h⟩ := h
      refine vm_gp [(.aload 0, 0, 0, []), (.getfield 2, 11, 38, [(115, 0)]), (.iload 2, 0, 0, []), (.iaload, 30, 0, []), (.goto 0, 80, 0, []), (.iastore, 1075, 0, []), (.iconst 0, 0, 0, []), (.istore 3, 0, 0, [])] (pc1 := 83) (ls1 := [some (vm_r 96), some (vm_i v1), some (vm_i v2), some (vm_i 0)]) (st1 := []) (m1 := (vm_st m 100 (685 + v2) (m 115 v2))) (ob := ((((((true && vm_is 96 11) && true) && vm_ar 115 100 30) && decide (0 ≤ v2 ∧ v2 < 30)) && vm_ar 100 100 1075) && decide (0 ≤ (685 + v2) ∧ (685 + v2) < 1075))) (by decide +kernel) rfl (vm_t (vm_u (vm_t (vm_u (vm_u (vm_u rfl (by decide +kernel)) rfl) (by decide +kernel)) o5_0) (by decide +kernel)) o5_1) ?_
      exact h
set_option maxRecDepth 20000 in
theorem ru11_say_83 {v1 : Int} {v2 : Int} {v3 : Int} {m : vm_M} {Q : Int → vm_M → Prop}  (h :
    ((12 ≤ v3 →
      ((vm_32 (v2 + 1))) ∧
      ku11_say_47 v1 (v2 + 1) (some (vm_i v3)) m Q) ∧ (¬ 12 ≤ v3 →
      ((vm_32 (12 * v2)) ∧ (vm_32 (715 + (12 * v2))) ∧ (vm_32 ((715 + (12 * v2)) + v3))) ∧
      (((m 96 40) ≤ v2 →
        ((0 ≤ ((715 + (12 * v2)) + v3) ∧ ((715 + (12 * v2)) + v3) < 1075) ∧ (vm_32 (v3 + 1))) ∧
        ku11_say_83 v1 v2 (v3 + 1) (vm_st m 100 ((715 + (12 * v2)) + v3) 0) Q) ∧ (¬ (m 96 40) ≤ v2 →
        ((0 ≤ v2 ∧ v2 < 30)) ∧
        (((m 115 v2) ≤ v3 →
          ((0 ≤ ((715 + (12 * v2)) + v3) ∧ ((715 + (12 * v2)) + v3) < 1075) ∧ (vm_32 (v3 + 1))) ∧
          ku11_say_83 v1 v2 (v3 + 1) (vm_st m 100 ((715 + (12 * v2)) + v3) 0) Q) ∧ (¬ (m 115 v2) ≤ v3 →
          ((vm_32 (12 * v2)) ∧ (vm_32 ((12 * v2) + v3)) ∧ (0 ≤ ((12 * v2) + v3) ∧ ((12 * v2) + v3) < 360) ∧ (0 ≤ ((715 + (12 * v2)) + v3) ∧ ((715 + (12 * v2)) + v3) < 1075) ∧ (vm_32 (v3 + 1))) ∧
          ku11_say_83 v1 v2 (v3 + 1) (vm_st m 100 ((715 + (12 * v2)) + v3) (m 116 ((12 * v2) + v3))) Q))))))) : ku11_say_83 v1 v2 v3 m Q := by
  show vm_G 220 83 [some (vm_r 96), some (vm_i v1), some (vm_i v2), some (vm_i v3)] [] m (vm_qi Q)
  refine vm_gp [(.iload 3, 0, 0, []), (.iconst 12, 0, 0, [])] (pc1 := 86) (ls1 := [some (vm_r 96), some (vm_i v1), some (vm_i v2), some (vm_i v3)]) (st1 := [vm_i 12, vm_i v3]) (m1 := m) (ob := true) (by decide +kernel) rfl rfl ?_
  refine vm_gj (c := 12 ≤ v3) (t := 143) (e := 89) (i := (.if_icmp .ge 0, 143, 0, [])) (len := 3) (st1 := []) (by decide +kernel) rfl rfl (fun c1 => ?_) (fun c1 => ?_)
  · replace h := h.1 c1
    obtain ⟨o2_0, h⟩ := h
    refine vm_gp [(.iinc 2 1, 0, 0, []), (.goto 0, 47, 0, [])] (pc1 := 47) (ls1 := [some (vm_r 96), some (vm_i v1), some (vm_i (v2 + 1)), some (vm_i v3)]) (st1 := []) (m1 := m) (ob := (true && decide (vm_32 (v2 + 1)))) (by decide +kernel) rfl (vm_t rfl o2_0) ?_
    exact h
  · replace h := h.2 c1
    obtain ⟨⟨o3_0, o3_1, o3_2⟩, h⟩ := h
    refine vm_gp [(.aload 0, 0, 0, []), (.getfield 2, 11, 7, [(100, 0)]), (.iconst 715, 0, 0, []), (.iconst 12, 0, 0, []), (.iload 2, 0, 0, []), (.imul, 0, 0, []), (.iadd, 0, 0, []), (.iload 3, 0, 0, []), (.iadd, 0, 0, []), (.iload 2, 0, 0, []), (.aload 0, 0, 0, []), (.getfield 0, 11, 40, [])] (pc1 := 108) (ls1 := [some (vm_r 96), some (vm_i v1), some (vm_i v2), some (vm_i v3)]) (st1 := [vm_i (m 96 40), vm_i v2, vm_i ((715 + (12 * v2)) + v3), vm_r 100]) (m1 := m) (ob := ((((((true && vm_is 96 11) && true) && decide (vm_32 (12 * v2))) && decide (vm_32 (715 + (12 * v2)))) && decide (vm_32 ((715 + (12 * v2)) + v3))) && vm_is 96 11)) (by decide +kernel) rfl (vm_u (vm_t (vm_t (vm_t (vm_u (vm_u rfl (by decide +kernel)) rfl) o3_0) o3_1) o3_2) (by decide +kernel)) ?_
    refine vm_gj (c := (m 96 40) ≤ v2) (t := 135) (e := 111) (i := (.if_icmp .ge 0, 135, 0, [])) (len := 3) (st1 := [vm_i ((715 + (12 * v2)) + v3), vm_r 100]) (by decide +kernel) rfl rfl (fun c2 => ?_) (fun c2 => ?_)
    · replace h := h.1 c2
      obtain ⟨⟨o4_0, o4_1⟩, h⟩ := h
      refine vm_gp [(.iconst 0, 0, 0, []), (.iastore, 1075, 0, []), (.iinc 3 1, 0, 0, []), (.goto 0, 83, 0, [])] (pc1 := 83) (ls1 := [some (vm_r 96), some (vm_i v1), some (vm_i v2), some (vm_i (v3 + 1))]) (st1 := []) (m1 := (vm_st m 100 ((715 + (12 * v2)) + v3) 0)) (ob := (((true && vm_ar 100 100 1075) && decide (0 ≤ ((715 + (12 * v2)) + v3) ∧ ((715 + (12 * v2)) + v3) < 1075)) && decide (vm_32 (v3 + 1)))) (by decide +kernel) rfl (vm_t (vm_t (vm_u rfl (by decide +kernel)) o4_0) o4_1) ?_
      exact h
    · replace h := h.2 c2
      obtain ⟨o5_0, h⟩ := h
      refine vm_gp [(.iload 3, 0, 0, []), (.aload 0, 0, 0, []), (.getfield 2, 11, 38, [(115, 0)]), (.iload 2, 0, 0, []), (.iaload, 30, 0, [])] (pc1 := 118) (ls1 := [some (vm_r 96), some (vm_i v1), some (vm_i v2), some (vm_i v3)]) (st1 := [vm_i (m 115 v2), vm_i v3, vm_i ((715 + (12 * v2)) + v3), vm_r 100]) (m1 := m) (ob := ((((true && vm_is 96 11) && true) && vm_ar 115 100 30) && decide (0 ≤ v2 ∧ v2 < 30))) (by decide +kernel) rfl (vm_t (vm_u (vm_u (vm_u rfl (by decide +kernel)) rfl) (by decide +kernel)) o5_0) ?_
      refine vm_gj (c := (m 115 v2) ≤ v3) (t := 135) (e := 121) (i := (.if_icmp .ge 0, 135, 0, [])) (len := 3) (st1 := [vm_i ((715 + (12 * v2)) + v3), vm_r 100]) (by decide +kernel) rfl rfl (fun c3 => ?_) (fun c3 => ?_)
      · replace h := h.1 c3
        obtain ⟨⟨o6_0, o6_1⟩, h⟩ := h
        refine vm_gp [(.iconst 0, 0, 0, []), (.iastore, 1075, 0, []), (.iinc 3 1, 0, 0, []), (.goto 0, 83, 0, [])] (pc1 := 83) (ls1 := [some (vm_r 96), some (vm_i v1), some (vm_i v2), some (vm_i (v3 + 1))]) (st1 := []) (m1 := (vm_st m 100 ((715 + (12 * v2)) + v3) 0)) (ob := (((true && vm_ar 100 100 1075) && decide (0 ≤ ((715 + (12 * v2)) + v3) ∧ ((715 + (12 * v2)) + v3) < 1075)) && decide (vm_32 (v3 + 1)))) (by decide +kernel) rfl (vm_t (vm_t (vm_u rfl (by decide +kernel)) o6_0) o6_1) ?_
        exact h
      · replace h := h.2 c3
        obtain ⟨⟨o7_0, o7_1, o7_2, o7_3, o7_4⟩, h⟩ := h
        refine vm_gp [(.aload 0, 0, 0, []), (.getfield 2, 11, 39, [(116, 0)]), (.iconst 12, 0, 0, []), (.iload 2, 0, 0, []), (.imul, 0, 0, []), (.iload 3, 0, 0, []), (.iadd, 0, 0, []), (.iaload, 360, 0, []), (.goto 0, 136, 0, []), (.iastore, 1075, 0, []), (.iinc 3 1, 0, 0, []), (.goto 0, 83, 0, [])] (pc1 := 83) (ls1 := [some (vm_r 96), some (vm_i v1), some (vm_i v2), some (vm_i (v3 + 1))]) (st1 := []) (m1 := (vm_st m 100 ((715 + (12 * v2)) + v3) (m 116 ((12 * v2) + v3)))) (ob := (((((((((true && vm_is 96 11) && true) && decide (vm_32 (12 * v2))) && decide (vm_32 ((12 * v2) + v3))) && vm_ar 116 100 360) && decide (0 ≤ ((12 * v2) + v3) ∧ ((12 * v2) + v3) < 360)) && vm_ar 100 100 1075) && decide (0 ≤ ((715 + (12 * v2)) + v3) ∧ ((715 + (12 * v2)) + v3) < 1075)) && decide (vm_32 (v3 + 1)))) (by decide +kernel) rfl (vm_t (vm_t (vm_u (vm_t (vm_u (vm_t (vm_t (vm_u (vm_u rfl (by decide +kernel)) rfl) o7_0) o7_1) (by decide +kernel)) o7_2) (by decide +kernel)) o7_3) o7_4) ?_
        exact h
abbrev ku11_keeps_0  (m : vm_M) (Q : vm_M → Prop) : Prop := vm_G 221 0 [some (vm_r 96), none] [] m (vm_qv Q)
abbrev ku11_keeps_13 (v1 : Int) (m : vm_M) (Q : vm_M → Prop) : Prop := vm_G 221 13 [some (vm_r 96), some (vm_i v1)] [] m (vm_qv Q)
abbrev ku11_keeps_54 (v1 : Int) (m : vm_M) (Q : vm_M → Prop) : Prop := vm_G 221 54 [some (vm_r 96), some (vm_i v1)] [] m (vm_qv Q)
set_option maxRecDepth 20000 in
theorem ru11_keeps_0  {m : vm_M} {Q : vm_M → Prop}  (h :
    ((¬ (m 96 11) = 8 →
      ku11_keeps_54 0 m Q) ∧ (¬ ¬ (m 96 11) = 8 →
      ku11_keeps_13 1075 m Q))) : vm_C 221 [vm_r 96] m (vm_qv Q) := by
  show vm_G 221 0 [some (vm_r 96), none] [] m (vm_qv Q)
  refine vm_gp [(.aload 0, 0, 0, []), (.getfield 0, 11, 11, []), (.iconst 8, 0, 0, [])] (pc1 := 6) (ls1 := [some (vm_r 96), none]) (st1 := [vm_i 8, vm_i (m 96 11)]) (m1 := m) (ob := (true && vm_is 96 11)) (by decide +kernel) rfl (vm_u rfl (by decide +kernel)) ?_
  refine vm_gj (c := ¬ (m 96 11) = 8) (t := 52) (e := 9) (i := (.if_icmp .ne 0, 52, 0, [])) (len := 3) (st1 := []) (by decide +kernel) rfl rfl (fun c1 => ?_) (fun c1 => ?_)
  · replace h := h.1 c1
    refine vm_gp [(.iconst 0, 0, 0, []), (.istore 1, 0, 0, [])] (pc1 := 54) (ls1 := [some (vm_r 96), some (vm_i 0)]) (st1 := []) (m1 := m) (ob := true) (by decide +kernel) rfl rfl ?_
    exact h
  · replace h := h.2 c1
    refine vm_gp [(.iconst 1075, 0, 0, []), (.istore 1, 0, 0, [])] (pc1 := 13) (ls1 := [some (vm_r 96), some (vm_i 1075)]) (st1 := []) (m1 := m) (ob := true) (by decide +kernel) rfl rfl ?_
    exact h
set_option maxRecDepth 20000 in
theorem ru11_keeps_13 {v1 : Int} {m : vm_M} {Q : vm_M → Prop}  (h :
    ((8600 ≤ v1 →
      ((vm_32 ((m 96 11) - 1))) ∧
      ku11_keeps_54 0 (vm_st m 96 11 ((m 96 11) - 1)) Q) ∧ (¬ 8600 ≤ v1 →
      ((vm_32 (v1 - 1075)) ∧ (0 ≤ v1 ∧ v1 < 8600) ∧ (0 ≤ (v1 - 1075) ∧ (v1 - 1075) < 8600) ∧ (vm_32 (v1 + 1))) ∧
      ku11_keeps_13 (v1 + 1) (vm_st m 101 (v1 - 1075) (m 101 v1)) Q))) : ku11_keeps_13 v1 m Q := by
  show vm_G 221 13 [some (vm_r 96), some (vm_i v1)] [] m (vm_qv Q)
  refine vm_gp [(.iload 1, 0, 0, []), (.iconst 8600, 0, 0, [])] (pc1 := 17) (ls1 := [some (vm_r 96), some (vm_i v1)]) (st1 := [vm_i 8600, vm_i v1]) (m1 := m) (ob := true) (by decide +kernel) rfl rfl ?_
  refine vm_gj (c := 8600 ≤ v1) (t := 42) (e := 20) (i := (.if_icmp .ge 0, 42, 0, [])) (len := 3) (st1 := []) (by decide +kernel) rfl rfl (fun c1 => ?_) (fun c1 => ?_)
  · replace h := h.1 c1
    obtain ⟨o2_0, h⟩ := h
    refine vm_gp [(.aload 0, 0, 0, []), (.dup, 0, 0, []), (.getfield 0, 11, 11, []), (.iconst 1, 0, 0, []), (.isub, 0, 0, []), (.putfield 0, 11, 11, []), (.iconst 0, 0, 0, []), (.istore 1, 0, 0, [])] (pc1 := 54) (ls1 := [some (vm_r 96), some (vm_i 0)]) (st1 := []) (m1 := (vm_st m 96 11 ((m 96 11) - 1))) (ob := (((true && vm_is 96 11) && decide (vm_32 ((m 96 11) - 1))) && vm_is 96 11)) (by decide +kernel) rfl (vm_u (vm_t (vm_u rfl (by decide +kernel)) o2_0) (by decide +kernel)) ?_
    exact h
  · replace h := h.2 c1
    obtain ⟨⟨o3_0, o3_1, o3_2, o3_3⟩, h⟩ := h
    refine vm_gp [(.aload 0, 0, 0, []), (.getfield 2, 11, 8, [(101, 0)]), (.iload 1, 0, 0, []), (.iconst 1075, 0, 0, []), (.isub, 0, 0, []), (.aload 0, 0, 0, []), (.getfield 2, 11, 8, [(101, 0)]), (.iload 1, 0, 0, []), (.iaload, 8600, 0, []), (.iastore, 8600, 0, []), (.iinc 1 1, 0, 0, []), (.goto 0, 13, 0, [])] (pc1 := 13) (ls1 := [some (vm_r 96), some (vm_i (v1 + 1))]) (st1 := []) (m1 := (vm_st m 101 (v1 - 1075) (m 101 v1))) (ob := ((((((((((true && vm_is 96 11) && true) && decide (vm_32 (v1 - 1075))) && vm_is 96 11) && true) && vm_ar 101 100 8600) && decide (0 ≤ v1 ∧ v1 < 8600)) && vm_ar 101 100 8600) && decide (0 ≤ (v1 - 1075) ∧ (v1 - 1075) < 8600)) && decide (vm_32 (v1 + 1)))) (by decide +kernel) rfl (vm_t (vm_t (vm_u (vm_t (vm_u (vm_u (vm_u (vm_t (vm_u (vm_u rfl (by decide +kernel)) rfl) o3_0) (by decide +kernel)) rfl) (by decide +kernel)) o3_1) (by decide +kernel)) o3_2) o3_3) ?_
    exact h
set_option maxRecDepth 20000 in
theorem ru11_keeps_54 {v1 : Int} {m : vm_M} {Q : vm_M → Prop}  (h :
    ((1075 ≤ v1 →
      ((vm_32 ((m 96 11) + 1))) ∧
      Q (vm_st m 96 11 ((m 96 11) + 1))) ∧ (¬ 1075 ≤ v1 →
      ((vm_32 (1075 * (m 96 11))) ∧ (vm_32 ((1075 * (m 96 11)) + v1)) ∧ (0 ≤ v1 ∧ v1 < 1075) ∧ (0 ≤ ((1075 * (m 96 11)) + v1) ∧ ((1075 * (m 96 11)) + v1) < 8600) ∧ (vm_32 (v1 + 1))) ∧
      ku11_keeps_54 (v1 + 1) (vm_st m 101 ((1075 * (m 96 11)) + v1) (m 100 v1)) Q))) : ku11_keeps_54 v1 m Q := by
  show vm_G 221 54 [some (vm_r 96), some (vm_i v1)] [] m (vm_qv Q)
  refine vm_gp [(.iload 1, 0, 0, []), (.iconst 1075, 0, 0, [])] (pc1 := 58) (ls1 := [some (vm_r 96), some (vm_i v1)]) (st1 := [vm_i 1075, vm_i v1]) (m1 := m) (ob := true) (by decide +kernel) rfl rfl ?_
  refine vm_gj (c := 1075 ≤ v1) (t := 88) (e := 61) (i := (.if_icmp .ge 0, 88, 0, [])) (len := 3) (st1 := []) (by decide +kernel) rfl rfl (fun c1 => ?_) (fun c1 => ?_)
  · replace h := h.1 c1
    obtain ⟨o2_0, h⟩ := h
    refine vm_gp [(.aload 0, 0, 0, []), (.dup, 0, 0, []), (.getfield 0, 11, 11, []), (.iconst 1, 0, 0, []), (.iadd, 0, 0, []), (.putfield 0, 11, 11, [])] (pc1 := 98) (ls1 := [some (vm_r 96), some (vm_i v1)]) (st1 := []) (m1 := (vm_st m 96 11 ((m 96 11) + 1))) (ob := (((true && vm_is 96 11) && decide (vm_32 ((m 96 11) + 1))) && vm_is 96 11)) (by decide +kernel) rfl (vm_u (vm_t (vm_u rfl (by decide +kernel)) o2_0) (by decide +kernel)) ?_
    exact vm_gr (r := none) (i := (.return_, 0, 0, [])) (len := 1) (by decide +kernel) rfl rfl rfl ⟨rfl, h⟩
  · replace h := h.2 c1
    obtain ⟨⟨o3_0, o3_1, o3_2, o3_3, o3_4⟩, h⟩ := h
    refine vm_gp [(.aload 0, 0, 0, []), (.getfield 2, 11, 8, [(101, 0)]), (.iconst 1075, 0, 0, []), (.aload 0, 0, 0, []), (.getfield 0, 11, 11, []), (.imul, 0, 0, []), (.iload 1, 0, 0, []), (.iadd, 0, 0, []), (.aload 0, 0, 0, []), (.getfield 2, 11, 7, [(100, 0)]), (.iload 1, 0, 0, []), (.iaload, 1075, 0, []), (.iastore, 8600, 0, []), (.iinc 1 1, 0, 0, []), (.goto 0, 54, 0, [])] (pc1 := 54) (ls1 := [some (vm_r 96), some (vm_i (v1 + 1))]) (st1 := []) (m1 := (vm_st m 101 ((1075 * (m 96 11)) + v1) (m 100 v1))) (ob := ((((((((((((true && vm_is 96 11) && true) && vm_is 96 11) && decide (vm_32 (1075 * (m 96 11)))) && decide (vm_32 ((1075 * (m 96 11)) + v1))) && vm_is 96 11) && true) && vm_ar 100 100 1075) && decide (0 ≤ v1 ∧ v1 < 1075)) && vm_ar 101 100 8600) && decide (0 ≤ ((1075 * (m 96 11)) + v1) ∧ ((1075 * (m 96 11)) + v1) < 8600)) && decide (vm_32 (v1 + 1)))) (by decide +kernel) rfl (vm_t (vm_t (vm_u (vm_t (vm_u (vm_u (vm_u (vm_t (vm_t (vm_u (vm_u (vm_u rfl (by decide +kernel)) rfl) (by decide +kernel)) o3_0) o3_1) (by decide +kernel)) rfl) (by decide +kernel)) o3_2) (by decide +kernel)) o3_3) o3_4) ?_
    exact h
abbrev ku11_undo_0  (m : vm_M) (Q : Int → vm_M → Prop) : Prop := vm_G 222 0 [some (vm_r 96), none] [] m (vm_qi Q)
abbrev ku11_undo_21 (v1 : Int) (m : vm_M) (Q : Int → vm_M → Prop) : Prop := vm_G 222 21 [some (vm_r 96), some (vm_i v1)] [] m (vm_qi Q)
set_option maxRecDepth 20000 in
theorem ru11_undo_0  {m : vm_M} {Q : Int → vm_M → Prop}  (h :
    ((¬ (m 96 11) = 0 →
      ((vm_32 ((m 96 11) - 1))) ∧
      ku11_undo_21 0 (vm_st m 96 11 ((m 96 11) - 1)) Q) ∧ (¬ ¬ (m 96 11) = 0 →
      Q (-1) m))) : vm_C 222 [vm_r 96] m (vm_qi Q) := by
  show vm_G 222 0 [some (vm_r 96), none] [] m (vm_qi Q)
  refine vm_gp [(.aload 0, 0, 0, []), (.getfield 0, 11, 11, [])] (pc1 := 4) (ls1 := [some (vm_r 96), none]) (st1 := [vm_i (m 96 11)]) (m1 := m) (ob := (true && vm_is 96 11)) (by decide +kernel) rfl (vm_u rfl (by decide +kernel)) ?_
  refine vm_gj (c := ¬ (m 96 11) = 0) (t := 9) (e := 7) (i := (.ifCond .ne 0, 9, 0, [])) (len := 3) (st1 := []) (by decide +kernel) rfl rfl (fun c1 => ?_) (fun c1 => ?_)
  · replace h := h.1 c1
    obtain ⟨o2_0, h⟩ := h
    refine vm_gp [(.aload 0, 0, 0, []), (.dup, 0, 0, []), (.getfield 0, 11, 11, []), (.iconst 1, 0, 0, []), (.isub, 0, 0, []), (.putfield 0, 11, 11, []), (.iconst 0, 0, 0, []), (.istore 1, 0, 0, [])] (pc1 := 21) (ls1 := [some (vm_r 96), some (vm_i 0)]) (st1 := []) (m1 := (vm_st m 96 11 ((m 96 11) - 1))) (ob := (((true && vm_is 96 11) && decide (vm_32 ((m 96 11) - 1))) && vm_is 96 11)) (by decide +kernel) rfl (vm_u (vm_t (vm_u rfl (by decide +kernel)) o2_0) (by decide +kernel)) ?_
    exact h
  · replace h := h.2 c1
    refine vm_gp [(.iconst (-1), 0, 0, [])] (pc1 := 8) (ls1 := [some (vm_r 96), none]) (st1 := [vm_i (-1)]) (m1 := m) (ob := true) (by decide +kernel) rfl rfl ?_
    exact vm_gr (r := some (vm_i (-1))) (i := (.ireturn, 1, 0, [])) (len := 1) (by decide +kernel) rfl rfl rfl ⟨_, rfl, h⟩
set_option maxRecDepth 20000 in
theorem ru11_undo_21 {v1 : Int} {m : vm_M} {Q : Int → vm_M → Prop}  (h :
    ((1075 ≤ v1 →
      Q (m 96 11) m) ∧ (¬ 1075 ≤ v1 →
      ((vm_32 (1075 * (m 96 11))) ∧ (vm_32 ((1075 * (m 96 11)) + v1)) ∧ (0 ≤ ((1075 * (m 96 11)) + v1) ∧ ((1075 * (m 96 11)) + v1) < 8600) ∧ (0 ≤ v1 ∧ v1 < 1075) ∧ (vm_32 (v1 + 1))) ∧
      ku11_undo_21 (v1 + 1) (vm_st m 100 v1 (m 101 ((1075 * (m 96 11)) + v1))) Q))) : ku11_undo_21 v1 m Q := by
  show vm_G 222 21 [some (vm_r 96), some (vm_i v1)] [] m (vm_qi Q)
  refine vm_gp [(.iload 1, 0, 0, []), (.iconst 1075, 0, 0, [])] (pc1 := 25) (ls1 := [some (vm_r 96), some (vm_i v1)]) (st1 := [vm_i 1075, vm_i v1]) (m1 := m) (ob := true) (by decide +kernel) rfl rfl ?_
  refine vm_gj (c := 1075 ≤ v1) (t := 55) (e := 28) (i := (.if_icmp .ge 0, 55, 0, [])) (len := 3) (st1 := []) (by decide +kernel) rfl rfl (fun c1 => ?_) (fun c1 => ?_)
  · replace h := h.1 c1
    refine vm_gp [(.aload 0, 0, 0, []), (.getfield 0, 11, 11, [])] (pc1 := 59) (ls1 := [some (vm_r 96), some (vm_i v1)]) (st1 := [vm_i (m 96 11)]) (m1 := m) (ob := (true && vm_is 96 11)) (by decide +kernel) rfl (vm_u rfl (by decide +kernel)) ?_
    exact vm_gr (r := some (vm_i (m 96 11))) (i := (.ireturn, 1, 0, [])) (len := 1) (by decide +kernel) rfl rfl rfl ⟨_, rfl, h⟩
  · replace h := h.2 c1
    obtain ⟨⟨o3_0, o3_1, o3_2, o3_3, o3_4⟩, h⟩ := h
    refine vm_gp [(.aload 0, 0, 0, []), (.getfield 2, 11, 7, [(100, 0)]), (.iload 1, 0, 0, []), (.aload 0, 0, 0, []), (.getfield 2, 11, 8, [(101, 0)]), (.iconst 1075, 0, 0, []), (.aload 0, 0, 0, []), (.getfield 0, 11, 11, []), (.imul, 0, 0, []), (.iload 1, 0, 0, []), (.iadd, 0, 0, []), (.iaload, 8600, 0, []), (.iastore, 1075, 0, []), (.iinc 1 1, 0, 0, []), (.goto 0, 21, 0, [])] (pc1 := 21) (ls1 := [some (vm_r 96), some (vm_i (v1 + 1))]) (st1 := []) (m1 := (vm_st m 100 v1 (m 101 ((1075 * (m 96 11)) + v1)))) (ob := ((((((((((((true && vm_is 96 11) && true) && vm_is 96 11) && true) && vm_is 96 11) && decide (vm_32 (1075 * (m 96 11)))) && decide (vm_32 ((1075 * (m 96 11)) + v1))) && vm_ar 101 100 8600) && decide (0 ≤ ((1075 * (m 96 11)) + v1) ∧ ((1075 * (m 96 11)) + v1) < 8600)) && vm_ar 100 100 1075) && decide (0 ≤ v1 ∧ v1 < 1075)) && decide (vm_32 (v1 + 1)))) (by decide +kernel) rfl (vm_t (vm_t (vm_u (vm_t (vm_u (vm_t (vm_t (vm_u (vm_u (vm_u (vm_u (vm_u rfl (by decide +kernel)) rfl) (by decide +kernel)) rfl) (by decide +kernel)) o3_0) o3_1) (by decide +kernel)) o3_2) (by decide +kernel)) o3_3) o3_4) ?_
    exact h
abbrev ku11_becomes_0 (v1 : Int) (v2 : Int) (m : vm_M) (Q : Int → vm_M → Prop) : Prop := vm_G 223 0 [some (vm_r 96), some (vm_i v1), some (vm_i v2)] [] m (vm_qi Q)
set_option maxRecDepth 20000 in
theorem ru11_becomes_0 {v1 : Int} {v2 : Int} {m : vm_M} {Q : Int → vm_M → Prop}  (h :
    ((0 ≤ v1 ∧ v1 < 1075)) ∧
    ((¬ (m 100 v1) = v2 →
      (vm_C 221 [vm_r 96] m (vm_qv (fun m1 =>
        ((0 ≤ v1 ∧ v1 < 1075)) ∧
        Q 1 (vm_st m1 100 v1 v2))))) ∧ (¬ ¬ (m 100 v1) = v2 →
      Q 0 m))) : vm_C 223 [vm_r 96, vm_i v1, vm_i v2] m (vm_qi Q) := by
  show vm_G 223 0 [some (vm_r 96), some (vm_i v1), some (vm_i v2)] [] m (vm_qi Q)
  obtain ⟨o1_0, h⟩ := h
  refine vm_gp [(.aload 0, 0, 0, []), (.getfield 2, 11, 7, [(100, 0)]), (.iload 1, 0, 0, []), (.iaload, 1075, 0, []), (.iload 2, 0, 0, [])] (pc1 := 7) (ls1 := [some (vm_r 96), some (vm_i v1), some (vm_i v2)]) (st1 := [vm_i v2, vm_i (m 100 v1)]) (m1 := m) (ob := ((((true && vm_is 96 11) && true) && vm_ar 100 100 1075) && decide (0 ≤ v1 ∧ v1 < 1075))) (by decide +kernel) rfl (vm_t (vm_u (vm_u (vm_u rfl (by decide +kernel)) rfl) (by decide +kernel)) o1_0) ?_
  refine vm_gj (c := ¬ (m 100 v1) = v2) (t := 12) (e := 10) (i := (.if_icmp .ne 0, 12, 0, [])) (len := 3) (st1 := []) (by decide +kernel) rfl rfl (fun c1 => ?_) (fun c1 => ?_)
  · replace h := h.1 c1
    refine vm_gp [(.aload 0, 0, 0, [])] (pc1 := 13) (ls1 := [some (vm_r 96), some (vm_i v1), some (vm_i v2)]) (st1 := [vm_r 96]) (m1 := m) (ob := true) (by decide +kernel) rfl rfl ?_
    refine vm_gc (g := 221) (na := 1) (av := [vm_r 96]) (rest := []) (i := (.invokevirtual 0, 221, 1, [])) (len := 3) (by decide +kernel) rfl rfl rfl (by decide +kernel) (by decide +kernel) rfl rfl (vm_u (vm_okh_v (c := 11) (by decide +kernel) (by decide +kernel)) (show vm_okn 221 1 0 0 0 1 = true by decide +kernel)) ?_
    refine vm_G.mono h ?_
    rintro _ m1 ⟨rfl, h⟩
    show vm_G 223 16 [some (vm_r 96), some (vm_i v1), some (vm_i v2)] [] m1 _
    obtain ⟨o3_0, h⟩ := h
    refine vm_gp [(.aload 0, 0, 0, []), (.getfield 2, 11, 7, [(100, 0)]), (.iload 1, 0, 0, []), (.iload 2, 0, 0, []), (.iastore, 1075, 0, []), (.iconst 1, 0, 0, [])] (pc1 := 24) (ls1 := [some (vm_r 96), some (vm_i v1), some (vm_i v2)]) (st1 := [vm_i 1]) (m1 := (vm_st m1 100 v1 v2)) (ob := ((((true && vm_is 96 11) && true) && vm_ar 100 100 1075) && decide (0 ≤ v1 ∧ v1 < 1075))) (by decide +kernel) rfl (vm_t (vm_u (vm_u (vm_u rfl (by decide +kernel)) rfl) (by decide +kernel)) o3_0) ?_
    exact vm_gr (r := some (vm_i 1)) (i := (.ireturn, 2, 0, [])) (len := 1) (by decide +kernel) rfl rfl (by decide) ⟨_, rfl, h⟩
  · replace h := h.2 c1
    refine vm_gp [(.iconst 0, 0, 0, [])] (pc1 := 11) (ls1 := [some (vm_r 96), some (vm_i v1), some (vm_i v2)]) (st1 := [vm_i 0]) (m1 := m) (ob := true) (by decide +kernel) rfl rfl ?_
    exact vm_gr (r := some (vm_i 0)) (i := (.ireturn, 2, 0, [])) (len := 1) (by decide +kernel) rfl rfl (by decide) ⟨_, rfl, h⟩
abbrev ku11_isNumber_0 (v1 : Int) (v2 : Int) (m : vm_M) (Q : Int → vm_M → Prop) : Prop := vm_G 224 0 [some (vm_r 96), some (vm_i v1), some (vm_i v2)] [] m (vm_qi Q)
set_option maxRecDepth 20000 in
theorem ru11_isNumber_0 {v1 : Int} {v2 : Int} {m : vm_M} {Q : Int → vm_M → Prop}  (h :
    ((v1 = 0 →
      (vm_C 164 [vm_l v2, vm_l 10, vm_l 9999] m (vm_qi (fun z1 m1 =>
        ((z1 = 0 ∨ z1 = 1)) ∧
        Q z1 m1)))) ∧ (¬ v1 = 0 →
      ((v1 = 1 →
        (vm_C 164 [vm_l v2, vm_l 1, vm_l 9999] m (vm_qi (fun z2 m2 =>
          ((z2 = 0 ∨ z2 = 1)) ∧
          Q z2 m2)))) ∧ (¬ v1 = 1 →
        ((v1 = 2 →
          (vm_C 164 [vm_l v2, vm_l 0, vm_l 99] m (vm_qi (fun z3 m3 =>
            ((z3 = 0 ∨ z3 = 1)) ∧
            Q z3 m3)))) ∧ (¬ v1 = 2 →
          ((v1 = 3 →
            (vm_C 164 [vm_l v2, vm_l 0, vm_l (m 96 3)] m (vm_qi (fun z4 m4 =>
              ((z4 = 0 ∨ z4 = 1)) ∧
              Q z4 m4)))) ∧ (¬ v1 = 3 →
            ((v1 = 4 →
              (vm_C 164 [vm_l v2, vm_l 0, vm_l 99] m (vm_qi (fun z5 m5 =>
                ((z5 = 0 ∨ z5 = 1)) ∧
                Q z5 m5)))) ∧ (¬ v1 = 4 →
              ((v1 = 5 →
                (vm_C 164 [vm_l v2, vm_l 1, vm_l 9] m (vm_qi (fun z6 m6 =>
                  ((z6 = 0 ∨ z6 = 1)) ∧
                  Q z6 m6)))) ∧ (¬ v1 = 5 →
                Q 0 m))))))))))))) : vm_C 224 [vm_r 96, vm_i v1, vm_i v2] m (vm_qi Q) := by
  show vm_G 224 0 [some (vm_r 96), some (vm_i v1), some (vm_i v2)] [] m (vm_qi Q)
  refine vm_gp [(.iload 1, 0, 0, [])] (pc1 := 1) (ls1 := [some (vm_r 96), some (vm_i v1), some (vm_i v2)]) (st1 := [vm_i v1]) (m1 := m) (ob := true) (by decide +kernel) rfl rfl ?_
  by_cases c1 : v1 = 0
  · replace h := h.1 c1
    refine vm_gj1 (i := (.tableswitch 0 0 0 #[], 94, 0, [(0, 40), (1, 52), (2, 62), (3, 72), (4, 62), (5, 84)])) (len := 39) (t := 40) (st1 := []) (by decide +kernel) rfl (by rw [c1]; rfl) ?_
    refine vm_gp [(.iload 2, 0, 0, []), (.i2l, 0, 0, []), (.ldc2_w 0, 0, 0, [(10, 0)]), (.ldc2_w 0, 0, 0, [(9999, 0)])] (pc1 := 48) (ls1 := [some (vm_r 96), some (vm_i v1), some (vm_i v2)]) (st1 := [vm_l 9999, vm_l 10, vm_l v2]) (m1 := m) (ob := true) (by decide +kernel) rfl rfl ?_
    refine vm_gc (g := 164) (na := 3) (av := [vm_l v2, vm_l 10, vm_l 9999]) (rest := []) (i := (.invokestatic 0, 164, 3, [])) (len := 3) (by decide +kernel) rfl rfl rfl (by decide +kernel) (by decide +kernel) rfl rfl (vm_u (vm_okh_s (by decide +kernel)) (show vm_okn 164 3 0 0 0 6 = true by decide +kernel)) ?_
    refine vm_G.mono h ?_
    rintro _ m1 ⟨z1, rfl, h⟩
    show vm_G 224 51 [some (vm_r 96), some (vm_i v1), some (vm_i v2)] [vm_i z1] m1 _
    exact vm_gr (r := some (vm_i z1)) (i := (.ireturn, 2, 0, [])) (len := 1) (by decide +kernel) rfl rfl (decide_eq_true h.1) ⟨_, rfl, h.2⟩
  · replace h := h.2 c1
    by_cases c2 : v1 = 1
    · replace h := h.1 c2
      refine vm_gj1 (i := (.tableswitch 0 0 0 #[], 94, 0, [(0, 40), (1, 52), (2, 62), (3, 72), (4, 62), (5, 84)])) (len := 39) (t := 52) (st1 := []) (by decide +kernel) rfl (by rw [c2]; rfl) ?_
      refine vm_gp [(.iload 2, 0, 0, []), (.i2l, 0, 0, []), (.ldc2_w 0, 0, 0, [(1, 0)]), (.ldc2_w 0, 0, 0, [(9999, 0)])] (pc1 := 58) (ls1 := [some (vm_r 96), some (vm_i v1), some (vm_i v2)]) (st1 := [vm_l 9999, vm_l 1, vm_l v2]) (m1 := m) (ob := true) (by decide +kernel) rfl rfl ?_
      refine vm_gc (g := 164) (na := 3) (av := [vm_l v2, vm_l 1, vm_l 9999]) (rest := []) (i := (.invokestatic 0, 164, 3, [])) (len := 3) (by decide +kernel) rfl rfl rfl (by decide +kernel) (by decide +kernel) rfl rfl (vm_u (vm_okh_s (by decide +kernel)) (show vm_okn 164 3 0 0 0 6 = true by decide +kernel)) ?_
      refine vm_G.mono h ?_
      rintro _ m2 ⟨z2, rfl, h⟩
      show vm_G 224 61 [some (vm_r 96), some (vm_i v1), some (vm_i v2)] [vm_i z2] m2 _
      exact vm_gr (r := some (vm_i z2)) (i := (.ireturn, 2, 0, [])) (len := 1) (by decide +kernel) rfl rfl (decide_eq_true h.1) ⟨_, rfl, h.2⟩
    · replace h := h.2 c2
      by_cases c3 : v1 = 2
      · replace h := h.1 c3
        refine vm_gj1 (i := (.tableswitch 0 0 0 #[], 94, 0, [(0, 40), (1, 52), (2, 62), (3, 72), (4, 62), (5, 84)])) (len := 39) (t := 62) (st1 := []) (by decide +kernel) rfl (by rw [c3]; rfl) ?_
        refine vm_gp [(.iload 2, 0, 0, []), (.i2l, 0, 0, []), (.ldc2_w 0, 0, 0, [(0, 0)]), (.ldc2_w 0, 0, 0, [(99, 0)])] (pc1 := 68) (ls1 := [some (vm_r 96), some (vm_i v1), some (vm_i v2)]) (st1 := [vm_l 99, vm_l 0, vm_l v2]) (m1 := m) (ob := true) (by decide +kernel) rfl rfl ?_
        refine vm_gc (g := 164) (na := 3) (av := [vm_l v2, vm_l 0, vm_l 99]) (rest := []) (i := (.invokestatic 0, 164, 3, [])) (len := 3) (by decide +kernel) rfl rfl rfl (by decide +kernel) (by decide +kernel) rfl rfl (vm_u (vm_okh_s (by decide +kernel)) (show vm_okn 164 3 0 0 0 6 = true by decide +kernel)) ?_
        refine vm_G.mono h ?_
        rintro _ m3 ⟨z3, rfl, h⟩
        show vm_G 224 71 [some (vm_r 96), some (vm_i v1), some (vm_i v2)] [vm_i z3] m3 _
        exact vm_gr (r := some (vm_i z3)) (i := (.ireturn, 2, 0, [])) (len := 1) (by decide +kernel) rfl rfl (decide_eq_true h.1) ⟨_, rfl, h.2⟩
      · replace h := h.2 c3
        by_cases c4 : v1 = 3
        · replace h := h.1 c4
          refine vm_gj1 (i := (.tableswitch 0 0 0 #[], 94, 0, [(0, 40), (1, 52), (2, 62), (3, 72), (4, 62), (5, 84)])) (len := 39) (t := 72) (st1 := []) (by decide +kernel) rfl (by rw [c4]; rfl) ?_
          refine vm_gp [(.iload 2, 0, 0, []), (.i2l, 0, 0, []), (.ldc2_w 0, 0, 0, [(0, 0)]), (.aload 0, 0, 0, []), (.getfield 0, 11, 3, []), (.i2l, 0, 0, [])] (pc1 := 80) (ls1 := [some (vm_r 96), some (vm_i v1), some (vm_i v2)]) (st1 := [vm_l (m 96 3), vm_l 0, vm_l v2]) (m1 := m) (ob := (true && vm_is 96 11)) (by decide +kernel) rfl (vm_u rfl (by decide +kernel)) ?_
          refine vm_gc (g := 164) (na := 3) (av := [vm_l v2, vm_l 0, vm_l (m 96 3)]) (rest := []) (i := (.invokestatic 0, 164, 3, [])) (len := 3) (by decide +kernel) rfl rfl rfl (by decide +kernel) (by decide +kernel) rfl rfl (vm_u (vm_okh_s (by decide +kernel)) (show vm_okn 164 3 0 0 0 6 = true by decide +kernel)) ?_
          refine vm_G.mono h ?_
          rintro _ m4 ⟨z4, rfl, h⟩
          show vm_G 224 83 [some (vm_r 96), some (vm_i v1), some (vm_i v2)] [vm_i z4] m4 _
          exact vm_gr (r := some (vm_i z4)) (i := (.ireturn, 2, 0, [])) (len := 1) (by decide +kernel) rfl rfl (decide_eq_true h.1) ⟨_, rfl, h.2⟩
        · replace h := h.2 c4
          by_cases c5 : v1 = 4
          · replace h := h.1 c5
            refine vm_gj1 (i := (.tableswitch 0 0 0 #[], 94, 0, [(0, 40), (1, 52), (2, 62), (3, 72), (4, 62), (5, 84)])) (len := 39) (t := 62) (st1 := []) (by decide +kernel) rfl (by rw [c5]; rfl) ?_
            refine vm_gp [(.iload 2, 0, 0, []), (.i2l, 0, 0, []), (.ldc2_w 0, 0, 0, [(0, 0)]), (.ldc2_w 0, 0, 0, [(99, 0)])] (pc1 := 68) (ls1 := [some (vm_r 96), some (vm_i v1), some (vm_i v2)]) (st1 := [vm_l 99, vm_l 0, vm_l v2]) (m1 := m) (ob := true) (by decide +kernel) rfl rfl ?_
            refine vm_gc (g := 164) (na := 3) (av := [vm_l v2, vm_l 0, vm_l 99]) (rest := []) (i := (.invokestatic 0, 164, 3, [])) (len := 3) (by decide +kernel) rfl rfl rfl (by decide +kernel) (by decide +kernel) rfl rfl (vm_u (vm_okh_s (by decide +kernel)) (show vm_okn 164 3 0 0 0 6 = true by decide +kernel)) ?_
            refine vm_G.mono h ?_
            rintro _ m5 ⟨z5, rfl, h⟩
            show vm_G 224 71 [some (vm_r 96), some (vm_i v1), some (vm_i v2)] [vm_i z5] m5 _
            exact vm_gr (r := some (vm_i z5)) (i := (.ireturn, 2, 0, [])) (len := 1) (by decide +kernel) rfl rfl (decide_eq_true h.1) ⟨_, rfl, h.2⟩
          · replace h := h.2 c5
            by_cases c6 : v1 = 5
            · replace h := h.1 c6
              refine vm_gj1 (i := (.tableswitch 0 0 0 #[], 94, 0, [(0, 40), (1, 52), (2, 62), (3, 72), (4, 62), (5, 84)])) (len := 39) (t := 84) (st1 := []) (by decide +kernel) rfl (by rw [c6]; rfl) ?_
              refine vm_gp [(.iload 2, 0, 0, []), (.i2l, 0, 0, []), (.ldc2_w 0, 0, 0, [(1, 0)]), (.ldc2_w 0, 0, 0, [(9, 0)])] (pc1 := 90) (ls1 := [some (vm_r 96), some (vm_i v1), some (vm_i v2)]) (st1 := [vm_l 9, vm_l 1, vm_l v2]) (m1 := m) (ob := true) (by decide +kernel) rfl rfl ?_
              refine vm_gc (g := 164) (na := 3) (av := [vm_l v2, vm_l 1, vm_l 9]) (rest := []) (i := (.invokestatic 0, 164, 3, [])) (len := 3) (by decide +kernel) rfl rfl rfl (by decide +kernel) (by decide +kernel) rfl rfl (vm_u (vm_okh_s (by decide +kernel)) (show vm_okn 164 3 0 0 0 6 = true by decide +kernel)) ?_
              refine vm_G.mono h ?_
              rintro _ m6 ⟨z6, rfl, h⟩
              show vm_G 224 93 [some (vm_r 96), some (vm_i v1), some (vm_i v2)] [vm_i z6] m6 _
              exact vm_gr (r := some (vm_i z6)) (i := (.ireturn, 2, 0, [])) (len := 1) (by decide +kernel) rfl rfl (decide_eq_true h.1) ⟨_, rfl, h.2⟩
            · replace h := h.2 c6
              refine vm_gj1 (i := (.tableswitch 0 0 0 #[], 94, 0, [(0, 40), (1, 52), (2, 62), (3, 72), (4, 62), (5, 84)])) (len := 39) (t := 94) (st1 := []) (by decide +kernel) rfl (by simp only [vm_jmp, vm_sw, cond, decide_eq_false c1, decide_eq_false c2, decide_eq_false c3, decide_eq_false c4, decide_eq_false c5, decide_eq_false c6]) ?_
              refine vm_gp [(.iconst 0, 0, 0, [])] (pc1 := 95) (ls1 := [some (vm_r 96), some (vm_i v1), some (vm_i v2)]) (st1 := [vm_i 0]) (m1 := m) (ob := true) (by decide +kernel) rfl rfl ?_
              exact vm_gr (r := some (vm_i 0)) (i := (.ireturn, 2, 0, [])) (len := 1) (by decide +kernel) rfl rfl (by decide) ⟨_, rfl, h⟩
abbrev ku11_setNumber_0 (v1 : Int) (v2 : Int) (m : vm_M) (Q : Int → vm_M → Prop) : Prop := vm_G 225 0 [some (vm_r 96), some (vm_i v1), some (vm_i v2), none] [] m (vm_qi Q)
set_option maxRecDepth 20000 in
theorem ru11_setNumber_0 {v1 : Int} {v2 : Int} {m : vm_M} {Q : Int → vm_M → Prop}  (h :
    (vm_C 224 [vm_r 96, vm_i v1, vm_i v2] m (vm_qi (fun z1 m1 =>
      ((¬ z1 = 0 →
        ((0 ≤ v1 ∧ v1 < 1075)) ∧
        (vm_C 223 [vm_r 96, vm_i v1, vm_i v2] m1 (vm_qi (fun z2 m2 =>
          ((z2 = 0 →
            Q (-2) m2) ∧ (¬ z2 = 0 →
            Q (m1 100 v1) m2)))))) ∧ (¬ ¬ z1 = 0 →
        Q (-1) m1)))))) : vm_C 225 [vm_r 96, vm_i v1, vm_i v2] m (vm_qi Q) := by
  show vm_G 225 0 [some (vm_r 96), some (vm_i v1), some (vm_i v2), none] [] m (vm_qi Q)
  refine vm_gp [(.aload 0, 0, 0, []), (.iload 1, 0, 0, []), (.iload 2, 0, 0, [])] (pc1 := 3) (ls1 := [some (vm_r 96), some (vm_i v1), some (vm_i v2), none]) (st1 := [vm_i v2, vm_i v1, vm_r 96]) (m1 := m) (ob := true) (by decide +kernel) rfl rfl ?_
  refine vm_gc (g := 224) (na := 3) (av := [vm_r 96, vm_i v1, vm_i v2]) (rest := []) (i := (.invokevirtual 0, 224, 3, [])) (len := 3) (by decide +kernel) rfl rfl rfl (by decide +kernel) (by decide +kernel) rfl rfl (vm_u (vm_okh_v (c := 11) (by decide +kernel) (by decide +kernel)) (show vm_okn 224 3 0 0 0 3 = true by decide +kernel)) ?_
  refine vm_G.mono h ?_
  rintro _ m1 ⟨z1, rfl, h⟩
  show vm_G 225 6 [some (vm_r 96), some (vm_i v1), some (vm_i v2), none] [vm_i z1] m1 _
  refine vm_gj (c := ¬ z1 = 0) (t := 11) (e := 9) (i := (.ifCond .ne 0, 11, 0, [])) (len := 3) (st1 := []) (by decide +kernel) rfl rfl (fun c1 => ?_) (fun c1 => ?_)
  · replace h := h.1 c1
    obtain ⟨o3_0, h⟩ := h
    refine vm_gp [(.aload 0, 0, 0, []), (.getfield 2, 11, 7, [(100, 0)]), (.iload 1, 0, 0, []), (.iaload, 1075, 0, []), (.istore 3, 0, 0, []), (.aload 0, 0, 0, []), (.iload 1, 0, 0, []), (.iload 2, 0, 0, [])] (pc1 := 21) (ls1 := [some (vm_r 96), some (vm_i v1), some (vm_i v2), some (vm_i (m1 100 v1))]) (st1 := [vm_i v2, vm_i v1, vm_r 96]) (m1 := m1) (ob := ((((true && vm_is 96 11) && true) && vm_ar 100 100 1075) && decide (0 ≤ v1 ∧ v1 < 1075))) (by decide +kernel) rfl (vm_t (vm_u (vm_u (vm_u rfl (by decide +kernel)) rfl) (by decide +kernel)) o3_0) ?_
    refine vm_gc (g := 223) (na := 3) (av := [vm_r 96, vm_i v1, vm_i v2]) (rest := []) (i := (.invokevirtual 0, 223, 3, [])) (len := 3) (by decide +kernel) rfl rfl rfl (by decide +kernel) (by decide +kernel) rfl rfl (vm_u (vm_okh_v (c := 11) (by decide +kernel) (by decide +kernel)) (show vm_okn 223 3 0 0 0 3 = true by decide +kernel)) ?_
    refine vm_G.mono h ?_
    rintro _ m2 ⟨z2, rfl, h⟩
    show vm_G 225 24 [some (vm_r 96), some (vm_i v1), some (vm_i v2), some (vm_i (m1 100 v1))] [vm_i z2] m2 _
    refine vm_gj (c := z2 = 0) (t := 31) (e := 27) (i := (.ifCond .eq 0, 31, 0, [])) (len := 3) (st1 := []) (by decide +kernel) rfl rfl (fun c2 => ?_) (fun c2 => ?_)
    · replace h := h.1 c2
      refine vm_gp [(.iconst (-2), 0, 0, [])] (pc1 := 33) (ls1 := [some (vm_r 96), some (vm_i v1), some (vm_i v2), some (vm_i (m1 100 v1))]) (st1 := [vm_i (-2)]) (m1 := m2) (ob := true) (by decide +kernel) rfl rfl ?_
      exact vm_gr (r := some (vm_i (-2))) (i := (.ireturn, 1, 0, [])) (len := 1) (by decide +kernel) rfl rfl rfl ⟨_, rfl, h⟩
    · replace h := h.2 c2
      refine vm_gp [(.iload 3, 0, 0, []), (.goto 0, 33, 0, [])] (pc1 := 33) (ls1 := [some (vm_r 96), some (vm_i v1), some (vm_i v2), some (vm_i (m1 100 v1))]) (st1 := [vm_i (m1 100 v1)]) (m1 := m2) (ob := true) (by decide +kernel) rfl rfl ?_
      exact vm_gr (r := some (vm_i (m1 100 v1))) (i := (.ireturn, 1, 0, [])) (len := 1) (by decide +kernel) rfl rfl rfl ⟨_, rfl, h⟩
  · replace h := h.2 c1
    refine vm_gp [(.iconst (-1), 0, 0, [])] (pc1 := 10) (ls1 := [some (vm_r 96), some (vm_i v1), some (vm_i v2), none]) (st1 := [vm_i (-1)]) (m1 := m1) (ob := true) (by decide +kernel) rfl rfl ?_
    exact vm_gr (r := some (vm_i (-1))) (i := (.ireturn, 1, 0, [])) (len := 1) (by decide +kernel) rfl rfl rfl ⟨_, rfl, h⟩
abbrev ku11_correct_0 (v1 : Int) (v2 : Int) (v3 : Int) (m : vm_M) (Q : Int → vm_M → Prop) : Prop := vm_G 226 0 [some (vm_r 96), some (vm_i v1), some (vm_i v2), some (vm_i v3), none] [] m (vm_qi Q)
set_option maxRecDepth 20000 in
theorem ru11_correct_0 {v1 : Int} {v2 : Int} {v3 : Int} {m : vm_M} {Q : Int → vm_M → Prop}  (h :
    (vm_C 165 [vm_r 96, vm_i v1] m (vm_qi (fun z1 m1 =>
      ((z1 = 0 →
        Q (-1) m1) ∧ (¬ z1 = 0 →
        (vm_C 165 [vm_r 96, vm_i v2] m1 (vm_qi (fun z2 m2 =>
          ((z2 = 0 →
            Q (-1) m2) ∧ (¬ z2 = 0 →
            (vm_C 164 [vm_l v3, vm_l (-9), vm_l 9] m2 (vm_qi (fun z3 m3 =>
              ((¬ z3 = 0 →
                (vm_C 172 [vm_r 96, vm_i v1, vm_i v2] m3 (vm_qi (fun z4 m4 =>
                  ((vm_32 (26 * v1)) ∧ (vm_32 (9 + (26 * v1))) ∧ (vm_32 ((9 + (26 * v1)) + v2))) ∧
                  (vm_C 223 [vm_r 96, vm_i ((9 + (26 * v1)) + v2), vm_i v3] m4 (vm_qi (fun z5 m5 =>
                    ((z5 = 0 →
                      Q (-2) m5) ∧ (¬ z5 = 0 →
                      ((vm_32 (z4 + 9))) ∧
                      Q (z4 + 9) m5))))))))) ∧ (¬ ¬ z3 = 0 →
                Q (-1) m3)))))))))))))))) : vm_C 226 [vm_r 96, vm_i v1, vm_i v2, vm_i v3] m (vm_qi Q) := by
  show vm_G 226 0 [some (vm_r 96), some (vm_i v1), some (vm_i v2), some (vm_i v3), none] [] m (vm_qi Q)
  refine vm_gp [(.aload 0, 0, 0, []), (.iload 1, 0, 0, [])] (pc1 := 2) (ls1 := [some (vm_r 96), some (vm_i v1), some (vm_i v2), some (vm_i v3), none]) (st1 := [vm_i v1, vm_r 96]) (m1 := m) (ob := true) (by decide +kernel) rfl rfl ?_
  refine vm_gc (g := 165) (na := 2) (av := [vm_r 96, vm_i v1]) (rest := []) (i := (.invokevirtual 0, 165, 2, [])) (len := 3) (by decide +kernel) rfl rfl rfl (by decide +kernel) (by decide +kernel) rfl rfl (vm_u (vm_okh_v (c := 11) (by decide +kernel) (by decide +kernel)) (show vm_okn 165 2 0 0 0 2 = true by decide +kernel)) ?_
  refine vm_G.mono h ?_
  rintro _ m1 ⟨z1, rfl, h⟩
  show vm_G 226 5 [some (vm_r 96), some (vm_i v1), some (vm_i v2), some (vm_i v3), none] [vm_i z1] m1 _
  refine vm_gj (c := z1 = 0) (t := 30) (e := 8) (i := (.ifCond .eq 0, 30, 0, [])) (len := 3) (st1 := []) (by decide +kernel) rfl rfl (fun c1 => ?_) (fun c1 => ?_)
  · replace h := h.1 c1
    refine vm_gp [(.iconst (-1), 0, 0, [])] (pc1 := 31) (ls1 := [some (vm_r 96), some (vm_i v1), some (vm_i v2), some (vm_i v3), none]) (st1 := [vm_i (-1)]) (m1 := m1) (ob := true) (by decide +kernel) rfl rfl ?_
    exact vm_gr (r := some (vm_i (-1))) (i := (.ireturn, 1, 0, [])) (len := 1) (by decide +kernel) rfl rfl rfl ⟨_, rfl, h⟩
  · replace h := h.2 c1
    refine vm_gp [(.aload 0, 0, 0, []), (.iload 2, 0, 0, [])] (pc1 := 10) (ls1 := [some (vm_r 96), some (vm_i v1), some (vm_i v2), some (vm_i v3), none]) (st1 := [vm_i v2, vm_r 96]) (m1 := m1) (ob := true) (by decide +kernel) rfl rfl ?_
    refine vm_gc (g := 165) (na := 2) (av := [vm_r 96, vm_i v2]) (rest := []) (i := (.invokevirtual 0, 165, 2, [])) (len := 3) (by decide +kernel) rfl rfl rfl (by decide +kernel) (by decide +kernel) rfl rfl (vm_u (vm_okh_v (c := 11) (by decide +kernel) (by decide +kernel)) (show vm_okn 165 2 0 0 0 2 = true by decide +kernel)) ?_
    refine vm_G.mono h ?_
    rintro _ m2 ⟨z2, rfl, h⟩
    show vm_G 226 13 [some (vm_r 96), some (vm_i v1), some (vm_i v2), some (vm_i v3), none] [vm_i z2] m2 _
    refine vm_gj (c := z2 = 0) (t := 30) (e := 16) (i := (.ifCond .eq 0, 30, 0, [])) (len := 3) (st1 := []) (by decide +kernel) rfl rfl (fun c2 => ?_) (fun c2 => ?_)
    · replace h := h.1 c2
      refine vm_gp [(.iconst (-1), 0, 0, [])] (pc1 := 31) (ls1 := [some (vm_r 96), some (vm_i v1), some (vm_i v2), some (vm_i v3), none]) (st1 := [vm_i (-1)]) (m1 := m2) (ob := true) (by decide +kernel) rfl rfl ?_
      exact vm_gr (r := some (vm_i (-1))) (i := (.ireturn, 1, 0, [])) (len := 1) (by decide +kernel) rfl rfl rfl ⟨_, rfl, h⟩
    · replace h := h.2 c2
      refine vm_gp [(.iload 3, 0, 0, []), (.i2l, 0, 0, []), (.ldc2_w 0, 0, 0, [(-9, 0)]), (.ldc2_w 0, 0, 0, [(9, 0)])] (pc1 := 24) (ls1 := [some (vm_r 96), some (vm_i v1), some (vm_i v2), some (vm_i v3), none]) (st1 := [vm_l 9, vm_l (-9), vm_l v3]) (m1 := m2) (ob := true) (by decide +kernel) rfl rfl ?_
      refine vm_gc (g := 164) (na := 3) (av := [vm_l v3, vm_l (-9), vm_l 9]) (rest := []) (i := (.invokestatic 0, 164, 3, [])) (len := 3) (by decide +kernel) rfl rfl rfl (by decide +kernel) (by decide +kernel) rfl rfl (vm_u (vm_okh_s (by decide +kernel)) (show vm_okn 164 3 0 0 0 6 = true by decide +kernel)) ?_
      refine vm_G.mono h ?_
      rintro _ m3 ⟨z3, rfl, h⟩
      show vm_G 226 27 [some (vm_r 96), some (vm_i v1), some (vm_i v2), some (vm_i v3), none] [vm_i z3] m3 _
      refine vm_gj (c := ¬ z3 = 0) (t := 32) (e := 30) (i := (.ifCond .ne 0, 32, 0, [])) (len := 3) (st1 := []) (by decide +kernel) rfl rfl (fun c3 => ?_) (fun c3 => ?_)
      · replace h := h.1 c3
        refine vm_gp [(.aload 0, 0, 0, []), (.iload 1, 0, 0, []), (.iload 2, 0, 0, [])] (pc1 := 35) (ls1 := [some (vm_r 96), some (vm_i v1), some (vm_i v2), some (vm_i v3), none]) (st1 := [vm_i v2, vm_i v1, vm_r 96]) (m1 := m3) (ob := true) (by decide +kernel) rfl rfl ?_
        refine vm_gc (g := 172) (na := 3) (av := [vm_r 96, vm_i v1, vm_i v2]) (rest := []) (i := (.invokevirtual 0, 172, 3, [])) (len := 3) (by decide +kernel) rfl rfl rfl (by decide +kernel) (by decide +kernel) rfl rfl (vm_u (vm_okh_v (c := 11) (by decide +kernel) (by decide +kernel)) (show vm_okn 172 3 0 0 0 3 = true by decide +kernel)) ?_
        refine vm_G.mono h ?_
        rintro _ m4 ⟨z4, rfl, h⟩
        show vm_G 226 38 [some (vm_r 96), some (vm_i v1), some (vm_i v2), some (vm_i v3), none] [vm_i z4] m4 _
        obtain ⟨⟨o10_0, o10_1, o10_2⟩, h⟩ := h
        refine vm_gp [(.istore 4, 0, 0, []), (.aload 0, 0, 0, []), (.iconst 9, 0, 0, []), (.iconst 26, 0, 0, []), (.iload 1, 0, 0, []), (.imul, 0, 0, []), (.iadd, 0, 0, []), (.iload 2, 0, 0, []), (.iadd, 0, 0, []), (.iload 3, 0, 0, [])] (pc1 := 51) (ls1 := [some (vm_r 96), some (vm_i v1), some (vm_i v2), some (vm_i v3), some (vm_i z4)]) (st1 := [vm_i v3, vm_i ((9 + (26 * v1)) + v2), vm_r 96]) (m1 := m4) (ob := (((true && decide (vm_32 (26 * v1))) && decide (vm_32 (9 + (26 * v1)))) && decide (vm_32 ((9 + (26 * v1)) + v2)))) (by decide +kernel) rfl (vm_t (vm_t (vm_t rfl o10_0) o10_1) o10_2) ?_
        refine vm_gc (g := 223) (na := 3) (av := [vm_r 96, vm_i ((9 + (26 * v1)) + v2), vm_i v3]) (rest := []) (i := (.invokevirtual 0, 223, 3, [])) (len := 3) (by decide +kernel) rfl rfl rfl (by decide +kernel) (by decide +kernel) rfl rfl (vm_u (vm_okh_v (c := 11) (by decide +kernel) (by decide +kernel)) (show vm_okn 223 3 0 0 0 3 = true by decide +kernel)) ?_
        refine vm_G.mono h ?_
        rintro _ m5 ⟨z5, rfl, h⟩
        show vm_G 226 54 [some (vm_r 96), some (vm_i v1), some (vm_i v2), some (vm_i v3), some (vm_i z4)] [vm_i z5] m5 _
        refine vm_gj (c := z5 = 0) (t := 65) (e := 57) (i := (.ifCond .eq 0, 65, 0, [])) (len := 3) (st1 := []) (by decide +kernel) rfl rfl (fun c4 => ?_) (fun c4 => ?_)
        · replace h := h.1 c4
          refine vm_gp [(.iconst (-2), 0, 0, [])] (pc1 := 67) (ls1 := [some (vm_r 96), some (vm_i v1), some (vm_i v2), some (vm_i v3), some (vm_i z4)]) (st1 := [vm_i (-2)]) (m1 := m5) (ob := true) (by decide +kernel) rfl rfl ?_
          exact vm_gr (r := some (vm_i (-2))) (i := (.ireturn, 1, 0, [])) (len := 1) (by decide +kernel) rfl rfl rfl ⟨_, rfl, h⟩
        · replace h := h.2 c4
          obtain ⟨o13_0, h⟩ := h
          refine vm_gp [(.iload 4, 0, 0, []), (.iconst 9, 0, 0, []), (.iadd, 0, 0, []), (.goto 0, 67, 0, [])] (pc1 := 67) (ls1 := [some (vm_r 96), some (vm_i v1), some (vm_i v2), some (vm_i v3), some (vm_i z4)]) (st1 := [vm_i (z4 + 9)]) (m1 := m5) (ob := (true && decide (vm_32 (z4 + 9)))) (by decide +kernel) rfl (vm_t rfl o13_0) ?_
          exact vm_gr (r := some (vm_i (z4 + 9))) (i := (.ireturn, 1, 0, [])) (len := 1) (by decide +kernel) rfl rfl rfl ⟨_, rfl, h⟩
      · replace h := h.2 c3
        refine vm_gp [(.iconst (-1), 0, 0, [])] (pc1 := 31) (ls1 := [some (vm_r 96), some (vm_i v1), some (vm_i v2), some (vm_i v3), none]) (st1 := [vm_i (-1)]) (m1 := m3) (ob := true) (by decide +kernel) rfl rfl ?_
        exact vm_gr (r := some (vm_i (-1))) (i := (.ireturn, 1, 0, [])) (len := 1) (by decide +kernel) rfl rfl rfl ⟨_, rfl, h⟩
abbrev ku11_setBreak_0 (v1 : Int) (m : vm_M) (Q : Int → vm_M → Prop) : Prop := vm_G 227 0 [some (vm_r 96), some (vm_i v1)] [] m (vm_qi Q)
set_option maxRecDepth 20000 in
theorem ru11_setBreak_0 {v1 : Int} {m : vm_M} {Q : Int → vm_M → Prop}  (h :
    (vm_C 164 [vm_l v1, vm_l 0, vm_l 1] m (vm_qi (fun z1 m1 =>
      ((¬ z1 = 0 →
        (vm_C 223 [vm_r 96, vm_i 6, vm_i v1] m1 (vm_qi (fun z2 m2 =>
          ((z2 = 0 →
            Q (-2) m2) ∧ (¬ z2 = 0 →
            ((vm_32 (1 - v1))) ∧
            Q (1 - v1) m2)))))) ∧ (¬ ¬ z1 = 0 →
        Q (-1) m1)))))) : vm_C 227 [vm_r 96, vm_i v1] m (vm_qi Q) := by
  show vm_G 227 0 [some (vm_r 96), some (vm_i v1)] [] m (vm_qi Q)
  refine vm_gp [(.iload 1, 0, 0, []), (.i2l, 0, 0, []), (.ldc2_w 0, 0, 0, [(0, 0)]), (.ldc2_w 0, 0, 0, [(1, 0)])] (pc1 := 4) (ls1 := [some (vm_r 96), some (vm_i v1)]) (st1 := [vm_l 1, vm_l 0, vm_l v1]) (m1 := m) (ob := true) (by decide +kernel) rfl rfl ?_
  refine vm_gc (g := 164) (na := 3) (av := [vm_l v1, vm_l 0, vm_l 1]) (rest := []) (i := (.invokestatic 0, 164, 3, [])) (len := 3) (by decide +kernel) rfl rfl rfl (by decide +kernel) (by decide +kernel) rfl rfl (vm_u (vm_okh_s (by decide +kernel)) (show vm_okn 164 3 0 0 0 6 = true by decide +kernel)) ?_
  refine vm_G.mono h ?_
  rintro _ m1 ⟨z1, rfl, h⟩
  show vm_G 227 7 [some (vm_r 96), some (vm_i v1)] [vm_i z1] m1 _
  refine vm_gj (c := ¬ z1 = 0) (t := 12) (e := 10) (i := (.ifCond .ne 0, 12, 0, [])) (len := 3) (st1 := []) (by decide +kernel) rfl rfl (fun c1 => ?_) (fun c1 => ?_)
  · replace h := h.1 c1
    refine vm_gp [(.aload 0, 0, 0, []), (.iconst 6, 0, 0, []), (.iload 1, 0, 0, [])] (pc1 := 16) (ls1 := [some (vm_r 96), some (vm_i v1)]) (st1 := [vm_i v1, vm_i 6, vm_r 96]) (m1 := m1) (ob := true) (by decide +kernel) rfl rfl ?_
    refine vm_gc (g := 223) (na := 3) (av := [vm_r 96, vm_i 6, vm_i v1]) (rest := []) (i := (.invokevirtual 0, 223, 3, [])) (len := 3) (by decide +kernel) rfl rfl rfl (by decide +kernel) (by decide +kernel) rfl rfl (vm_u (vm_okh_v (c := 11) (by decide +kernel) (by decide +kernel)) (show vm_okn 223 3 0 0 0 3 = true by decide +kernel)) ?_
    refine vm_G.mono h ?_
    rintro _ m2 ⟨z2, rfl, h⟩
    show vm_G 227 19 [some (vm_r 96), some (vm_i v1)] [vm_i z2] m2 _
    refine vm_gj (c := z2 = 0) (t := 28) (e := 22) (i := (.ifCond .eq 0, 28, 0, [])) (len := 3) (st1 := []) (by decide +kernel) rfl rfl (fun c2 => ?_) (fun c2 => ?_)
    · replace h := h.1 c2
      refine vm_gp [(.iconst (-2), 0, 0, [])] (pc1 := 30) (ls1 := [some (vm_r 96), some (vm_i v1)]) (st1 := [vm_i (-2)]) (m1 := m2) (ob := true) (by decide +kernel) rfl rfl ?_
      exact vm_gr (r := some (vm_i (-2))) (i := (.ireturn, 1, 0, [])) (len := 1) (by decide +kernel) rfl rfl rfl ⟨_, rfl, h⟩
    · replace h := h.2 c2
      obtain ⟨o6_0, h⟩ := h
      refine vm_gp [(.iconst 1, 0, 0, []), (.iload 1, 0, 0, []), (.isub, 0, 0, []), (.goto 0, 30, 0, [])] (pc1 := 30) (ls1 := [some (vm_r 96), some (vm_i v1)]) (st1 := [vm_i (1 - v1)]) (m1 := m2) (ob := (true && decide (vm_32 (1 - v1)))) (by decide +kernel) rfl (vm_t rfl o6_0) ?_
      exact vm_gr (r := some (vm_i (1 - v1))) (i := (.ireturn, 1, 0, [])) (len := 1) (by decide +kernel) rfl rfl rfl ⟨_, rfl, h⟩
  · replace h := h.2 c1
    refine vm_gp [(.iconst (-1), 0, 0, [])] (pc1 := 11) (ls1 := [some (vm_r 96), some (vm_i v1)]) (st1 := [vm_i (-1)]) (m1 := m1) (ob := true) (by decide +kernel) rfl rfl ?_
    exact vm_gr (r := some (vm_i (-1))) (i := (.ireturn, 1, 0, [])) (len := 1) (by decide +kernel) rfl rfl rfl ⟨_, rfl, h⟩
abbrev ku11_setFill_0 (v1 : Int) (m : vm_M) (Q : Int → vm_M → Prop) : Prop := vm_G 228 0 [some (vm_r 96), some (vm_i v1)] [] m (vm_qi Q)
set_option maxRecDepth 20000 in
theorem ru11_setFill_0 {v1 : Int} {m : vm_M} {Q : Int → vm_M → Prop}  (h :
    ((v1 = 0 →
      (vm_C 223 [vm_r 96, vm_i 7, vm_i 0] m (vm_qi (fun z1 m1 =>
        ((z1 = 0 →
          Q (-2) m1) ∧ (¬ z1 = 0 →
          Q 1 m1)))))) ∧ (¬ v1 = 0 →
      (vm_C 223 [vm_r 96, vm_i 7, vm_i 1] m (vm_qi (fun z2 m2 =>
        ((z2 = 0 →
          Q (-2) m2) ∧ (¬ z2 = 0 →
          Q 1 m2)))))))) : vm_C 228 [vm_r 96, vm_i v1] m (vm_qi Q) := by
  show vm_G 228 0 [some (vm_r 96), some (vm_i v1)] [] m (vm_qi Q)
  refine vm_gp [(.aload 0, 0, 0, []), (.iconst 7, 0, 0, []), (.iload 1, 0, 0, [])] (pc1 := 4) (ls1 := [some (vm_r 96), some (vm_i v1)]) (st1 := [vm_i v1, vm_i 7, vm_r 96]) (m1 := m) (ob := true) (by decide +kernel) rfl rfl ?_
  refine vm_gj (c := v1 = 0) (t := 11) (e := 7) (i := (.ifCond .eq 0, 11, 0, [])) (len := 3) (st1 := [vm_i 7, vm_r 96]) (by decide +kernel) rfl rfl (fun c1 => ?_) (fun c1 => ?_)
  · replace h := h.1 c1
    refine vm_gp [(.iconst 0, 0, 0, [])] (pc1 := 12) (ls1 := [some (vm_r 96), some (vm_i v1)]) (st1 := [vm_i 0, vm_i 7, vm_r 96]) (m1 := m) (ob := true) (by decide +kernel) rfl rfl ?_
    refine vm_gc (g := 223) (na := 3) (av := [vm_r 96, vm_i 7, vm_i 0]) (rest := []) (i := (.invokevirtual 0, 223, 3, [])) (len := 3) (by decide +kernel) rfl rfl rfl (by decide +kernel) (by decide +kernel) rfl rfl (vm_u (vm_okh_v (c := 11) (by decide +kernel) (by decide +kernel)) (show vm_okn 223 3 0 0 0 3 = true by decide +kernel)) ?_
    refine vm_G.mono h ?_
    rintro _ m1 ⟨z1, rfl, h⟩
    show vm_G 228 15 [some (vm_r 96), some (vm_i v1)] [vm_i z1] m1 _
    refine vm_gj (c := z1 = 0) (t := 22) (e := 18) (i := (.ifCond .eq 0, 22, 0, [])) (len := 3) (st1 := []) (by decide +kernel) rfl rfl (fun c2 => ?_) (fun c2 => ?_)
    · replace h := h.1 c2
      refine vm_gp [(.iconst (-2), 0, 0, [])] (pc1 := 24) (ls1 := [some (vm_r 96), some (vm_i v1)]) (st1 := [vm_i (-2)]) (m1 := m1) (ob := true) (by decide +kernel) rfl rfl ?_
      exact vm_gr (r := some (vm_i (-2))) (i := (.ireturn, 1, 0, [])) (len := 1) (by decide +kernel) rfl rfl rfl ⟨_, rfl, h⟩
    · replace h := h.2 c2
      refine vm_gp [(.iconst 1, 0, 0, []), (.goto 0, 24, 0, [])] (pc1 := 24) (ls1 := [some (vm_r 96), some (vm_i v1)]) (st1 := [vm_i 1]) (m1 := m1) (ob := true) (by decide +kernel) rfl rfl ?_
      exact vm_gr (r := some (vm_i 1)) (i := (.ireturn, 1, 0, [])) (len := 1) (by decide +kernel) rfl rfl rfl ⟨_, rfl, h⟩
  · replace h := h.2 c1
    refine vm_gp [(.iconst 1, 0, 0, []), (.goto 0, 12, 0, [])] (pc1 := 12) (ls1 := [some (vm_r 96), some (vm_i v1)]) (st1 := [vm_i 1, vm_i 7, vm_r 96]) (m1 := m) (ob := true) (by decide +kernel) rfl rfl ?_
    refine vm_gc (g := 223) (na := 3) (av := [vm_r 96, vm_i 7, vm_i 1]) (rest := []) (i := (.invokevirtual 0, 223, 3, [])) (len := 3) (by decide +kernel) rfl rfl rfl (by decide +kernel) (by decide +kernel) rfl rfl (vm_u (vm_okh_v (c := 11) (by decide +kernel) (by decide +kernel)) (show vm_okn 223 3 0 0 0 3 = true by decide +kernel)) ?_
    refine vm_G.mono h ?_
    rintro _ m2 ⟨z2, rfl, h⟩
    show vm_G 228 15 [some (vm_r 96), some (vm_i v1)] [vm_i z2] m2 _
    refine vm_gj (c := z2 = 0) (t := 22) (e := 18) (i := (.ifCond .eq 0, 22, 0, [])) (len := 3) (st1 := []) (by decide +kernel) rfl rfl (fun c3 => ?_) (fun c3 => ?_)
    · replace h := h.1 c3
      refine vm_gp [(.iconst (-2), 0, 0, [])] (pc1 := 24) (ls1 := [some (vm_r 96), some (vm_i v1)]) (st1 := [vm_i (-2)]) (m1 := m2) (ob := true) (by decide +kernel) rfl rfl ?_
      exact vm_gr (r := some (vm_i (-2))) (i := (.ireturn, 1, 0, [])) (len := 1) (by decide +kernel) rfl rfl rfl ⟨_, rfl, h⟩
    · replace h := h.2 c3
      refine vm_gp [(.iconst 1, 0, 0, []), (.goto 0, 24, 0, [])] (pc1 := 24) (ls1 := [some (vm_r 96), some (vm_i v1)]) (st1 := [vm_i 1]) (m1 := m2) (ob := true) (by decide +kernel) rfl rfl ?_
      exact vm_gr (r := some (vm_i 1)) (i := (.ireturn, 1, 0, [])) (len := 1) (by decide +kernel) rfl rfl rfl ⟨_, rfl, h⟩
abbrev ku11_exchanges_0 (v1 : Int) (v2 : Int) (m : vm_M) (Q : vm_M → Prop) : Prop := vm_G 229 0 [some (vm_r 96), some (vm_i v1), some (vm_i v2), none] [] m (vm_qv Q)
set_option maxRecDepth 20000 in
theorem ru11_exchanges_0 {v1 : Int} {v2 : Int} {m : vm_M} {Q : vm_M → Prop}  (h :
    ((0 ≤ v1 ∧ v1 < 1075) ∧ (0 ≤ v2 ∧ v2 < 1075) ∧ (0 ≤ v1 ∧ v1 < 1075) ∧ (0 ≤ v2 ∧ v2 < 1075)) ∧
    Q (vm_st (vm_st m 100 v1 (m 100 v2)) 100 v2 (m 100 v1))) : vm_C 229 [vm_r 96, vm_i v1, vm_i v2] m (vm_qv Q) := by
  show vm_G 229 0 [some (vm_r 96), some (vm_i v1), some (vm_i v2), none] [] m (vm_qv Q)
  obtain ⟨⟨o1_0, o1_1, o1_2, o1_3⟩, h⟩ := h
  refine vm_gp [(.aload 0, 0, 0, []), (.getfield 2, 11, 7, [(100, 0)]), (.iload 1, 0, 0, []), (.iaload, 1075, 0, []), (.istore 3, 0, 0, []), (.aload 0, 0, 0, []), (.getfield 2, 11, 7, [(100, 0)]), (.iload 1, 0, 0, []), (.aload 0, 0, 0, []), (.getfield 2, 11, 7, [(100, 0)]), (.iload 2, 0, 0, []), (.iaload, 1075, 0, []), (.iastore, 1075, 0, []), (.aload 0, 0, 0, []), (.getfield 2, 11, 7, [(100, 0)]), (.iload 2, 0, 0, []), (.iload 3, 0, 0, []), (.iastore, 1075, 0, [])] (pc1 := 26) (ls1 := [some (vm_r 96), some (vm_i v1), some (vm_i v2), some (vm_i (m 100 v1))]) (st1 := []) (m1 := (vm_st (vm_st m 100 v1 (m 100 v2)) 100 v2 (m 100 v1))) (ob := ((((((((((((((((true && vm_is 96 11) && true) && vm_ar 100 100 1075) && decide (0 ≤ v1 ∧ v1 < 1075)) && vm_is 96 11) && true) && vm_is 96 11) && true) && vm_ar 100 100 1075) && decide (0 ≤ v2 ∧ v2 < 1075)) && vm_ar 100 100 1075) && decide (0 ≤ v1 ∧ v1 < 1075)) && vm_is 96 11) && true) && vm_ar 100 100 1075) && decide (0 ≤ v2 ∧ v2 < 1075))) (by decide +kernel) rfl (vm_t (vm_u (vm_u (vm_u (vm_t (vm_u (vm_t (vm_u (vm_u (vm_u (vm_u (vm_u (vm_t (vm_u (vm_u (vm_u rfl (by decide +kernel)) rfl) (by decide +kernel)) o1_0) (by decide +kernel)) rfl) (by decide +kernel)) rfl) (by decide +kernel)) o1_1) (by decide +kernel)) o1_2) (by decide +kernel)) rfl) (by decide +kernel)) o1_3) ?_
  exact vm_gr (r := none) (i := (.return_, 0, 0, [])) (len := 1) (by decide +kernel) rfl rfl rfl ⟨rfl, h⟩
abbrev ku11_swap_0 (v1 : Int) (v2 : Int) (m : vm_M) (Q : Int → vm_M → Prop) : Prop := vm_G 230 0 [some (vm_r 96), some (vm_i v1), some (vm_i v2), none] [] m (vm_qi Q)
abbrev ku11_swap_43 (v1 : Int) (v2 : Int) (v3 : Int) (m : vm_M) (Q : Int → vm_M → Prop) : Prop := vm_G 230 43 [some (vm_r 96), some (vm_i v1), some (vm_i v2), some (vm_i v3)] [] m (vm_qi Q)
set_option maxRecDepth 20000 in
theorem ru11_swap_0 {v1 : Int} {v2 : Int} {m : vm_M} {Q : Int → vm_M → Prop}  (h :
    (vm_C 169 [vm_r 96, vm_i v1] m (vm_qi (fun z1 m1 =>
      ((z1 = 0 →
        Q (-1) m1) ∧ (¬ z1 = 0 →
        (vm_C 169 [vm_r 96, vm_i v2] m1 (vm_qi (fun z2 m2 =>
          ((z2 = 0 →
            Q (-1) m2) ∧ (¬ z2 = 0 →
            ((¬ v1 = v2 →
              (vm_C 221 [vm_r 96] m2 (vm_qv (fun m3 =>
                ((vm_32 (685 + v1)) ∧ (vm_32 (685 + v2))) ∧
                (vm_C 229 [vm_r 96, vm_i (685 + v1), vm_i (685 + v2)] m3 (vm_qv (fun m4 =>
                  ku11_swap_43 v1 v2 0 m4 Q))))))) ∧ (¬ ¬ v1 = v2 →
              Q (-1) m2))))))))))))) : vm_C 230 [vm_r 96, vm_i v1, vm_i v2] m (vm_qi Q) := by
  show vm_G 230 0 [some (vm_r 96), some (vm_i v1), some (vm_i v2), none] [] m (vm_qi Q)
  refine vm_gp [(.aload 0, 0, 0, []), (.iload 1, 0, 0, [])] (pc1 := 2) (ls1 := [some (vm_r 96), some (vm_i v1), some (vm_i v2), none]) (st1 := [vm_i v1, vm_r 96]) (m1 := m) (ob := true) (by decide +kernel) rfl rfl ?_
  refine vm_gc (g := 169) (na := 2) (av := [vm_r 96, vm_i v1]) (rest := []) (i := (.invokevirtual 0, 169, 2, [])) (len := 3) (by decide +kernel) rfl rfl rfl (by decide +kernel) (by decide +kernel) rfl rfl (vm_u (vm_okh_v (c := 11) (by decide +kernel) (by decide +kernel)) (show vm_okn 169 2 0 0 0 2 = true by decide +kernel)) ?_
  refine vm_G.mono h ?_
  rintro _ m1 ⟨z1, rfl, h⟩
  show vm_G 230 5 [some (vm_r 96), some (vm_i v1), some (vm_i v2), none] [vm_i z1] m1 _
  refine vm_gj (c := z1 = 0) (t := 21) (e := 8) (i := (.ifCond .eq 0, 21, 0, [])) (len := 3) (st1 := []) (by decide +kernel) rfl rfl (fun c1 => ?_) (fun c1 => ?_)
  · replace h := h.1 c1
    refine vm_gp [(.iconst (-1), 0, 0, [])] (pc1 := 22) (ls1 := [some (vm_r 96), some (vm_i v1), some (vm_i v2), none]) (st1 := [vm_i (-1)]) (m1 := m1) (ob := true) (by decide +kernel) rfl rfl ?_
    exact vm_gr (r := some (vm_i (-1))) (i := (.ireturn, 1, 0, [])) (len := 1) (by decide +kernel) rfl rfl rfl ⟨_, rfl, h⟩
  · replace h := h.2 c1
    refine vm_gp [(.aload 0, 0, 0, []), (.iload 2, 0, 0, [])] (pc1 := 10) (ls1 := [some (vm_r 96), some (vm_i v1), some (vm_i v2), none]) (st1 := [vm_i v2, vm_r 96]) (m1 := m1) (ob := true) (by decide +kernel) rfl rfl ?_
    refine vm_gc (g := 169) (na := 2) (av := [vm_r 96, vm_i v2]) (rest := []) (i := (.invokevirtual 0, 169, 2, [])) (len := 3) (by decide +kernel) rfl rfl rfl (by decide +kernel) (by decide +kernel) rfl rfl (vm_u (vm_okh_v (c := 11) (by decide +kernel) (by decide +kernel)) (show vm_okn 169 2 0 0 0 2 = true by decide +kernel)) ?_
    refine vm_G.mono h ?_
    rintro _ m2 ⟨z2, rfl, h⟩
    show vm_G 230 13 [some (vm_r 96), some (vm_i v1), some (vm_i v2), none] [vm_i z2] m2 _
    refine vm_gj (c := z2 = 0) (t := 21) (e := 16) (i := (.ifCond .eq 0, 21, 0, [])) (len := 3) (st1 := []) (by decide +kernel) rfl rfl (fun c2 => ?_) (fun c2 => ?_)
    · replace h := h.1 c2
      refine vm_gp [(.iconst (-1), 0, 0, [])] (pc1 := 22) (ls1 := [some (vm_r 96), some (vm_i v1), some (vm_i v2), none]) (st1 := [vm_i (-1)]) (m1 := m2) (ob := true) (by decide +kernel) rfl rfl ?_
      exact vm_gr (r := some (vm_i (-1))) (i := (.ireturn, 1, 0, [])) (len := 1) (by decide +kernel) rfl rfl rfl ⟨_, rfl, h⟩
    · replace h := h.2 c2
      refine vm_gp [(.iload 1, 0, 0, []), (.iload 2, 0, 0, [])] (pc1 := 18) (ls1 := [some (vm_r 96), some (vm_i v1), some (vm_i v2), none]) (st1 := [vm_i v2, vm_i v1]) (m1 := m2) (ob := true) (by decide +kernel) rfl rfl ?_
      refine vm_gj (c := ¬ v1 = v2) (t := 23) (e := 21) (i := (.if_icmp .ne 0, 23, 0, [])) (len := 3) (st1 := []) (by decide +kernel) rfl rfl (fun c3 => ?_) (fun c3 => ?_)
      · replace h := h.1 c3
        refine vm_gp [(.aload 0, 0, 0, [])] (pc1 := 24) (ls1 := [some (vm_r 96), some (vm_i v1), some (vm_i v2), none]) (st1 := [vm_r 96]) (m1 := m2) (ob := true) (by decide +kernel) rfl rfl ?_
        refine vm_gc (g := 221) (na := 1) (av := [vm_r 96]) (rest := []) (i := (.invokevirtual 0, 221, 1, [])) (len := 3) (by decide +kernel) rfl rfl rfl (by decide +kernel) (by decide +kernel) rfl rfl (vm_u (vm_okh_v (c := 11) (by decide +kernel) (by decide +kernel)) (show vm_okn 221 1 0 0 0 1 = true by decide +kernel)) ?_
        refine vm_G.mono h ?_
        rintro _ m3 ⟨rfl, h⟩
        show vm_G 230 27 [some (vm_r 96), some (vm_i v1), some (vm_i v2), none] [] m3 _
        obtain ⟨⟨o9_0, o9_1⟩, h⟩ := h
        refine vm_gp [(.aload 0, 0, 0, []), (.iconst 685, 0, 0, []), (.iload 1, 0, 0, []), (.iadd, 0, 0, []), (.iconst 685, 0, 0, []), (.iload 2, 0, 0, []), (.iadd, 0, 0, [])] (pc1 := 38) (ls1 := [some (vm_r 96), some (vm_i v1), some (vm_i v2), none]) (st1 := [vm_i (685 + v2), vm_i (685 + v1), vm_r 96]) (m1 := m3) (ob := ((true && decide (vm_32 (685 + v1))) && decide (vm_32 (685 + v2)))) (by decide +kernel) rfl (vm_t (vm_t rfl o9_0) o9_1) ?_
        refine vm_gc (g := 229) (na := 3) (av := [vm_r 96, vm_i (685 + v1), vm_i (685 + v2)]) (rest := []) (i := (.invokevirtual 0, 229, 3, [])) (len := 3) (by decide +kernel) rfl rfl rfl (by decide +kernel) (by decide +kernel) rfl rfl (vm_u (vm_okh_v (c := 11) (by decide +kernel) (by decide +kernel)) (show vm_okn 229 3 0 0 0 3 = true by decide +kernel)) ?_
        refine vm_G.mono h ?_
        rintro _ m4 ⟨rfl, h⟩
        show vm_G 230 41 [some (vm_r 96), some (vm_i v1), some (vm_i v2), none] [] m4 _
        refine vm_gp [(.iconst 0, 0, 0, []), (.istore 3, 0, 0, [])] (pc1 := 43) (ls1 := [some (vm_r 96), some (vm_i v1), some (vm_i v2), some (vm_i 0)]) (st1 := []) (m1 := m4) (ob := true) (by decide +kernel) rfl rfl ?_
        exact h
      · replace h := h.2 c3
        refine vm_gp [(.iconst (-1), 0, 0, [])] (pc1 := 22) (ls1 := [some (vm_r 96), some (vm_i v1), some (vm_i v2), none]) (st1 := [vm_i (-1)]) (m1 := m2) (ob := true) (by decide +kernel) rfl rfl ?_
        exact vm_gr (r := some (vm_i (-1))) (i := (.ireturn, 1, 0, [])) (len := 1) (by decide +kernel) rfl rfl rfl ⟨_, rfl, h⟩
set_option maxRecDepth 20000 in
theorem ru11_swap_43 {v1 : Int} {v2 : Int} {v3 : Int} {m : vm_M} {Q : Int → vm_M → Prop}  (h :
    ((12 ≤ v3 →
      (vm_C 186 [vm_r 96] m (vm_qv (fun m1 =>
        Q (m1 96 14) m1)))) ∧ (¬ 12 ≤ v3 →
      ((vm_32 (12 * v1)) ∧ (vm_32 (715 + (12 * v1))) ∧ (vm_32 ((715 + (12 * v1)) + v3)) ∧ (vm_32 (12 * v2)) ∧ (vm_32 (715 + (12 * v2))) ∧ (vm_32 ((715 + (12 * v2)) + v3))) ∧
      (vm_C 229 [vm_r 96, vm_i ((715 + (12 * v1)) + v3), vm_i ((715 + (12 * v2)) + v3)] m (vm_qv (fun m2 =>
        ((vm_32 (v3 + 1))) ∧
        ku11_swap_43 v1 v2 (v3 + 1) m2 Q)))))) : ku11_swap_43 v1 v2 v3 m Q := by
  show vm_G 230 43 [some (vm_r 96), some (vm_i v1), some (vm_i v2), some (vm_i v3)] [] m (vm_qi Q)
  refine vm_gp [(.iload 3, 0, 0, []), (.iconst 12, 0, 0, [])] (pc1 := 46) (ls1 := [some (vm_r 96), some (vm_i v1), some (vm_i v2), some (vm_i v3)]) (st1 := [vm_i 12, vm_i v3]) (m1 := m) (ob := true) (by decide +kernel) rfl rfl ?_
  refine vm_gj (c := 12 ≤ v3) (t := 79) (e := 49) (i := (.if_icmp .ge 0, 79, 0, [])) (len := 3) (st1 := []) (by decide +kernel) rfl rfl (fun c1 => ?_) (fun c1 => ?_)
  · replace h := h.1 c1
    refine vm_gp [(.aload 0, 0, 0, [])] (pc1 := 80) (ls1 := [some (vm_r 96), some (vm_i v1), some (vm_i v2), some (vm_i v3)]) (st1 := [vm_r 96]) (m1 := m) (ob := true) (by decide +kernel) rfl rfl ?_
    refine vm_gc (g := 186) (na := 1) (av := [vm_r 96]) (rest := []) (i := (.invokevirtual 0, 186, 1, [])) (len := 3) (by decide +kernel) rfl rfl rfl (by decide +kernel) (by decide +kernel) rfl rfl (vm_u (vm_okh_v (c := 11) (by decide +kernel) (by decide +kernel)) (show vm_okn 186 1 0 0 0 1 = true by decide +kernel)) ?_
    refine vm_G.mono h ?_
    rintro _ m1 ⟨rfl, h⟩
    show vm_G 230 83 [some (vm_r 96), some (vm_i v1), some (vm_i v2), some (vm_i v3)] [] m1 _
    refine vm_gp [(.aload 0, 0, 0, []), (.getfield 0, 11, 14, [])] (pc1 := 87) (ls1 := [some (vm_r 96), some (vm_i v1), some (vm_i v2), some (vm_i v3)]) (st1 := [vm_i (m1 96 14)]) (m1 := m1) (ob := (true && vm_is 96 11)) (by decide +kernel) rfl (vm_u rfl (by decide +kernel)) ?_
    exact vm_gr (r := some (vm_i (m1 96 14))) (i := (.ireturn, 1, 0, [])) (len := 1) (by decide +kernel) rfl rfl rfl ⟨_, rfl, h⟩
  · replace h := h.2 c1
    obtain ⟨⟨o4_0, o4_1, o4_2, o4_3, o4_4, o4_5⟩, h⟩ := h
    refine vm_gp [(.aload 0, 0, 0, []), (.iconst 715, 0, 0, []), (.iconst 12, 0, 0, []), (.iload 1, 0, 0, []), (.imul, 0, 0, []), (.iadd, 0, 0, []), (.iload 3, 0, 0, []), (.iadd, 0, 0, []), (.iconst 715, 0, 0, []), (.iconst 12, 0, 0, []), (.iload 2, 0, 0, []), (.imul, 0, 0, []), (.iadd, 0, 0, []), (.iload 3, 0, 0, []), (.iadd, 0, 0, [])] (pc1 := 70) (ls1 := [some (vm_r 96), some (vm_i v1), some (vm_i v2), some (vm_i v3)]) (st1 := [vm_i ((715 + (12 * v2)) + v3), vm_i ((715 + (12 * v1)) + v3), vm_r 96]) (m1 := m) (ob := ((((((true && decide (vm_32 (12 * v1))) && decide (vm_32 (715 + (12 * v1)))) && decide (vm_32 ((715 + (12 * v1)) + v3))) && decide (vm_32 (12 * v2))) && decide (vm_32 (715 + (12 * v2)))) && decide (vm_32 ((715 + (12 * v2)) + v3)))) (by decide +kernel) rfl (vm_t (vm_t (vm_t (vm_t (vm_t (vm_t rfl o4_0) o4_1) o4_2) o4_3) o4_4) o4_5) ?_
    refine vm_gc (g := 229) (na := 3) (av := [vm_r 96, vm_i ((715 + (12 * v1)) + v3), vm_i ((715 + (12 * v2)) + v3)]) (rest := []) (i := (.invokevirtual 0, 229, 3, [])) (len := 3) (by decide +kernel) rfl rfl rfl (by decide +kernel) (by decide +kernel) rfl rfl (vm_u (vm_okh_v (c := 11) (by decide +kernel) (by decide +kernel)) (show vm_okn 229 3 0 0 0 3 = true by decide +kernel)) ?_
    refine vm_G.mono h ?_
    rintro _ m2 ⟨rfl, h⟩
    show vm_G 230 73 [some (vm_r 96), some (vm_i v1), some (vm_i v2), some (vm_i v3)] [] m2 _
    obtain ⟨o5_0, h⟩ := h
    refine vm_gp [(.iinc 3 1, 0, 0, []), (.goto 0, 43, 0, [])] (pc1 := 43) (ls1 := [some (vm_r 96), some (vm_i v1), some (vm_i v2), some (vm_i (v3 + 1))]) (st1 := []) (m1 := m2) (ob := (true && decide (vm_32 (v3 + 1)))) (by decide +kernel) rfl (vm_t rfl o5_0) ?_
    exact h
abbrev ku11_keep_0 (v1 : Int) (m : vm_M) (Q : Int → vm_M → Prop) : Prop := vm_G 231 0 [some (vm_r 96), some (vm_i v1), none] [] m (vm_qi Q)
abbrev ku11_keep_14 (v1 : Int) (v2 : Int) (m : vm_M) (Q : Int → vm_M → Prop) : Prop := vm_G 231 14 [some (vm_r 96), some (vm_i v1), some (vm_i v2)] [] m (vm_qi Q)
set_option maxRecDepth 20000 in
theorem ru11_keep_0 {v1 : Int} {m : vm_M} {Q : Int → vm_M → Prop}  (h :
    (vm_C 164 [vm_l v1, vm_l 0, vm_l 1] m (vm_qi (fun z1 m1 =>
      ((¬ z1 = 0 →
        ku11_keep_14 v1 0 m1 Q) ∧ (¬ ¬ z1 = 0 →
        Q (-1) m1)))))) : vm_C 231 [vm_r 96, vm_i v1] m (vm_qi Q) := by
  show vm_G 231 0 [some (vm_r 96), some (vm_i v1), none] [] m (vm_qi Q)
  refine vm_gp [(.iload 1, 0, 0, []), (.i2l, 0, 0, []), (.ldc2_w 0, 0, 0, [(0, 0)]), (.ldc2_w 0, 0, 0, [(1, 0)])] (pc1 := 4) (ls1 := [some (vm_r 96), some (vm_i v1), none]) (st1 := [vm_l 1, vm_l 0, vm_l v1]) (m1 := m) (ob := true) (by decide +kernel) rfl rfl ?_
  refine vm_gc (g := 164) (na := 3) (av := [vm_l v1, vm_l 0, vm_l 1]) (rest := []) (i := (.invokestatic 0, 164, 3, [])) (len := 3) (by decide +kernel) rfl rfl rfl (by decide +kernel) (by decide +kernel) rfl rfl (vm_u (vm_okh_s (by decide +kernel)) (show vm_okn 164 3 0 0 0 6 = true by decide +kernel)) ?_
  refine vm_G.mono h ?_
  rintro _ m1 ⟨z1, rfl, h⟩
  show vm_G 231 7 [some (vm_r 96), some (vm_i v1), none] [vm_i z1] m1 _
  refine vm_gj (c := ¬ z1 = 0) (t := 12) (e := 10) (i := (.ifCond .ne 0, 12, 0, [])) (len := 3) (st1 := []) (by decide +kernel) rfl rfl (fun c1 => ?_) (fun c1 => ?_)
  · replace h := h.1 c1
    refine vm_gp [(.iconst 0, 0, 0, []), (.istore 2, 0, 0, [])] (pc1 := 14) (ls1 := [some (vm_r 96), some (vm_i v1), some (vm_i 0)]) (st1 := []) (m1 := m1) (ob := true) (by decide +kernel) rfl rfl ?_
    exact h
  · replace h := h.2 c1
    refine vm_gp [(.iconst (-1), 0, 0, [])] (pc1 := 11) (ls1 := [some (vm_r 96), some (vm_i v1), none]) (st1 := [vm_i (-1)]) (m1 := m1) (ob := true) (by decide +kernel) rfl rfl ?_
    exact vm_gr (r := some (vm_i (-1))) (i := (.ireturn, 1, 0, [])) (len := 1) (by decide +kernel) rfl rfl rfl ⟨_, rfl, h⟩
set_option maxRecDepth 20000 in
theorem ru11_keep_14 {v1 : Int} {v2 : Int} {m : vm_M} {Q : Int → vm_M → Prop}  (h :
    ((1075 ≤ v2 →
      ((0 ≤ v1 ∧ v1 < 2)) ∧
      Q ((vm_st m 103 v1 1) 100 8) (vm_st m 103 v1 1)) ∧ (¬ 1075 ≤ v2 →
      ((vm_32 (1075 * v1)) ∧ (vm_32 ((1075 * v1) + v2)) ∧ (0 ≤ v2 ∧ v2 < 1075) ∧ (0 ≤ ((1075 * v1) + v2) ∧ ((1075 * v1) + v2) < 2150) ∧ (vm_32 (v2 + 1))) ∧
      ku11_keep_14 v1 (v2 + 1) (vm_st m 102 ((1075 * v1) + v2) (m 100 v2)) Q))) : ku11_keep_14 v1 v2 m Q := by
  show vm_G 231 14 [some (vm_r 96), some (vm_i v1), some (vm_i v2)] [] m (vm_qi Q)
  refine vm_gp [(.iload 2, 0, 0, []), (.iconst 1075, 0, 0, [])] (pc1 := 18) (ls1 := [some (vm_r 96), some (vm_i v1), some (vm_i v2)]) (st1 := [vm_i 1075, vm_i v2]) (m1 := m) (ob := true) (by decide +kernel) rfl rfl ?_
  refine vm_gj (c := 1075 ≤ v2) (t := 45) (e := 21) (i := (.if_icmp .ge 0, 45, 0, [])) (len := 3) (st1 := []) (by decide +kernel) rfl rfl (fun c1 => ?_) (fun c1 => ?_)
  · replace h := h.1 c1
    obtain ⟨o2_0, h⟩ := h
    refine vm_gp [(.aload 0, 0, 0, []), (.getfield 2, 11, 10, [(103, 0)]), (.iload 1, 0, 0, []), (.iconst 1, 0, 0, []), (.bastore, 2, 102, []), (.aload 0, 0, 0, []), (.getfield 2, 11, 7, [(100, 0)]), (.iconst 8, 0, 0, []), (.iaload, 1075, 0, [])] (pc1 := 59) (ls1 := [some (vm_r 96), some (vm_i v1), some (vm_i v2)]) (st1 := [vm_i ((vm_st m 103 v1 1) 100 8)]) (m1 := (vm_st m 103 v1 1)) (ob := (((((((((true && vm_is 96 11) && true) && vm_ar 103 102 2) && decide (0 ≤ v1 ∧ v1 < 2)) && decide ((1 : Int) = 0 ∨ (1 : Int) = 1)) && vm_is 96 11) && true) && vm_ar 100 100 1075) && decide ((0 : Int) ≤ 8 ∧ (8 : Int) < 1075))) (by decide +kernel) rfl (vm_t (vm_u (vm_u (vm_u (vm_t (vm_t (vm_u (vm_u (vm_u rfl (by decide +kernel)) rfl) (by decide +kernel)) o2_0) (by decide)) (by decide +kernel)) rfl) (by decide +kernel)) (by decide)) ?_
    exact vm_gr (r := some (vm_i ((vm_st m 103 v1 1) 100 8))) (i := (.ireturn, 1, 0, [])) (len := 1) (by decide +kernel) rfl rfl rfl ⟨_, rfl, h⟩
  · replace h := h.2 c1
    obtain ⟨⟨o3_0, o3_1, o3_2, o3_3, o3_4⟩, h⟩ := h
    refine vm_gp [(.aload 0, 0, 0, []), (.getfield 2, 11, 9, [(102, 0)]), (.iconst 1075, 0, 0, []), (.iload 1, 0, 0, []), (.imul, 0, 0, []), (.iload 2, 0, 0, []), (.iadd, 0, 0, []), (.aload 0, 0, 0, []), (.getfield 2, 11, 7, [(100, 0)]), (.iload 2, 0, 0, []), (.iaload, 1075, 0, []), (.iastore, 2150, 0, []), (.iinc 2 1, 0, 0, []), (.goto 0, 14, 0, [])] (pc1 := 14) (ls1 := [some (vm_r 96), some (vm_i v1), some (vm_i (v2 + 1))]) (st1 := []) (m1 := (vm_st m 102 ((1075 * v1) + v2) (m 100 v2))) (ob := (((((((((((true && vm_is 96 11) && true) && decide (vm_32 (1075 * v1))) && decide (vm_32 ((1075 * v1) + v2))) && vm_is 96 11) && true) && vm_ar 100 100 1075) && decide (0 ≤ v2 ∧ v2 < 1075)) && vm_ar 102 100 2150) && decide (0 ≤ ((1075 * v1) + v2) ∧ ((1075 * v1) + v2) < 2150)) && decide (vm_32 (v2 + 1)))) (by decide +kernel) rfl (vm_t (vm_t (vm_u (vm_t (vm_u (vm_u (vm_u (vm_t (vm_t (vm_u (vm_u rfl (by decide +kernel)) rfl) o3_0) o3_1) (by decide +kernel)) rfl) (by decide +kernel)) o3_2) (by decide +kernel)) o3_3) o3_4) ?_
    exact h
