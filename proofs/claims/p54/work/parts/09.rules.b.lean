/-! ===== rules (printed): what must hold so that a method, begun at a cut, comes to a good end ===== -/
abbrev ku10_append_0 (v1 : Int) (v2 : Int) (v3 : Int) (v4 : Int) (v5 : Int) (m : vm_M) (Q : Int → vm_M → Prop) : Prop := vm_G 101 0 [some (vm_r 0), some (vm_i v1), some (vm_i v2), some (vm_i v3), some (vm_i v4), some (vm_i v5)] [] m (vm_qi Q)
set_option maxRecDepth 20000 in
theorem ru10_append_0 {v1 : Int} {v2 : Int} {v3 : Int} {v4 : Int} {v5 : Int} {m : vm_M} {Q : Int → vm_M → Prop}  (h :
    (vm_C 83 [vm_r 1, vm_i 20] m (vm_qi (fun z1 m1 =>
      ((¬ z1 = 0 →
        (vm_C 84 [vm_r 1, vm_i v1] m1 (vm_qv (fun m2 =>
          (vm_C 84 [vm_r 1, vm_i v2] m2 (vm_qv (fun m3 =>
            (vm_C 84 [vm_r 1, vm_i v3] m3 (vm_qv (fun m4 =>
              (vm_C 84 [vm_r 1, vm_i v4] m4 (vm_qv (fun m5 =>
                (vm_C 84 [vm_r 1, vm_i v5] m5 (vm_qv (fun m6 =>
                  Q (m6 1 1) m6)))))))))))))))) ∧ (¬ ¬ z1 = 0 →
        Q (-1) m1)))))) : vm_C 101 [vm_r 0, vm_i v1, vm_i v2, vm_i v3, vm_i v4, vm_i v5] m (vm_qi Q) := by
  show vm_G 101 0 [some (vm_r 0), some (vm_i v1), some (vm_i v2), some (vm_i v3), some (vm_i v4), some (vm_i v5)] [] m (vm_qi Q)
  refine vm_gp [(.aload 0, 0, 0, []), (.getfield 2, 10, 0, [(1, 0)]), (.iconst 20, 0, 0, [])] (pc1 := 6) (ls1 := [some (vm_r 0), some (vm_i v1), some (vm_i v2), some (vm_i v3), some (vm_i v4), some (vm_i v5)]) (st1 := [vm_i 20, vm_r 1]) (m1 := m) (ob := ((true && vm_is 0 10) && true)) (by decide +kernel) rfl (vm_u (vm_u rfl (by decide +kernel)) rfl) ?_
  refine vm_gc (g := 83) (na := 2) (av := [vm_r 1, vm_i 20]) (rest := []) (i := (.invokevirtual 0, 83, 2, [])) (len := 3) (by decide +kernel) rfl rfl rfl (by decide +kernel) (by decide +kernel) rfl rfl (vm_u (vm_okh_v (c := 7) (by decide +kernel) (by decide +kernel)) (show vm_okn 83 2 0 0 0 2 = true by decide +kernel)) ?_
  refine vm_G.mono h ?_
  rintro _ m1 ⟨z1, rfl, h⟩
  show vm_G 101 9 [some (vm_r 0), some (vm_i v1), some (vm_i v2), some (vm_i v3), some (vm_i v4), some (vm_i v5)] [vm_i z1] m1 _
  refine vm_gj (c := ¬ z1 = 0) (t := 14) (e := 12) (i := (.ifCond .ne 0, 14, 0, [])) (len := 3) (st1 := []) (by decide +kernel) rfl rfl (fun c1 => ?_) (fun c1 => ?_)
  · replace h := h.1 c1
    refine vm_gp [(.aload 0, 0, 0, []), (.getfield 2, 10, 0, [(1, 0)]), (.iload 1, 0, 0, [])] (pc1 := 19) (ls1 := [some (vm_r 0), some (vm_i v1), some (vm_i v2), some (vm_i v3), some (vm_i v4), some (vm_i v5)]) (st1 := [vm_i v1, vm_r 1]) (m1 := m1) (ob := ((true && vm_is 0 10) && true)) (by decide +kernel) rfl (vm_u (vm_u rfl (by decide +kernel)) rfl) ?_
    refine vm_gc (g := 84) (na := 2) (av := [vm_r 1, vm_i v1]) (rest := []) (i := (.invokevirtual 0, 84, 2, [])) (len := 3) (by decide +kernel) rfl rfl rfl (by decide +kernel) (by decide +kernel) rfl rfl (vm_u (vm_okh_v (c := 7) (by decide +kernel) (by decide +kernel)) (show vm_okn 84 2 0 0 0 2 = true by decide +kernel)) ?_
    refine vm_G.mono h ?_
    rintro _ m2 ⟨rfl, h⟩
    show vm_G 101 22 [some (vm_r 0), some (vm_i v1), some (vm_i v2), some (vm_i v3), some (vm_i v4), some (vm_i v5)] [] m2 _
    refine vm_gp [(.aload 0, 0, 0, []), (.getfield 2, 10, 0, [(1, 0)]), (.iload 2, 0, 0, [])] (pc1 := 27) (ls1 := [some (vm_r 0), some (vm_i v1), some (vm_i v2), some (vm_i v3), some (vm_i v4), some (vm_i v5)]) (st1 := [vm_i v2, vm_r 1]) (m1 := m2) (ob := ((true && vm_is 0 10) && true)) (by decide +kernel) rfl (vm_u (vm_u rfl (by decide +kernel)) rfl) ?_
    refine vm_gc (g := 84) (na := 2) (av := [vm_r 1, vm_i v2]) (rest := []) (i := (.invokevirtual 0, 84, 2, [])) (len := 3) (by decide +kernel) rfl rfl rfl (by decide +kernel) (by decide +kernel) rfl rfl (vm_u (vm_okh_v (c := 7) (by decide +kernel) (by decide +kernel)) (show vm_okn 84 2 0 0 0 2 = true by decide +kernel)) ?_
    refine vm_G.mono h ?_
    rintro _ m3 ⟨rfl, h⟩
    show vm_G 101 30 [some (vm_r 0), some (vm_i v1), some (vm_i v2), some (vm_i v3), some (vm_i v4), some (vm_i v5)] [] m3 _
    refine vm_gp [(.aload 0, 0, 0, []), (.getfield 2, 10, 0, [(1, 0)]), (.iload 3, 0, 0, [])] (pc1 := 35) (ls1 := [some (vm_r 0), some (vm_i v1), some (vm_i v2), some (vm_i v3), some (vm_i v4), some (vm_i v5)]) (st1 := [vm_i v3, vm_r 1]) (m1 := m3) (ob := ((true && vm_is 0 10) && true)) (by decide +kernel) rfl (vm_u (vm_u rfl (by decide +kernel)) rfl) ?_
    refine vm_gc (g := 84) (na := 2) (av := [vm_r 1, vm_i v3]) (rest := []) (i := (.invokevirtual 0, 84, 2, [])) (len := 3) (by decide +kernel) rfl rfl rfl (by decide +kernel) (by decide +kernel) rfl rfl (vm_u (vm_okh_v (c := 7) (by decide +kernel) (by decide +kernel)) (show vm_okn 84 2 0 0 0 2 = true by decide +kernel)) ?_
    refine vm_G.mono h ?_
    rintro _ m4 ⟨rfl, h⟩
    show vm_G 101 38 [some (vm_r 0), some (vm_i v1), some (vm_i v2), some (vm_i v3), some (vm_i v4), some (vm_i v5)] [] m4 _
    refine vm_gp [(.aload 0, 0, 0, []), (.getfield 2, 10, 0, [(1, 0)]), (.iload 4, 0, 0, [])] (pc1 := 44) (ls1 := [some (vm_r 0), some (vm_i v1), some (vm_i v2), some (vm_i v3), some (vm_i v4), some (vm_i v5)]) (st1 := [vm_i v4, vm_r 1]) (m1 := m4) (ob := ((true && vm_is 0 10) && true)) (by decide +kernel) rfl (vm_u (vm_u rfl (by decide +kernel)) rfl) ?_
    refine vm_gc (g := 84) (na := 2) (av := [vm_r 1, vm_i v4]) (rest := []) (i := (.invokevirtual 0, 84, 2, [])) (len := 3) (by decide +kernel) rfl rfl rfl (by decide +kernel) (by decide +kernel) rfl rfl (vm_u (vm_okh_v (c := 7) (by decide +kernel) (by decide +kernel)) (show vm_okn 84 2 0 0 0 2 = true by decide +kernel)) ?_
    refine vm_G.mono h ?_
    rintro _ m5 ⟨rfl, h⟩
    show vm_G 101 47 [some (vm_r 0), some (vm_i v1), some (vm_i v2), some (vm_i v3), some (vm_i v4), some (vm_i v5)] [] m5 _
    refine vm_gp [(.aload 0, 0, 0, []), (.getfield 2, 10, 0, [(1, 0)]), (.iload 5, 0, 0, [])] (pc1 := 53) (ls1 := [some (vm_r 0), some (vm_i v1), some (vm_i v2), some (vm_i v3), some (vm_i v4), some (vm_i v5)]) (st1 := [vm_i v5, vm_r 1]) (m1 := m5) (ob := ((true && vm_is 0 10) && true)) (by decide +kernel) rfl (vm_u (vm_u rfl (by decide +kernel)) rfl) ?_
    refine vm_gc (g := 84) (na := 2) (av := [vm_r 1, vm_i v5]) (rest := []) (i := (.invokevirtual 0, 84, 2, [])) (len := 3) (by decide +kernel) rfl rfl rfl (by decide +kernel) (by decide +kernel) rfl rfl (vm_u (vm_okh_v (c := 7) (by decide +kernel) (by decide +kernel)) (show vm_okn 84 2 0 0 0 2 = true by decide +kernel)) ?_
    refine vm_G.mono h ?_
    rintro _ m6 ⟨rfl, h⟩
    show vm_G 101 56 [some (vm_r 0), some (vm_i v1), some (vm_i v2), some (vm_i v3), some (vm_i v4), some (vm_i v5)] [] m6 _
    refine vm_gp [(.aload 0, 0, 0, []), (.getfield 2, 10, 0, [(1, 0)]), (.getfield 0, 7, 1, [])] (pc1 := 63) (ls1 := [some (vm_r 0), some (vm_i v1), some (vm_i v2), some (vm_i v3), some (vm_i v4), some (vm_i v5)]) (st1 := [vm_i (m6 1 1)]) (m1 := m6) (ob := (((true && vm_is 0 10) && true) && vm_is 1 7)) (by decide +kernel) rfl (vm_u (vm_u (vm_u rfl (by decide +kernel)) rfl) (by decide +kernel)) ?_
    exact vm_gr (r := some (vm_i (m6 1 1))) (i := (.ireturn, 1, 0, [])) (len := 1) (by decide +kernel) rfl rfl rfl ⟨_, rfl, h⟩
  · replace h := h.2 c1
    refine vm_gp [(.iconst (-1), 0, 0, [])] (pc1 := 13) (ls1 := [some (vm_r 0), some (vm_i v1), some (vm_i v2), some (vm_i v3), some (vm_i v4), some (vm_i v5)]) (st1 := [vm_i (-1)]) (m1 := m1) (ob := true) (by decide +kernel) rfl rfl ?_
    exact vm_gr (r := some (vm_i (-1))) (i := (.ireturn, 1, 0, [])) (len := 1) (by decide +kernel) rfl rfl rfl ⟨_, rfl, h⟩
abbrev ku10_truncate_0 (v1 : Int) (m : vm_M) (Q : Int → vm_M → Prop) : Prop := vm_G 102 0 [some (vm_r 0), some (vm_i v1)] [] m (vm_qi Q)
set_option maxRecDepth 20000 in
theorem ru10_truncate_0 {v1 : Int} {m : vm_M} {Q : Int → vm_M → Prop}  (h :
    ((v1 < 0 →
      Q (-1) m) ∧ (¬ v1 < 0 →
      ((v1 ≤ (m 1 1) →
        ((vm_32 ((m 1 1) - v1))) ∧
        Q ((vm_st m 1 1 ((m 1 1) - v1)) 1 1) (vm_st m 1 1 ((m 1 1) - v1))) ∧ (¬ v1 ≤ (m 1 1) →
        Q (-1) m))))) : vm_C 102 [vm_r 0, vm_i v1] m (vm_qi Q) := by
  show vm_G 102 0 [some (vm_r 0), some (vm_i v1)] [] m (vm_qi Q)
  refine vm_gp [(.iload 1, 0, 0, [])] (pc1 := 1) (ls1 := [some (vm_r 0), some (vm_i v1)]) (st1 := [vm_i v1]) (m1 := m) (ob := true) (by decide +kernel) rfl rfl ?_
  refine vm_gj (c := v1 < 0) (t := 15) (e := 4) (i := (.ifCond .lt 0, 15, 0, [])) (len := 3) (st1 := []) (by decide +kernel) rfl rfl (fun c1 => ?_) (fun c1 => ?_)
  · replace h := h.1 c1
    refine vm_gp [(.iconst (-1), 0, 0, [])] (pc1 := 16) (ls1 := [some (vm_r 0), some (vm_i v1)]) (st1 := [vm_i (-1)]) (m1 := m) (ob := true) (by decide +kernel) rfl rfl ?_
    exact vm_gr (r := some (vm_i (-1))) (i := (.ireturn, 1, 0, [])) (len := 1) (by decide +kernel) rfl rfl rfl ⟨_, rfl, h⟩
  · replace h := h.2 c1
    refine vm_gp [(.iload 1, 0, 0, []), (.aload 0, 0, 0, []), (.getfield 2, 10, 0, [(1, 0)]), (.getfield 0, 7, 1, [])] (pc1 := 12) (ls1 := [some (vm_r 0), some (vm_i v1)]) (st1 := [vm_i (m 1 1), vm_i v1]) (m1 := m) (ob := (((true && vm_is 0 10) && true) && vm_is 1 7)) (by decide +kernel) rfl (vm_u (vm_u (vm_u rfl (by decide +kernel)) rfl) (by decide +kernel)) ?_
    refine vm_gj (c := v1 ≤ (m 1 1)) (t := 17) (e := 15) (i := (.if_icmp .le 0, 17, 0, [])) (len := 3) (st1 := []) (by decide +kernel) rfl rfl (fun c2 => ?_) (fun c2 => ?_)
    · replace h := h.1 c2
      obtain ⟨o4_0, h⟩ := h
      refine vm_gp [(.aload 0, 0, 0, []), (.getfield 2, 10, 0, [(1, 0)]), (.dup, 0, 0, []), (.getfield 0, 7, 1, []), (.iload 1, 0, 0, []), (.isub, 0, 0, []), (.putfield 0, 7, 1, []), (.aload 0, 0, 0, []), (.getfield 2, 10, 0, [(1, 0)]), (.getfield 0, 7, 1, [])] (pc1 := 37) (ls1 := [some (vm_r 0), some (vm_i v1)]) (st1 := [vm_i ((vm_st m 1 1 ((m 1 1) - v1)) 1 1)]) (m1 := (vm_st m 1 1 ((m 1 1) - v1))) (ob := ((((((((true && vm_is 0 10) && true) && vm_is 1 7) && decide (vm_32 ((m 1 1) - v1))) && vm_is 1 7) && vm_is 0 10) && true) && vm_is 1 7)) (by decide +kernel) rfl (vm_u (vm_u (vm_u (vm_u (vm_t (vm_u (vm_u (vm_u rfl (by decide +kernel)) rfl) (by decide +kernel)) o4_0) (by decide +kernel)) (by decide +kernel)) rfl) (by decide +kernel)) ?_
      exact vm_gr (r := some (vm_i ((vm_st m 1 1 ((m 1 1) - v1)) 1 1))) (i := (.ireturn, 1, 0, [])) (len := 1) (by decide +kernel) rfl rfl rfl ⟨_, rfl, h⟩
    · replace h := h.2 c2
      refine vm_gp [(.iconst (-1), 0, 0, [])] (pc1 := 16) (ls1 := [some (vm_r 0), some (vm_i v1)]) (st1 := [vm_i (-1)]) (m1 := m) (ob := true) (by decide +kernel) rfl rfl ?_
      exact vm_gr (r := some (vm_i (-1))) (i := (.ireturn, 1, 0, [])) (len := 1) (by decide +kernel) rfl rfl rfl ⟨_, rfl, h⟩
abbrev ku10_load_0  (m : vm_M) (Q : Int → vm_M → Prop) : Prop := vm_G 103 0 [some (vm_r 0), none, none] [] m (vm_qi Q)
abbrev ku10_load_73 (v1 : Int) (v2 : Int) (m : vm_M) (Q : Int → vm_M → Prop) : Prop := vm_G 103 73 [some (vm_r 0), some (vm_i v1), some (vm_i v2)] [] m (vm_qi Q)
set_option maxRecDepth 20000 in
theorem ru10_load_0  {m : vm_M} {Q : Int → vm_M → Prop}  (h :
    (vm_C 67 [vm_r 19] m (vm_qi (fun z1 m1 =>
      ((z1 = 0 →
        (vm_C 66 [vm_r 19] m1 (vm_qi (fun z2 m2 =>
          ((¬ z1 = 0 →
            (vm_C 1 [vm_r 3, vm_r 6] (vm_st (vm_st m2 0 14 z2) 1 1 0) (vm_qv (fun m3 =>
              (vm_C 54 [vm_r 9, vm_r 14] m3 (vm_qv (fun m4 =>
                (vm_C 37 [vm_r 21] m4 (vm_qv (fun m5 =>
                  ku10_load_73 z1 0 m5 Q)))))))))) ∧ (¬ ¬ z1 = 0 →
            Q (-1) (vm_st (vm_st m2 0 14 z2) 1 1 0))))))) ∧ (¬ z1 = 0 →
        ((¬ z1 = 0 →
          (vm_C 1 [vm_r 3, vm_r 6] (vm_st (vm_st m1 0 14 (-2)) 1 1 0) (vm_qv (fun m6 =>
            (vm_C 54 [vm_r 9, vm_r 14] m6 (vm_qv (fun m7 =>
              (vm_C 37 [vm_r 21] m7 (vm_qv (fun m8 =>
                ku10_load_73 z1 0 m8 Q)))))))))) ∧ (¬ ¬ z1 = 0 →
          Q (-1) (vm_st (vm_st m1 0 14 (-2)) 1 1 0))))))))) : vm_C 103 [vm_r 0] m (vm_qi Q) := by
  show vm_G 103 0 [some (vm_r 0), none, none] [] m (vm_qi Q)
  refine vm_gp [(.aload 0, 0, 0, []), (.getfield 2, 10, 5, [(19, 0)])] (pc1 := 4) (ls1 := [some (vm_r 0), none, none]) (st1 := [vm_r 19]) (m1 := m) (ob := ((true && vm_is 0 10) && true)) (by decide +kernel) rfl (vm_u (vm_u rfl (by decide +kernel)) rfl) ?_
  refine vm_gc (g := 67) (na := 1) (av := [vm_r 19]) (rest := []) (i := (.invokevirtual 0, 67, 1, [])) (len := 3) (by decide +kernel) rfl rfl rfl (by decide +kernel) (by decide +kernel) rfl rfl (vm_u (vm_okh_v (c := 5) (by decide +kernel) (by decide +kernel)) (show vm_okn 67 1 0 0 0 1 = true by decide +kernel)) ?_
  refine vm_G.mono h ?_
  rintro _ m1 ⟨z1, rfl, h⟩
  show vm_G 103 7 [some (vm_r 0), none, none] [vm_i z1] m1 _
  refine vm_gp [(.istore 1, 0, 0, []), (.aload 0, 0, 0, []), (.iload 1, 0, 0, [])] (pc1 := 10) (ls1 := [some (vm_r 0), some (vm_i z1), none]) (st1 := [vm_i z1, vm_r 0]) (m1 := m1) (ob := true) (by decide +kernel) rfl rfl ?_
  refine vm_gj (c := z1 = 0) (t := 18) (e := 13) (i := (.ifCond .eq 0, 18, 0, [])) (len := 3) (st1 := [vm_r 0]) (by decide +kernel) rfl rfl (fun c1 => ?_) (fun c1 => ?_)
  · replace h := h.1 c1
    refine vm_gp [(.aload 0, 0, 0, []), (.getfield 2, 10, 5, [(19, 0)])] (pc1 := 22) (ls1 := [some (vm_r 0), some (vm_i z1), none]) (st1 := [vm_r 19, vm_r 0]) (m1 := m1) (ob := ((true && vm_is 0 10) && true)) (by decide +kernel) rfl (vm_u (vm_u rfl (by decide +kernel)) rfl) ?_
    refine vm_gc (g := 66) (na := 1) (av := [vm_r 19]) (rest := [vm_r 0]) (i := (.invokevirtual 0, 66, 1, [])) (len := 3) (by decide +kernel) rfl rfl rfl (by decide +kernel) (by decide +kernel) rfl rfl (vm_u (vm_okh_v (c := 5) (by decide +kernel) (by decide +kernel)) (show vm_okn 66 1 1 0 0 1 = true by decide +kernel)) ?_
    refine vm_G.mono h ?_
    rintro _ m2 ⟨z2, rfl, h⟩
    show vm_G 103 25 [some (vm_r 0), some (vm_i z1), none] [vm_i z2, vm_r 0] m2 _
    refine vm_gp [(.putfield 0, 10, 14, []), (.aload 0, 0, 0, []), (.getfield 2, 10, 0, [(1, 0)]), (.iconst 0, 0, 0, []), (.putfield 0, 7, 1, []), (.iload 1, 0, 0, [])] (pc1 := 37) (ls1 := [some (vm_r 0), some (vm_i z1), none]) (st1 := [vm_i z1]) (m1 := (vm_st (vm_st m2 0 14 z2) 1 1 0)) (ob := ((((true && vm_is 0 10) && vm_is 0 10) && true) && vm_is 1 7)) (by decide +kernel) rfl (vm_u (vm_u (vm_u (vm_u rfl (by decide +kernel)) (by decide +kernel)) rfl) (by decide +kernel)) ?_
    refine vm_gj (c := ¬ z1 = 0) (t := 42) (e := 40) (i := (.ifCond .ne 0, 42, 0, [])) (len := 3) (st1 := []) (by decide +kernel) rfl rfl (fun c2 => ?_) (fun c2 => ?_)
    · replace h := h.1 c2
      refine vm_gp [(.aload 0, 0, 0, []), (.getfield 2, 10, 1, [(3, 0)]), (.aload 0, 0, 0, []), (.getfield 2, 10, 2, [(6, 0)])] (pc1 := 50) (ls1 := [some (vm_r 0), some (vm_i z1), none]) (st1 := [vm_r 6, vm_r 3]) (m1 := (vm_st (vm_st m2 0 14 z2) 1 1 0)) (ob := ((((true && vm_is 0 10) && true) && vm_is 0 10) && true)) (by decide +kernel) rfl (vm_u (vm_u (vm_u (vm_u rfl (by decide +kernel)) rfl) (by decide +kernel)) rfl) ?_
      refine vm_gc (g := 1) (na := 2) (av := [vm_r 3, vm_r 6]) (rest := []) (i := (.invokevirtual 0, 1, 2, [])) (len := 3) (by decide +kernel) rfl rfl rfl (by decide +kernel) (by decide +kernel) rfl rfl (vm_u (vm_okh_v (c := 0) (by decide +kernel) (by decide +kernel)) (show vm_okn 1 2 0 0 0 2 = true by decide +kernel)) ?_
      refine vm_G.mono h ?_
      rintro _ m3 ⟨rfl, h⟩
      show vm_G 103 53 [some (vm_r 0), some (vm_i z1), none] [] m3 _
      refine vm_gp [(.aload 0, 0, 0, []), (.getfield 2, 10, 3, [(9, 0)]), (.aload 0, 0, 0, []), (.getfield 2, 10, 4, [(14, 0)])] (pc1 := 61) (ls1 := [some (vm_r 0), some (vm_i z1), none]) (st1 := [vm_r 14, vm_r 9]) (m1 := m3) (ob := ((((true && vm_is 0 10) && true) && vm_is 0 10) && true)) (by decide +kernel) rfl (vm_u (vm_u (vm_u (vm_u rfl (by decide +kernel)) rfl) (by decide +kernel)) rfl) ?_
      refine vm_gc (g := 54) (na := 2) (av := [vm_r 9, vm_r 14]) (rest := []) (i := (.invokevirtual 0, 54, 2, [])) (len := 3) (by decide +kernel) rfl rfl rfl (by decide +kernel) (by decide +kernel) rfl rfl (vm_u (vm_okh_v (c := 4) (by decide +kernel) (by decide +kernel)) (show vm_okn 54 2 0 0 0 2 = true by decide +kernel)) ?_
      refine vm_G.mono h ?_
      rintro _ m4 ⟨rfl, h⟩
      show vm_G 103 64 [some (vm_r 0), some (vm_i z1), none] [] m4 _
      refine vm_gp [(.aload 0, 0, 0, []), (.getfield 2, 10, 6, [(21, 0)])] (pc1 := 68) (ls1 := [some (vm_r 0), some (vm_i z1), none]) (st1 := [vm_r 21]) (m1 := m4) (ob := ((true && vm_is 0 10) && true)) (by decide +kernel) rfl (vm_u (vm_u rfl (by decide +kernel)) rfl) ?_
      refine vm_gc (g := 37) (na := 1) (av := [vm_r 21]) (rest := []) (i := (.invokevirtual 0, 37, 1, [])) (len := 3) (by decide +kernel) rfl rfl rfl (by decide +kernel) (by decide +kernel) rfl rfl (vm_u (vm_okh_v (c := 2) (by decide +kernel) (by decide +kernel)) (show vm_okn 37 1 0 0 0 1 = true by decide +kernel)) ?_
      refine vm_G.mono h ?_
      rintro _ m5 ⟨rfl, h⟩
      show vm_G 103 71 [some (vm_r 0), some (vm_i z1), none] [] m5 _
      refine vm_gp [(.iconst 0, 0, 0, []), (.istore 2, 0, 0, [])] (pc1 := 73) (ls1 := [some (vm_r 0), some (vm_i z1), some (vm_i 0)]) (st1 := []) (m1 := m5) (ob := true) (by decide +kernel) rfl rfl ?_
      exact h
    · replace h := h.2 c2
      refine vm_gp [(.iconst (-1), 0, 0, [])] (pc1 := 41) (ls1 := [some (vm_r 0), some (vm_i z1), none]) (st1 := [vm_i (-1)]) (m1 := (vm_st (vm_st m2 0 14 z2) 1 1 0)) (ob := true) (by decide +kernel) rfl rfl ?_
      exact vm_gr (r := some (vm_i (-1))) (i := (.ireturn, 1, 0, [])) (len := 1) (by decide +kernel) rfl rfl rfl ⟨_, rfl, h⟩
  · replace h := h.2 c1
    refine vm_gp [(.iconst (-2), 0, 0, []), (.goto 0, 25, 0, []), (.putfield 0, 10, 14, []), (.aload 0, 0, 0, []), (.getfield 2, 10, 0, [(1, 0)]), (.iconst 0, 0, 0, []), (.putfield 0, 7, 1, []), (.iload 1, 0, 0, [])] (pc1 := 37) (ls1 := [some (vm_r 0), some (vm_i z1), none]) (st1 := [vm_i z1]) (m1 := (vm_st (vm_st m1 0 14 (-2)) 1 1 0)) (ob := ((((true && vm_is 0 10) && vm_is 0 10) && true) && vm_is 1 7)) (by decide +kernel) rfl (vm_u (vm_u (vm_u (vm_u rfl (by decide +kernel)) (by decide +kernel)) rfl) (by decide +kernel)) ?_
    refine vm_gj (c := ¬ z1 = 0) (t := 42) (e := 40) (i := (.ifCond .ne 0, 42, 0, [])) (len := 3) (st1 := []) (by decide +kernel) rfl rfl (fun c3 => ?_) (fun c3 => ?_)
    · replace h := h.1 c3
      refine vm_gp [(.aload 0, 0, 0, []), (.getfield 2, 10, 1, [(3, 0)]), (.aload 0, 0, 0, []), (.getfield 2, 10, 2, [(6, 0)])] (pc1 := 50) (ls1 := [some (vm_r 0), some (vm_i z1), none]) (st1 := [vm_r 6, vm_r 3]) (m1 := (vm_st (vm_st m1 0 14 (-2)) 1 1 0)) (ob := ((((true && vm_is 0 10) && true) && vm_is 0 10) && true)) (by decide +kernel) rfl (vm_u (vm_u (vm_u (vm_u rfl (by decide +kernel)) rfl) (by decide +kernel)) rfl) ?_
      refine vm_gc (g := 1) (na := 2) (av := [vm_r 3, vm_r 6]) (rest := []) (i := (.invokevirtual 0, 1, 2, [])) (len := 3) (by decide +kernel) rfl rfl rfl (by decide +kernel) (by decide +kernel) rfl rfl (vm_u (vm_okh_v (c := 0) (by decide +kernel) (by decide +kernel)) (show vm_okn 1 2 0 0 0 2 = true by decide +kernel)) ?_
      refine vm_G.mono h ?_
      rintro _ m6 ⟨rfl, h⟩
      show vm_G 103 53 [some (vm_r 0), some (vm_i z1), none] [] m6 _
      refine vm_gp [(.aload 0, 0, 0, []), (.getfield 2, 10, 3, [(9, 0)]), (.aload 0, 0, 0, []), (.getfield 2, 10, 4, [(14, 0)])] (pc1 := 61) (ls1 := [some (vm_r 0), some (vm_i z1), none]) (st1 := [vm_r 14, vm_r 9]) (m1 := m6) (ob := ((((true && vm_is 0 10) && true) && vm_is 0 10) && true)) (by decide +kernel) rfl (vm_u (vm_u (vm_u (vm_u rfl (by decide +kernel)) rfl) (by decide +kernel)) rfl) ?_
      refine vm_gc (g := 54) (na := 2) (av := [vm_r 9, vm_r 14]) (rest := []) (i := (.invokevirtual 0, 54, 2, [])) (len := 3) (by decide +kernel) rfl rfl rfl (by decide +kernel) (by decide +kernel) rfl rfl (vm_u (vm_okh_v (c := 4) (by decide +kernel) (by decide +kernel)) (show vm_okn 54 2 0 0 0 2 = true by decide +kernel)) ?_
      refine vm_G.mono h ?_
      rintro _ m7 ⟨rfl, h⟩
      show vm_G 103 64 [some (vm_r 0), some (vm_i z1), none] [] m7 _
      refine vm_gp [(.aload 0, 0, 0, []), (.getfield 2, 10, 6, [(21, 0)])] (pc1 := 68) (ls1 := [some (vm_r 0), some (vm_i z1), none]) (st1 := [vm_r 21]) (m1 := m7) (ob := ((true && vm_is 0 10) && true)) (by decide +kernel) rfl (vm_u (vm_u rfl (by decide +kernel)) rfl) ?_
      refine vm_gc (g := 37) (na := 1) (av := [vm_r 21]) (rest := []) (i := (.invokevirtual 0, 37, 1, [])) (len := 3) (by decide +kernel) rfl rfl rfl (by decide +kernel) (by decide +kernel) rfl rfl (vm_u (vm_okh_v (c := 2) (by decide +kernel) (by decide +kernel)) (show vm_okn 37 1 0 0 0 1 = true by decide +kernel)) ?_
      refine vm_G.mono h ?_
      rintro _ m8 ⟨rfl, h⟩
      show vm_G 103 71 [some (vm_r 0), some (vm_i z1), none] [] m8 _
      refine vm_gp [(.iconst 0, 0, 0, []), (.istore 2, 0, 0, [])] (pc1 := 73) (ls1 := [some (vm_r 0), some (vm_i z1), some (vm_i 0)]) (st1 := []) (m1 := m8) (ob := true) (by decide +kernel) rfl rfl ?_
      exact h
    · replace h := h.2 c3
      refine vm_gp [(.iconst (-1), 0, 0, [])] (pc1 := 41) (ls1 := [some (vm_r 0), some (vm_i z1), none]) (st1 := [vm_i (-1)]) (m1 := (vm_st (vm_st m1 0 14 (-2)) 1 1 0)) (ob := true) (by decide +kernel) rfl rfl ?_
      exact vm_gr (r := some (vm_i (-1))) (i := (.ireturn, 1, 0, [])) (len := 1) (by decide +kernel) rfl rfl rfl ⟨_, rfl, h⟩
set_option maxRecDepth 20000 in
theorem ru10_load_73 {v1 : Int} {v2 : Int} {m : vm_M} {Q : Int → vm_M → Prop}  (h :
    ((2 ≤ v2 →
      Q ((vm_st m 0 15 0) 3 3) (vm_st m 0 15 0)) ∧ (¬ 2 ≤ v2 →
      ((0 ≤ v2 ∧ v2 < 2) ∧ (vm_32 (v2 + 1))) ∧
      ku10_load_73 v1 (v2 + 1) (vm_st m 64 v2 0) Q))) : ku10_load_73 v1 v2 m Q := by
  show vm_G 103 73 [some (vm_r 0), some (vm_i v1), some (vm_i v2)] [] m (vm_qi Q)
  refine vm_gp [(.iload 2, 0, 0, []), (.iconst 2, 0, 0, [])] (pc1 := 75) (ls1 := [some (vm_r 0), some (vm_i v1), some (vm_i v2)]) (st1 := [vm_i 2, vm_i v2]) (m1 := m) (ob := true) (by decide +kernel) rfl rfl ?_
  refine vm_gj (c := 2 ≤ v2) (t := 91) (e := 78) (i := (.if_icmp .ge 0, 91, 0, [])) (len := 3) (st1 := []) (by decide +kernel) rfl rfl (fun c1 => ?_) (fun c1 => ?_)
  · replace h := h.1 c1
    refine vm_gp [(.aload 0, 0, 0, []), (.iconst 0, 0, 0, []), (.putfield 3, 10, 15, []), (.aload 0, 0, 0, []), (.getfield 2, 10, 1, [(3, 0)]), (.getfield 0, 0, 3, [])] (pc1 := 103) (ls1 := [some (vm_r 0), some (vm_i v1), some (vm_i v2)]) (st1 := [vm_i ((vm_st m 0 15 0) 3 3)]) (m1 := (vm_st m 0 15 0)) (ob := (((((true && vm_is 0 10) && decide ((0 : Int) = 0 ∨ (0 : Int) = 1)) && vm_is 0 10) && true) && vm_is 3 0)) (by decide +kernel) rfl (vm_u (vm_u (vm_u (vm_t (vm_u rfl (by decide +kernel)) (by decide)) (by decide +kernel)) rfl) (by decide +kernel)) ?_
    exact vm_gr (r := some (vm_i ((vm_st m 0 15 0) 3 3))) (i := (.ireturn, 1, 0, [])) (len := 1) (by decide +kernel) rfl rfl rfl ⟨_, rfl, h⟩
  · replace h := h.2 c1
    obtain ⟨⟨o3_0, o3_1⟩, h⟩ := h
    refine vm_gp [(.aload 0, 0, 0, []), (.getfield 2, 10, 8, [(64, 0)]), (.iload 2, 0, 0, []), (.iconst 0, 0, 0, []), (.bastore, 2, 102, []), (.iinc 2 1, 0, 0, []), (.goto 0, 73, 0, [])] (pc1 := 73) (ls1 := [some (vm_r 0), some (vm_i v1), some (vm_i (v2 + 1))]) (st1 := []) (m1 := (vm_st m 64 v2 0)) (ob := ((((((true && vm_is 0 10) && true) && vm_ar 64 102 2) && decide (0 ≤ v2 ∧ v2 < 2)) && decide ((0 : Int) = 0 ∨ (0 : Int) = 1)) && decide (vm_32 (v2 + 1)))) (by decide +kernel) rfl (vm_t (vm_t (vm_t (vm_u (vm_u (vm_u rfl (by decide +kernel)) rfl) (by decide +kernel)) o3_0) (by decide)) o3_1) ?_
    exact h
abbrev ku10_errorPosition_0  (m : vm_M) (Q : Int → vm_M → Prop) : Prop := vm_G 104 0 [some (vm_r 0)] [] m (vm_qi Q)
set_option maxRecDepth 20000 in
theorem ru10_errorPosition_0  {m : vm_M} {Q : Int → vm_M → Prop}  (h :
    Q (m 0 14) m) : vm_C 104 [vm_r 0] m (vm_qi Q) := by
  show vm_G 104 0 [some (vm_r 0)] [] m (vm_qi Q)
  refine vm_gp [(.aload 0, 0, 0, []), (.getfield 0, 10, 14, [])] (pc1 := 4) (ls1 := [some (vm_r 0)]) (st1 := [vm_i (m 0 14)]) (m1 := m) (ob := (true && vm_is 0 10)) (by decide +kernel) rfl (vm_u rfl (by decide +kernel)) ?_
  exact vm_gr (r := some (vm_i (m 0 14))) (i := (.ireturn, 1, 0, [])) (len := 1) (by decide +kernel) rfl rfl rfl ⟨_, rfl, h⟩
abbrev ku10_say_0  (m : vm_M) (Q : Int → vm_M → Prop) : Prop := vm_G 105 0 [some (vm_r 0)] [] m (vm_qi Q)
set_option maxRecDepth 20000 in
theorem ru10_say_0  {m : vm_M} {Q : Int → vm_M → Prop}  (h :
    (vm_C 54 [vm_r 14, vm_r 9] m (vm_qv (fun m1 =>
      (vm_C 63 [vm_r 14, vm_r 1, vm_r 3] m1 (vm_qi (fun z2 m2 =>
        ((((vm_st (vm_st m2 0 14 z2) 1 1 0) 0 14) = (-2) →
          (vm_C 114 [vm_r 0] (vm_st (vm_st m2 0 14 z2) 1 1 0) (vm_qv (fun m3 =>
            (vm_C 54 [vm_r 9, vm_r 14] m3 (vm_qv (fun m4 =>
              Q (m4 9 6) m4))))))) ∧ (¬ ((vm_st (vm_st m2 0 14 z2) 1 1 0) 0 14) = (-2) →
          Q (-1) (vm_st (vm_st m2 0 14 z2) 1 1 0)))))))))) : vm_C 105 [vm_r 0] m (vm_qi Q) := by
  show vm_G 105 0 [some (vm_r 0)] [] m (vm_qi Q)
  refine vm_gp [(.aload 0, 0, 0, []), (.getfield 2, 10, 4, [(14, 0)]), (.aload 0, 0, 0, []), (.getfield 2, 10, 3, [(9, 0)])] (pc1 := 8) (ls1 := [some (vm_r 0)]) (st1 := [vm_r 9, vm_r 14]) (m1 := m) (ob := ((((true && vm_is 0 10) && true) && vm_is 0 10) && true)) (by decide +kernel) rfl (vm_u (vm_u (vm_u (vm_u rfl (by decide +kernel)) rfl) (by decide +kernel)) rfl) ?_
  refine vm_gc (g := 54) (na := 2) (av := [vm_r 14, vm_r 9]) (rest := []) (i := (.invokevirtual 0, 54, 2, [])) (len := 3) (by decide +kernel) rfl rfl rfl (by decide +kernel) (by decide +kernel) rfl rfl (vm_u (vm_okh_v (c := 4) (by decide +kernel) (by decide +kernel)) (show vm_okn 54 2 0 0 0 2 = true by decide +kernel)) ?_
  refine vm_G.mono h ?_
  rintro _ m1 ⟨rfl, h⟩
  show vm_G 105 11 [some (vm_r 0)] [] m1 _
  refine vm_gp [(.aload 0, 0, 0, []), (.aload 0, 0, 0, []), (.getfield 2, 10, 4, [(14, 0)]), (.aload 0, 0, 0, []), (.getfield 2, 10, 0, [(1, 0)]), (.aload 0, 0, 0, []), (.getfield 2, 10, 1, [(3, 0)])] (pc1 := 24) (ls1 := [some (vm_r 0)]) (st1 := [vm_r 3, vm_r 1, vm_r 14, vm_r 0]) (m1 := m1) (ob := ((((((true && vm_is 0 10) && true) && vm_is 0 10) && true) && vm_is 0 10) && true)) (by decide +kernel) rfl (vm_u (vm_u (vm_u (vm_u (vm_u (vm_u rfl (by decide +kernel)) rfl) (by decide +kernel)) rfl) (by decide +kernel)) rfl) ?_
  refine vm_gc (g := 63) (na := 3) (av := [vm_r 14, vm_r 1, vm_r 3]) (rest := [vm_r 0]) (i := (.invokevirtual 0, 63, 3, [])) (len := 3) (by decide +kernel) rfl rfl rfl (by decide +kernel) (by decide +kernel) rfl rfl (vm_u (vm_okh_v (c := 4) (by decide +kernel) (by decide +kernel)) (show vm_okn 63 3 1 0 0 3 = true by decide +kernel)) ?_
  refine vm_G.mono h ?_
  rintro _ m2 ⟨z2, rfl, h⟩
  show vm_G 105 27 [some (vm_r 0)] [vm_i z2, vm_r 0] m2 _
  refine vm_gp [(.putfield 0, 10, 14, []), (.aload 0, 0, 0, []), (.getfield 2, 10, 0, [(1, 0)]), (.iconst 0, 0, 0, []), (.putfield 0, 7, 1, []), (.aload 0, 0, 0, []), (.getfield 0, 10, 14, []), (.iconst (-2), 0, 0, [])] (pc1 := 44) (ls1 := [some (vm_r 0)]) (st1 := [vm_i (-2), vm_i ((vm_st (vm_st m2 0 14 z2) 1 1 0) 0 14)]) (m1 := (vm_st (vm_st m2 0 14 z2) 1 1 0)) (ob := (((((true && vm_is 0 10) && vm_is 0 10) && true) && vm_is 1 7) && vm_is 0 10)) (by decide +kernel) rfl (vm_u (vm_u (vm_u (vm_u (vm_u rfl (by decide +kernel)) (by decide +kernel)) rfl) (by decide +kernel)) (by decide +kernel)) ?_
  refine vm_gj (c := ((vm_st (vm_st m2 0 14 z2) 1 1 0) 0 14) = (-2)) (t := 49) (e := 47) (i := (.if_icmp .eq 0, 49, 0, [])) (len := 3) (st1 := []) (by decide +kernel) rfl rfl (fun c1 => ?_) (fun c1 => ?_)
  · replace h := h.1 c1
    refine vm_gp [(.aload 0, 0, 0, [])] (pc1 := 50) (ls1 := [some (vm_r 0)]) (st1 := [vm_r 0]) (m1 := (vm_st (vm_st m2 0 14 z2) 1 1 0)) (ob := true) (by decide +kernel) rfl rfl ?_
    refine vm_gc (g := 114) (na := 1) (av := [vm_r 0]) (rest := []) (i := (.invokevirtual 0, 114, 1, [])) (len := 3) (by decide +kernel) rfl rfl rfl (by decide +kernel) (by decide +kernel) rfl rfl (vm_u (vm_okh_v (c := 10) (by decide +kernel) (by decide +kernel)) (show vm_okn 114 1 0 0 0 1 = true by decide +kernel)) ?_
    refine vm_G.mono h ?_
    rintro _ m3 ⟨rfl, h⟩
    show vm_G 105 53 [some (vm_r 0)] [] m3 _
    refine vm_gp [(.aload 0, 0, 0, []), (.getfield 2, 10, 3, [(9, 0)]), (.aload 0, 0, 0, []), (.getfield 2, 10, 4, [(14, 0)])] (pc1 := 61) (ls1 := [some (vm_r 0)]) (st1 := [vm_r 14, vm_r 9]) (m1 := m3) (ob := ((((true && vm_is 0 10) && true) && vm_is 0 10) && true)) (by decide +kernel) rfl (vm_u (vm_u (vm_u (vm_u rfl (by decide +kernel)) rfl) (by decide +kernel)) rfl) ?_
    refine vm_gc (g := 54) (na := 2) (av := [vm_r 9, vm_r 14]) (rest := []) (i := (.invokevirtual 0, 54, 2, [])) (len := 3) (by decide +kernel) rfl rfl rfl (by decide +kernel) (by decide +kernel) rfl rfl (vm_u (vm_okh_v (c := 4) (by decide +kernel) (by decide +kernel)) (show vm_okn 54 2 0 0 0 2 = true by decide +kernel)) ?_
    refine vm_G.mono h ?_
    rintro _ m4 ⟨rfl, h⟩
    show vm_G 105 64 [some (vm_r 0)] [] m4 _
    refine vm_gp [(.aload 0, 0, 0, []), (.getfield 2, 10, 3, [(9, 0)]), (.getfield 0, 4, 6, [])] (pc1 := 71) (ls1 := [some (vm_r 0)]) (st1 := [vm_i (m4 9 6)]) (m1 := m4) (ob := (((true && vm_is 0 10) && true) && vm_is 9 4)) (by decide +kernel) rfl (vm_u (vm_u (vm_u rfl (by decide +kernel)) rfl) (by decide +kernel)) ?_
    exact vm_gr (r := some (vm_i (m4 9 6))) (i := (.ireturn, 1, 0, [])) (len := 1) (by decide +kernel) rfl rfl rfl ⟨_, rfl, h⟩
  · replace h := h.2 c1
    refine vm_gp [(.iconst (-1), 0, 0, [])] (pc1 := 48) (ls1 := [some (vm_r 0)]) (st1 := [vm_i (-1)]) (m1 := (vm_st (vm_st m2 0 14 z2) 1 1 0)) (ob := true) (by decide +kernel) rfl rfl ?_
    exact vm_gr (r := some (vm_i (-1))) (i := (.ireturn, 1, 0, [])) (len := 1) (by decide +kernel) rfl rfl rfl ⟨_, rfl, h⟩
abbrev ku10_setNumber_0 (v1 : Int) (v2 : Int) (m : vm_M) (Q : Int → vm_M → Prop) : Prop := vm_G 106 0 [some (vm_r 0), some (vm_i v1), some (vm_i v2), none, none] [] m (vm_qi Q)
set_option maxRecDepth 20000 in
theorem ru10_setNumber_0 {v1 : Int} {v2 : Int} {m : vm_M} {Q : Int → vm_M → Prop}  (h :
    ((v1 < 0 →
      Q (-1) m) ∧ (¬ v1 < 0 →
      ((v1 < 6 →
        ((¬ v1 = 3 →
          ((0 ≤ v1 ∧ v1 < 6) ∧ (0 ≤ v1 ∧ v1 < 6)) ∧
          ((v2 < (m 900 v1) →
            Q (-1) m) ∧ (¬ v2 < (m 900 v1) →
            ((v2 ≤ (m 901 v1) →
              ((0 ≤ v1 ∧ v1 < 6)) ∧
              ((¬ (m 10 v1) = v2 →
                (vm_C 114 [vm_r 0] m (vm_qv (fun m1 =>
                  ((0 ≤ v1 ∧ v1 < 6)) ∧
                  Q (m 10 v1) (vm_st m1 10 v1 v2))))) ∧ (¬ ¬ (m 10 v1) = v2 →
                Q (-2) m))) ∧ (¬ v2 ≤ (m 901 v1) →
              Q (-1) m))))) ∧ (¬ ¬ v1 = 3 →
          ((0 ≤ v1 ∧ v1 < 6)) ∧
          ((v2 < (m 900 v1) →
            Q (-1) m) ∧ (¬ v2 < (m 900 v1) →
            ((v2 ≤ (m 3 2) →
              ((0 ≤ v1 ∧ v1 < 6)) ∧
              ((¬ (m 10 v1) = v2 →
                (vm_C 114 [vm_r 0] m (vm_qv (fun m2 =>
                  ((0 ≤ v1 ∧ v1 < 6)) ∧
                  Q (m 10 v1) (vm_st m2 10 v1 v2))))) ∧ (¬ ¬ (m 10 v1) = v2 →
                Q (-2) m))) ∧ (¬ v2 ≤ (m 3 2) →
              Q (-1) m))))))) ∧ (¬ v1 < 6 →
        Q (-1) m))))) : vm_C 106 [vm_r 0, vm_i v1, vm_i v2] m (vm_qi Q) := by
  show vm_G 106 0 [some (vm_r 0), some (vm_i v1), some (vm_i v2), none, none] [] m (vm_qi Q)
  refine vm_gp [(.iload 1, 0, 0, [])] (pc1 := 1) (ls1 := [some (vm_r 0), some (vm_i v1), some (vm_i v2), none, none]) (st1 := [vm_i v1]) (m1 := m) (ob := true) (by decide +kernel) rfl rfl ?_
  refine vm_gj (c := v1 < 0) (t := 10) (e := 4) (i := (.ifCond .lt 0, 10, 0, [])) (len := 3) (st1 := []) (by decide +kernel) rfl rfl (fun c1 => ?_) (fun c1 => ?_)
  · replace h := h.1 c1
    refine vm_gp [(.iconst (-1), 0, 0, [])] (pc1 := 11) (ls1 := [some (vm_r 0), some (vm_i v1), some (vm_i v2), none, none]) (st1 := [vm_i (-1)]) (m1 := m) (ob := true) (by decide +kernel) rfl rfl ?_
    exact vm_gr (r := some (vm_i (-1))) (i := (.ireturn, 1, 0, [])) (len := 1) (by decide +kernel) rfl rfl rfl ⟨_, rfl, h⟩
  · replace h := h.2 c1
    refine vm_gp [(.iload 1, 0, 0, []), (.iconst 6, 0, 0, [])] (pc1 := 7) (ls1 := [some (vm_r 0), some (vm_i v1), some (vm_i v2), none, none]) (st1 := [vm_i 6, vm_i v1]) (m1 := m) (ob := true) (by decide +kernel) rfl rfl ?_
    refine vm_gj (c := v1 < 6) (t := 12) (e := 10) (i := (.if_icmp .lt 0, 12, 0, [])) (len := 3) (st1 := []) (by decide +kernel) rfl rfl (fun c2 => ?_) (fun c2 => ?_)
    · replace h := h.1 c2
      refine vm_gp [(.iload 1, 0, 0, []), (.iconst 3, 0, 0, [])] (pc1 := 14) (ls1 := [some (vm_r 0), some (vm_i v1), some (vm_i v2), none, none]) (st1 := [vm_i 3, vm_i v1]) (m1 := m) (ob := true) (by decide +kernel) rfl rfl ?_
      refine vm_gj (c := ¬ v1 = 3) (t := 27) (e := 17) (i := (.if_icmp .ne 0, 27, 0, [])) (len := 3) (st1 := []) (by decide +kernel) rfl rfl (fun c3 => ?_) (fun c3 => ?_)
      · replace h := h.1 c3
        obtain ⟨⟨o5_0, o5_1⟩, h⟩ := h
        refine vm_gp [(.getstatic 0, 901, 0, []), (.iload 1, 0, 0, []), (.iaload, 6, 1, []), (.istore 3, 0, 0, []), (.iload 2, 0, 0, []), (.getstatic 0, 900, 0, []), (.iload 1, 0, 0, []), (.iaload, 6, 1, [])] (pc1 := 39) (ls1 := [some (vm_r 0), some (vm_i v1), some (vm_i v2), some (vm_i (m 901 v1)), none]) (st1 := [vm_i (m 900 v1), vm_i v2]) (m1 := m) (ob := ((((true && decide (901 = 900 ∨ 901 = 901)) && decide (0 ≤ v1 ∧ v1 < 6)) && decide (900 = 900 ∨ 900 = 901)) && decide (0 ≤ v1 ∧ v1 < 6))) (by decide +kernel) rfl (vm_t (vm_t (vm_t (vm_t rfl (by decide)) o5_0) (by decide)) o5_1) ?_
        refine vm_gj (c := v2 < (m 900 v1)) (t := 47) (e := 42) (i := (.if_icmp .lt 0, 47, 0, [])) (len := 3) (st1 := []) (by decide +kernel) rfl rfl (fun c4 => ?_) (fun c4 => ?_)
        · replace h := h.1 c4
          refine vm_gp [(.iconst (-1), 0, 0, [])] (pc1 := 48) (ls1 := [some (vm_r 0), some (vm_i v1), some (vm_i v2), some (vm_i (m 901 v1)), none]) (st1 := [vm_i (-1)]) (m1 := m) (ob := true) (by decide +kernel) rfl rfl ?_
          exact vm_gr (r := some (vm_i (-1))) (i := (.ireturn, 1, 0, [])) (len := 1) (by decide +kernel) rfl rfl rfl ⟨_, rfl, h⟩
        · replace h := h.2 c4
          refine vm_gp [(.iload 2, 0, 0, []), (.iload 3, 0, 0, [])] (pc1 := 44) (ls1 := [some (vm_r 0), some (vm_i v1), some (vm_i v2), some (vm_i (m 901 v1)), none]) (st1 := [vm_i (m 901 v1), vm_i v2]) (m1 := m) (ob := true) (by decide +kernel) rfl rfl ?_
          refine vm_gj (c := v2 ≤ (m 901 v1)) (t := 49) (e := 47) (i := (.if_icmp .le 0, 49, 0, [])) (len := 3) (st1 := []) (by decide +kernel) rfl rfl (fun c5 => ?_) (fun c5 => ?_)
          · replace h := h.1 c5
            obtain ⟨o8_0, h⟩ := h
            refine vm_gp [(.aload 0, 0, 0, []), (.getfield 2, 10, 3, [(9, 0)]), (.getfield 2, 4, 0, [(1, 1)]), (.iload 1, 0, 0, []), (.iaload, 6, 0, []), (.istore 4, 0, 0, []), (.iload 4, 0, 0, []), (.iload 2, 0, 0, [])] (pc1 := 63) (ls1 := [some (vm_r 0), some (vm_i v1), some (vm_i v2), some (vm_i (m 901 v1)), some (vm_i (m 10 v1))]) (st1 := [vm_i v2, vm_i (m 10 v1)]) (m1 := m) (ob := ((((((true && vm_is 0 10) && true) && vm_is 9 4) && true) && vm_ar 10 100 6) && decide (0 ≤ v1 ∧ v1 < 6))) (by decide +kernel) rfl (vm_t (vm_u (vm_u (vm_u (vm_u (vm_u rfl (by decide +kernel)) rfl) (by decide +kernel)) rfl) (by decide +kernel)) o8_0) ?_
            refine vm_gj (c := ¬ (m 10 v1) = v2) (t := 69) (e := 66) (i := (.if_icmp .ne 0, 69, 0, [])) (len := 3) (st1 := []) (by decide +kernel) rfl rfl (fun c6 => ?_) (fun c6 => ?_)
            · replace h := h.1 c6
              refine vm_gp [(.aload 0, 0, 0, [])] (pc1 := 70) (ls1 := [some (vm_r 0), some (vm_i v1), some (vm_i v2), some (vm_i (m 901 v1)), some (vm_i (m 10 v1))]) (st1 := [vm_r 0]) (m1 := m) (ob := true) (by decide +kernel) rfl rfl ?_
              refine vm_gc (g := 114) (na := 1) (av := [vm_r 0]) (rest := []) (i := (.invokevirtual 0, 114, 1, [])) (len := 3) (by decide +kernel) rfl rfl rfl (by decide +kernel) (by decide +kernel) rfl rfl (vm_u (vm_okh_v (c := 10) (by decide +kernel) (by decide +kernel)) (show vm_okn 114 1 0 0 0 1 = true by decide +kernel)) ?_
              refine vm_G.mono h ?_
              rintro _ m1 ⟨rfl, h⟩
              show vm_G 106 73 [some (vm_r 0), some (vm_i v1), some (vm_i v2), some (vm_i (m 901 v1)), some (vm_i (m 10 v1))] [] m1 _
              obtain ⟨o10_0, h⟩ := h
              refine vm_gp [(.aload 0, 0, 0, []), (.getfield 2, 10, 3, [(9, 0)]), (.getfield 2, 4, 0, [(1, 1)]), (.iload 1, 0, 0, []), (.iload 2, 0, 0, []), (.iastore, 6, 0, []), (.iload 4, 0, 0, [])] (pc1 := 85) (ls1 := [some (vm_r 0), some (vm_i v1), some (vm_i v2), some (vm_i (m 901 v1)), some (vm_i (m 10 v1))]) (st1 := [vm_i (m 10 v1)]) (m1 := (vm_st m1 10 v1 v2)) (ob := ((((((true && vm_is 0 10) && true) && vm_is 9 4) && true) && vm_ar 10 100 6) && decide (0 ≤ v1 ∧ v1 < 6))) (by decide +kernel) rfl (vm_t (vm_u (vm_u (vm_u (vm_u (vm_u rfl (by decide +kernel)) rfl) (by decide +kernel)) rfl) (by decide +kernel)) o10_0) ?_
              exact vm_gr (r := some (vm_i (m 10 v1))) (i := (.ireturn, 1, 0, [])) (len := 1) (by decide +kernel) rfl rfl rfl ⟨_, rfl, h⟩
            · replace h := h.2 c6
              refine vm_gp [(.iconst (-2), 0, 0, [])] (pc1 := 68) (ls1 := [some (vm_r 0), some (vm_i v1), some (vm_i v2), some (vm_i (m 901 v1)), some (vm_i (m 10 v1))]) (st1 := [vm_i (-2)]) (m1 := m) (ob := true) (by decide +kernel) rfl rfl ?_
              exact vm_gr (r := some (vm_i (-2))) (i := (.ireturn, 1, 0, [])) (len := 1) (by decide +kernel) rfl rfl rfl ⟨_, rfl, h⟩
          · replace h := h.2 c5
            refine vm_gp [(.iconst (-1), 0, 0, [])] (pc1 := 48) (ls1 := [some (vm_r 0), some (vm_i v1), some (vm_i v2), some (vm_i (m 901 v1)), none]) (st1 := [vm_i (-1)]) (m1 := m) (ob := true) (by decide +kernel) rfl rfl ?_
            exact vm_gr (r := some (vm_i (-1))) (i := (.ireturn, 1, 0, [])) (len := 1) (by decide +kernel) rfl rfl rfl ⟨_, rfl, h⟩
      · replace h := h.2 c3
        obtain ⟨o13_0, h⟩ := h
        refine vm_gp [(.aload 0, 0, 0, []), (.getfield 2, 10, 1, [(3, 0)]), (.getfield 0, 0, 2, []), (.goto 0, 32, 0, []), (.istore 3, 0, 0, []), (.iload 2, 0, 0, []), (.getstatic 0, 900, 0, []), (.iload 1, 0, 0, []), (.iaload, 6, 1, [])] (pc1 := 39) (ls1 := [some (vm_r 0), some (vm_i v1), some (vm_i v2), some (vm_i (m 3 2)), none]) (st1 := [vm_i (m 900 v1), vm_i v2]) (m1 := m) (ob := (((((true && vm_is 0 10) && true) && vm_is 3 0) && decide (900 = 900 ∨ 900 = 901)) && decide (0 ≤ v1 ∧ v1 < 6))) (by decide +kernel) rfl (vm_t (vm_t (vm_u (vm_u (vm_u rfl (by decide +kernel)) rfl) (by decide +kernel)) (by decide)) o13_0) ?_
        refine vm_gj (c := v2 < (m 900 v1)) (t := 47) (e := 42) (i := (.if_icmp .lt 0, 47, 0, [])) (len := 3) (st1 := []) (by decide +kernel) rfl rfl (fun c7 => ?_) (fun c7 => ?_)
        · replace h := h.1 c7
          refine vm_gp [(.iconst (-1), 0, 0, [])] (pc1 := 48) (ls1 := [some (vm_r 0), some (vm_i v1), some (vm_i v2), some (vm_i (m 3 2)), none]) (st1 := [vm_i (-1)]) (m1 := m) (ob := true) (by decide +kernel) rfl rfl ?_
          exact vm_gr (r := some (vm_i (-1))) (i := (.ireturn, 1, 0, [])) (len := 1) (by decide +kernel) rfl rfl rfl ⟨_, rfl, h⟩
        · replace h := h.2 c7
          refine vm_gp [(.iload 2, 0, 0, []), (.iload 3, 0, 0, [])] (pc1 := 44) (ls1 := [some (vm_r 0), some (vm_i v1), some (vm_i v2), some (vm_i (m 3 2)), none]) (st1 := [vm_i (m 3 2), vm_i v2]) (m1 := m) (ob := true) (by decide +kernel) rfl rfl ?_
          refine vm_gj (c := v2 ≤ (m 3 2)) (t := 49) (e := 47) (i := (.if_icmp .le 0, 49, 0, [])) (len := 3) (st1 := []) (by decide +kernel) rfl rfl (fun c8 => ?_) (fun c8 => ?_)
          · replace h := h.1 c8
            obtain ⟨o16_0, h⟩ := h
            refine vm_gp [(.aload 0, 0, 0, []), (.getfield 2, 10, 3, [(9, 0)]), (.getfield 2, 4, 0, [(1, 1)]), (.iload 1, 0, 0, []), (.iaload, 6, 0, []), (.istore 4, 0, 0, []), (.iload 4, 0, 0, []), (.iload 2, 0, 0, [])] (pc1 := 63) (ls1 := [some (vm_r 0), some (vm_i v1), some (vm_i v2), some (vm_i (m 3 2)), some (vm_i (m 10 v1))]) (st1 := [vm_i v2, vm_i (m 10 v1)]) (m1 := m) (ob := ((((((true && vm_is 0 10) && true) && vm_is 9 4) && true) && vm_ar 10 100 6) && decide (0 ≤ v1 ∧ v1 < 6))) (by decide +kernel) rfl (vm_t (vm_u (vm_u (vm_u (vm_u (vm_u rfl (by decide +kernel)) rfl) (by decide +kernel)) rfl) (by decide +kernel)) o16_0) ?_
            refine vm_gj (c := ¬ (m 10 v1) = v2) (t := 69) (e := 66) (i := (.if_icmp .ne 0, 69, 0, [])) (len := 3) (st1 := []) (by decide +kernel) rfl rfl (fun c9 => ?_) (fun c9 => ?_)
            · replace h := h.1 c9
              refine vm_gp [(.aload 0, 0, 0, [])] (pc1 := 70) (ls1 := [some (vm_r 0), some (vm_i v1), some (vm_i v2), some (vm_i (m 3 2)), some (vm_i (m 10 v1))]) (st1 := [vm_r 0]) (m1 := m) (ob := true) (by decide +kernel) rfl rfl ?_
              refine vm_gc (g := 114) (na := 1) (av := [vm_r 0]) (rest := []) (i := (.invokevirtual 0, 114, 1, [])) (len := 3) (by decide +kernel) rfl rfl rfl (by decide +kernel) (by decide +kernel) rfl rfl (vm_u (vm_okh_v (c := 10) (by decide +kernel) (by decide +kernel)) (show vm_okn 114 1 0 0 0 1 = true by decide +kernel)) ?_
              refine vm_G.mono h ?_
              rintro _ m2 ⟨rfl, h⟩
              show vm_G 106 73 [some (vm_r 0), some (vm_i v1), some (vm_i v2), some (vm_i (m 3 2)), some (vm_i (m 10 v1))] [] m2 _
              obtain ⟨o18_0, h⟩ := h
              refine vm_gp [(.aload 0, 0, 0, []), (.getfield 2, 10, 3, [(9, 0)]), (.getfield 2, 4, 0, [(1, 1)]), (.iload 1, 0, 0, []), (.iload 2, 0, 0, []), (.iastore, 6, 0, []), (.iload 4, 0, 0, [])] (pc1 := 85) (ls1 := [some (vm_r 0), some (vm_i v1), some (vm_i v2), some (vm_i (m 3 2)), some (vm_i (m 10 v1))]) (st1 := [vm_i (m 10 v1)]) (m1 := (vm_st m2 10 v1 v2)) (ob := ((((((true && vm_is 0 10) && true) && vm_is 9 4) && true) && vm_ar 10 100 6) && decide (0 ≤ v1 ∧ v1 < 6))) (by decide +kernel) rfl (vm_t (vm_u (vm_u (vm_u (vm_u (vm_u rfl (by decide +kernel)) rfl) (by decide +kernel)) rfl) (by decide +kernel)) o18_0) ?_
              exact vm_gr (r := some (vm_i (m 10 v1))) (i := (.ireturn, 1, 0, [])) (len := 1) (by decide +kernel) rfl rfl rfl ⟨_, rfl, h⟩
            · replace h := h.2 c9
              refine vm_gp [(.iconst (-2), 0, 0, [])] (pc1 := 68) (ls1 := [some (vm_r 0), some (vm_i v1), some (vm_i v2), some (vm_i (m 3 2)), some (vm_i (m 10 v1))]) (st1 := [vm_i (-2)]) (m1 := m) (ob := true) (by decide +kernel) rfl rfl ?_
              exact vm_gr (r := some (vm_i (-2))) (i := (.ireturn, 1, 0, [])) (len := 1) (by decide +kernel) rfl rfl rfl ⟨_, rfl, h⟩
          · replace h := h.2 c8
            refine vm_gp [(.iconst (-1), 0, 0, [])] (pc1 := 48) (ls1 := [some (vm_r 0), some (vm_i v1), some (vm_i v2), some (vm_i (m 3 2)), none]) (st1 := [vm_i (-1)]) (m1 := m) (ob := true) (by decide +kernel) rfl rfl ?_
            exact vm_gr (r := some (vm_i (-1))) (i := (.ireturn, 1, 0, [])) (len := 1) (by decide +kernel) rfl rfl rfl ⟨_, rfl, h⟩
    · replace h := h.2 c2
      refine vm_gp [(.iconst (-1), 0, 0, [])] (pc1 := 11) (ls1 := [some (vm_r 0), some (vm_i v1), some (vm_i v2), none, none]) (st1 := [vm_i (-1)]) (m1 := m) (ob := true) (by decide +kernel) rfl rfl ?_
      exact vm_gr (r := some (vm_i (-1))) (i := (.ireturn, 1, 0, [])) (len := 1) (by decide +kernel) rfl rfl rfl ⟨_, rfl, h⟩
abbrev ku10_correct_0 (v1 : Int) (v2 : Int) (v3 : Int) (m : vm_M) (Q : Int → vm_M → Prop) : Prop := vm_G 107 0 [some (vm_r 0), some (vm_i v1), some (vm_i v2), some (vm_i v3), none] [] m (vm_qi Q)
set_option maxRecDepth 20000 in
theorem ru10_correct_0 {v1 : Int} {v2 : Int} {v3 : Int} {m : vm_M} {Q : Int → vm_M → Prop}  (h :
    (vm_C 3 [vm_r 3, vm_i v1] m (vm_qi (fun z1 m1 =>
      ((z1 = 0 →
        Q (-1) m1) ∧ (¬ z1 = 0 →
        (vm_C 3 [vm_r 3, vm_i v2] m1 (vm_qi (fun z2 m2 =>
          ((z2 = 0 →
            Q (-1) m2) ∧ (¬ z2 = 0 →
            ((v3 < (-9) →
              Q (-1) m2) ∧ (¬ v3 < (-9) →
              ((v3 ≤ 9 →
                (vm_C 56 [vm_r 9, vm_i v1, vm_i v2] m2 (vm_qi (fun z3 m3 =>
                  ((¬ z3 = v3 →
                    (vm_C 114 [vm_r 0] m3 (vm_qv (fun m4 =>
                      ((vm_32 (v1 * 26)) ∧ (vm_32 ((v1 * 26) + v2)) ∧ (0 ≤ ((v1 * 26) + v2) ∧ ((v1 * 26) + v2) < 676) ∧ (vm_32 (z3 + 9))) ∧
                      Q (z3 + 9) (vm_st m4 11 ((v1 * 26) + v2) v3))))) ∧ (¬ ¬ z3 = v3 →
                    Q (-2) m3)))))) ∧ (¬ v3 ≤ 9 →
                Q (-1) m2))))))))))))))) : vm_C 107 [vm_r 0, vm_i v1, vm_i v2, vm_i v3] m (vm_qi Q) := by
  show vm_G 107 0 [some (vm_r 0), some (vm_i v1), some (vm_i v2), some (vm_i v3), none] [] m (vm_qi Q)
  refine vm_gp [(.aload 0, 0, 0, []), (.getfield 2, 10, 1, [(3, 0)]), (.iload 1, 0, 0, [])] (pc1 := 5) (ls1 := [some (vm_r 0), some (vm_i v1), some (vm_i v2), some (vm_i v3), none]) (st1 := [vm_i v1, vm_r 3]) (m1 := m) (ob := ((true && vm_is 0 10) && true)) (by decide +kernel) rfl (vm_u (vm_u rfl (by decide +kernel)) rfl) ?_
  refine vm_gc (g := 3) (na := 2) (av := [vm_r 3, vm_i v1]) (rest := []) (i := (.invokevirtual 0, 3, 2, [])) (len := 3) (by decide +kernel) rfl rfl rfl (by decide +kernel) (by decide +kernel) rfl rfl (vm_u (vm_okh_v (c := 0) (by decide +kernel) (by decide +kernel)) (show vm_okn 3 2 0 0 0 2 = true by decide +kernel)) ?_
  refine vm_G.mono h ?_
  rintro _ m1 ⟨z1, rfl, h⟩
  show vm_G 107 8 [some (vm_r 0), some (vm_i v1), some (vm_i v2), some (vm_i v3), none] [vm_i z1] m1 _
  refine vm_gj (c := z1 = 0) (t := 34) (e := 11) (i := (.ifCond .eq 0, 34, 0, [])) (len := 3) (st1 := []) (by decide +kernel) rfl rfl (fun c1 => ?_) (fun c1 => ?_)
  · replace h := h.1 c1
    refine vm_gp [(.iconst (-1), 0, 0, [])] (pc1 := 35) (ls1 := [some (vm_r 0), some (vm_i v1), some (vm_i v2), some (vm_i v3), none]) (st1 := [vm_i (-1)]) (m1 := m1) (ob := true) (by decide +kernel) rfl rfl ?_
    exact vm_gr (r := some (vm_i (-1))) (i := (.ireturn, 1, 0, [])) (len := 1) (by decide +kernel) rfl rfl rfl ⟨_, rfl, h⟩
  · replace h := h.2 c1
    refine vm_gp [(.aload 0, 0, 0, []), (.getfield 2, 10, 1, [(3, 0)]), (.iload 2, 0, 0, [])] (pc1 := 16) (ls1 := [some (vm_r 0), some (vm_i v1), some (vm_i v2), some (vm_i v3), none]) (st1 := [vm_i v2, vm_r 3]) (m1 := m1) (ob := ((true && vm_is 0 10) && true)) (by decide +kernel) rfl (vm_u (vm_u rfl (by decide +kernel)) rfl) ?_
    refine vm_gc (g := 3) (na := 2) (av := [vm_r 3, vm_i v2]) (rest := []) (i := (.invokevirtual 0, 3, 2, [])) (len := 3) (by decide +kernel) rfl rfl rfl (by decide +kernel) (by decide +kernel) rfl rfl (vm_u (vm_okh_v (c := 0) (by decide +kernel) (by decide +kernel)) (show vm_okn 3 2 0 0 0 2 = true by decide +kernel)) ?_
    refine vm_G.mono h ?_
    rintro _ m2 ⟨z2, rfl, h⟩
    show vm_G 107 19 [some (vm_r 0), some (vm_i v1), some (vm_i v2), some (vm_i v3), none] [vm_i z2] m2 _
    refine vm_gj (c := z2 = 0) (t := 34) (e := 22) (i := (.ifCond .eq 0, 34, 0, [])) (len := 3) (st1 := []) (by decide +kernel) rfl rfl (fun c2 => ?_) (fun c2 => ?_)
    · replace h := h.1 c2
      refine vm_gp [(.iconst (-1), 0, 0, [])] (pc1 := 35) (ls1 := [some (vm_r 0), some (vm_i v1), some (vm_i v2), some (vm_i v3), none]) (st1 := [vm_i (-1)]) (m1 := m2) (ob := true) (by decide +kernel) rfl rfl ?_
      exact vm_gr (r := some (vm_i (-1))) (i := (.ireturn, 1, 0, [])) (len := 1) (by decide +kernel) rfl rfl rfl ⟨_, rfl, h⟩
    · replace h := h.2 c2
      refine vm_gp [(.iload 3, 0, 0, []), (.iconst (-9), 0, 0, [])] (pc1 := 25) (ls1 := [some (vm_r 0), some (vm_i v1), some (vm_i v2), some (vm_i v3), none]) (st1 := [vm_i (-9), vm_i v3]) (m1 := m2) (ob := true) (by decide +kernel) rfl rfl ?_
      refine vm_gj (c := v3 < (-9)) (t := 34) (e := 28) (i := (.if_icmp .lt 0, 34, 0, [])) (len := 3) (st1 := []) (by decide +kernel) rfl rfl (fun c3 => ?_) (fun c3 => ?_)
      · replace h := h.1 c3
        refine vm_gp [(.iconst (-1), 0, 0, [])] (pc1 := 35) (ls1 := [some (vm_r 0), some (vm_i v1), some (vm_i v2), some (vm_i v3), none]) (st1 := [vm_i (-1)]) (m1 := m2) (ob := true) (by decide +kernel) rfl rfl ?_
        exact vm_gr (r := some (vm_i (-1))) (i := (.ireturn, 1, 0, [])) (len := 1) (by decide +kernel) rfl rfl rfl ⟨_, rfl, h⟩
      · replace h := h.2 c3
        refine vm_gp [(.iload 3, 0, 0, []), (.iconst 9, 0, 0, [])] (pc1 := 31) (ls1 := [some (vm_r 0), some (vm_i v1), some (vm_i v2), some (vm_i v3), none]) (st1 := [vm_i 9, vm_i v3]) (m1 := m2) (ob := true) (by decide +kernel) rfl rfl ?_
        refine vm_gj (c := v3 ≤ 9) (t := 36) (e := 34) (i := (.if_icmp .le 0, 36, 0, [])) (len := 3) (st1 := []) (by decide +kernel) rfl rfl (fun c4 => ?_) (fun c4 => ?_)
        · replace h := h.1 c4
          refine vm_gp [(.aload 0, 0, 0, []), (.getfield 2, 10, 3, [(9, 0)]), (.iload 1, 0, 0, []), (.iload 2, 0, 0, [])] (pc1 := 42) (ls1 := [some (vm_r 0), some (vm_i v1), some (vm_i v2), some (vm_i v3), none]) (st1 := [vm_i v2, vm_i v1, vm_r 9]) (m1 := m2) (ob := ((true && vm_is 0 10) && true)) (by decide +kernel) rfl (vm_u (vm_u rfl (by decide +kernel)) rfl) ?_
          refine vm_gc (g := 56) (na := 3) (av := [vm_r 9, vm_i v1, vm_i v2]) (rest := []) (i := (.invokevirtual 0, 56, 3, [])) (len := 3) (by decide +kernel) rfl rfl rfl (by decide +kernel) (by decide +kernel) rfl rfl (vm_u (vm_okh_v (c := 4) (by decide +kernel) (by decide +kernel)) (show vm_okn 56 3 0 0 0 3 = true by decide +kernel)) ?_
          refine vm_G.mono h ?_
          rintro _ m3 ⟨z3, rfl, h⟩
          show vm_G 107 45 [some (vm_r 0), some (vm_i v1), some (vm_i v2), some (vm_i v3), none] [vm_i z3] m3 _
          refine vm_gp [(.istore 4, 0, 0, []), (.iload 4, 0, 0, []), (.iload 3, 0, 0, [])] (pc1 := 50) (ls1 := [some (vm_r 0), some (vm_i v1), some (vm_i v2), some (vm_i v3), some (vm_i z3)]) (st1 := [vm_i v3, vm_i z3]) (m1 := m3) (ob := true) (by decide +kernel) rfl rfl ?_
          refine vm_gj (c := ¬ z3 = v3) (t := 56) (e := 53) (i := (.if_icmp .ne 0, 56, 0, [])) (len := 3) (st1 := []) (by decide +kernel) rfl rfl (fun c5 => ?_) (fun c5 => ?_)
          · replace h := h.1 c5
            refine vm_gp [(.aload 0, 0, 0, [])] (pc1 := 57) (ls1 := [some (vm_r 0), some (vm_i v1), some (vm_i v2), some (vm_i v3), some (vm_i z3)]) (st1 := [vm_r 0]) (m1 := m3) (ob := true) (by decide +kernel) rfl rfl ?_
            refine vm_gc (g := 114) (na := 1) (av := [vm_r 0]) (rest := []) (i := (.invokevirtual 0, 114, 1, [])) (len := 3) (by decide +kernel) rfl rfl rfl (by decide +kernel) (by decide +kernel) rfl rfl (vm_u (vm_okh_v (c := 10) (by decide +kernel) (by decide +kernel)) (show vm_okn 114 1 0 0 0 1 = true by decide +kernel)) ?_
            refine vm_G.mono h ?_
            rintro _ m4 ⟨rfl, h⟩
            show vm_G 107 60 [some (vm_r 0), some (vm_i v1), some (vm_i v2), some (vm_i v3), some (vm_i z3)] [] m4 _
            obtain ⟨⟨o13_0, o13_1, o13_2, o13_3⟩, h⟩ := h
            refine vm_gp [(.aload 0, 0, 0, []), (.getfield 2, 10, 3, [(9, 0)]), (.getfield 2, 4, 1, [(2, 1)]), (.iload 1, 0, 0, []), (.iconst 26, 0, 0, []), (.imul, 0, 0, []), (.iload 2, 0, 0, []), (.iadd, 0, 0, []), (.iload 3, 0, 0, []), (.iastore, 676, 0, []), (.iload 4, 0, 0, []), (.iconst 9, 0, 0, []), (.iadd, 0, 0, [])] (pc1 := 80) (ls1 := [some (vm_r 0), some (vm_i v1), some (vm_i v2), some (vm_i v3), some (vm_i z3)]) (st1 := [vm_i (z3 + 9)]) (m1 := (vm_st m4 11 ((v1 * 26) + v2) v3)) (ob := (((((((((true && vm_is 0 10) && true) && vm_is 9 4) && true) && decide (vm_32 (v1 * 26))) && decide (vm_32 ((v1 * 26) + v2))) && vm_ar 11 100 676) && decide (0 ≤ ((v1 * 26) + v2) ∧ ((v1 * 26) + v2) < 676)) && decide (vm_32 (z3 + 9)))) (by decide +kernel) rfl (vm_t (vm_t (vm_u (vm_t (vm_t (vm_u (vm_u (vm_u (vm_u rfl (by decide +kernel)) rfl) (by decide +kernel)) rfl) o13_0) o13_1) (by decide +kernel)) o13_2) o13_3) ?_
            exact vm_gr (r := some (vm_i (z3 + 9))) (i := (.ireturn, 1, 0, [])) (len := 1) (by decide +kernel) rfl rfl rfl ⟨_, rfl, h⟩
          · replace h := h.2 c5
            refine vm_gp [(.iconst (-2), 0, 0, [])] (pc1 := 55) (ls1 := [some (vm_r 0), some (vm_i v1), some (vm_i v2), some (vm_i v3), some (vm_i z3)]) (st1 := [vm_i (-2)]) (m1 := m3) (ob := true) (by decide +kernel) rfl rfl ?_
            exact vm_gr (r := some (vm_i (-2))) (i := (.ireturn, 1, 0, [])) (len := 1) (by decide +kernel) rfl rfl rfl ⟨_, rfl, h⟩
        · replace h := h.2 c4
          refine vm_gp [(.iconst (-1), 0, 0, [])] (pc1 := 35) (ls1 := [some (vm_r 0), some (vm_i v1), some (vm_i v2), some (vm_i v3), none]) (st1 := [vm_i (-1)]) (m1 := m2) (ob := true) (by decide +kernel) rfl rfl ?_
          exact vm_gr (r := some (vm_i (-1))) (i := (.ireturn, 1, 0, [])) (len := 1) (by decide +kernel) rfl rfl rfl ⟨_, rfl, h⟩
abbrev ku10_setBreak_0 (v1 : Int) (m : vm_M) (Q : Int → vm_M → Prop) : Prop := vm_G 108 0 [some (vm_r 0), some (vm_i v1), none] [] m (vm_qi Q)
set_option maxRecDepth 20000 in
theorem ru10_setBreak_0 {v1 : Int} {m : vm_M} {Q : Int → vm_M → Prop}  (h :
    ((v1 = 0 →
      ((¬ (m 9 4) = v1 →
        (vm_C 114 [vm_r 0] m (vm_qv (fun m1 =>
          Q (m 9 4) (vm_st m1 9 4 v1))))) ∧ (¬ ¬ (m 9 4) = v1 →
        Q (-2) m))) ∧ (¬ v1 = 0 →
      ((v1 = 1 →
        ((¬ (m 9 4) = v1 →
          (vm_C 114 [vm_r 0] m (vm_qv (fun m2 =>
            Q (m 9 4) (vm_st m2 9 4 v1))))) ∧ (¬ ¬ (m 9 4) = v1 →
          Q (-2) m))) ∧ (¬ v1 = 1 →
        Q (-1) m))))) : vm_C 108 [vm_r 0, vm_i v1] m (vm_qi Q) := by
  show vm_G 108 0 [some (vm_r 0), some (vm_i v1), none] [] m (vm_qi Q)
  refine vm_gp [(.iload 1, 0, 0, [])] (pc1 := 1) (ls1 := [some (vm_r 0), some (vm_i v1), none]) (st1 := [vm_i v1]) (m1 := m) (ob := true) (by decide +kernel) rfl rfl ?_
  refine vm_gj (c := v1 = 0) (t := 11) (e := 4) (i := (.ifCond .eq 0, 11, 0, [])) (len := 3) (st1 := []) (by decide +kernel) rfl rfl (fun c1 => ?_) (fun c1 => ?_)
  · replace h := h.1 c1
    refine vm_gp [(.aload 0, 0, 0, []), (.getfield 2, 10, 3, [(9, 0)]), (.getfield 0, 4, 4, []), (.istore 2, 0, 0, []), (.iload 2, 0, 0, []), (.iload 1, 0, 0, [])] (pc1 := 21) (ls1 := [some (vm_r 0), some (vm_i v1), some (vm_i (m 9 4))]) (st1 := [vm_i v1, vm_i (m 9 4)]) (m1 := m) (ob := (((true && vm_is 0 10) && true) && vm_is 9 4)) (by decide +kernel) rfl (vm_u (vm_u (vm_u rfl (by decide +kernel)) rfl) (by decide +kernel)) ?_
    refine vm_gj (c := ¬ (m 9 4) = v1) (t := 27) (e := 24) (i := (.if_icmp .ne 0, 27, 0, [])) (len := 3) (st1 := []) (by decide +kernel) rfl rfl (fun c2 => ?_) (fun c2 => ?_)
    · replace h := h.1 c2
      refine vm_gp [(.aload 0, 0, 0, [])] (pc1 := 28) (ls1 := [some (vm_r 0), some (vm_i v1), some (vm_i (m 9 4))]) (st1 := [vm_r 0]) (m1 := m) (ob := true) (by decide +kernel) rfl rfl ?_
      refine vm_gc (g := 114) (na := 1) (av := [vm_r 0]) (rest := []) (i := (.invokevirtual 0, 114, 1, [])) (len := 3) (by decide +kernel) rfl rfl rfl (by decide +kernel) (by decide +kernel) rfl rfl (vm_u (vm_okh_v (c := 10) (by decide +kernel) (by decide +kernel)) (show vm_okn 114 1 0 0 0 1 = true by decide +kernel)) ?_
      refine vm_G.mono h ?_
      rintro _ m1 ⟨rfl, h⟩
      show vm_G 108 31 [some (vm_r 0), some (vm_i v1), some (vm_i (m 9 4))] [] m1 _
      refine vm_gp [(.aload 0, 0, 0, []), (.getfield 2, 10, 3, [(9, 0)]), (.iload 1, 0, 0, []), (.putfield 0, 4, 4, []), (.iload 2, 0, 0, [])] (pc1 := 40) (ls1 := [some (vm_r 0), some (vm_i v1), some (vm_i (m 9 4))]) (st1 := [vm_i (m 9 4)]) (m1 := (vm_st m1 9 4 v1)) (ob := (((true && vm_is 0 10) && true) && vm_is 9 4)) (by decide +kernel) rfl (vm_u (vm_u (vm_u rfl (by decide +kernel)) rfl) (by decide +kernel)) ?_
      exact vm_gr (r := some (vm_i (m 9 4))) (i := (.ireturn, 1, 0, [])) (len := 1) (by decide +kernel) rfl rfl rfl ⟨_, rfl, h⟩
    · replace h := h.2 c2
      refine vm_gp [(.iconst (-2), 0, 0, [])] (pc1 := 26) (ls1 := [some (vm_r 0), some (vm_i v1), some (vm_i (m 9 4))]) (st1 := [vm_i (-2)]) (m1 := m) (ob := true) (by decide +kernel) rfl rfl ?_
      exact vm_gr (r := some (vm_i (-2))) (i := (.ireturn, 1, 0, [])) (len := 1) (by decide +kernel) rfl rfl rfl ⟨_, rfl, h⟩
  · replace h := h.2 c1
    refine vm_gp [(.iload 1, 0, 0, []), (.iconst 1, 0, 0, [])] (pc1 := 6) (ls1 := [some (vm_r 0), some (vm_i v1), none]) (st1 := [vm_i 1, vm_i v1]) (m1 := m) (ob := true) (by decide +kernel) rfl rfl ?_
    refine vm_gj (c := v1 = 1) (t := 11) (e := 9) (i := (.if_icmp .eq 0, 11, 0, [])) (len := 3) (st1 := []) (by decide +kernel) rfl rfl (fun c3 => ?_) (fun c3 => ?_)
    · replace h := h.1 c3
      refine vm_gp [(.aload 0, 0, 0, []), (.getfield 2, 10, 3, [(9, 0)]), (.getfield 0, 4, 4, []), (.istore 2, 0, 0, []), (.iload 2, 0, 0, []), (.iload 1, 0, 0, [])] (pc1 := 21) (ls1 := [some (vm_r 0), some (vm_i v1), some (vm_i (m 9 4))]) (st1 := [vm_i v1, vm_i (m 9 4)]) (m1 := m) (ob := (((true && vm_is 0 10) && true) && vm_is 9 4)) (by decide +kernel) rfl (vm_u (vm_u (vm_u rfl (by decide +kernel)) rfl) (by decide +kernel)) ?_
      refine vm_gj (c := ¬ (m 9 4) = v1) (t := 27) (e := 24) (i := (.if_icmp .ne 0, 27, 0, [])) (len := 3) (st1 := []) (by decide +kernel) rfl rfl (fun c4 => ?_) (fun c4 => ?_)
      · replace h := h.1 c4
        refine vm_gp [(.aload 0, 0, 0, [])] (pc1 := 28) (ls1 := [some (vm_r 0), some (vm_i v1), some (vm_i (m 9 4))]) (st1 := [vm_r 0]) (m1 := m) (ob := true) (by decide +kernel) rfl rfl ?_
        refine vm_gc (g := 114) (na := 1) (av := [vm_r 0]) (rest := []) (i := (.invokevirtual 0, 114, 1, [])) (len := 3) (by decide +kernel) rfl rfl rfl (by decide +kernel) (by decide +kernel) rfl rfl (vm_u (vm_okh_v (c := 10) (by decide +kernel) (by decide +kernel)) (show vm_okn 114 1 0 0 0 1 = true by decide +kernel)) ?_
        refine vm_G.mono h ?_
        rintro _ m2 ⟨rfl, h⟩
        show vm_G 108 31 [some (vm_r 0), some (vm_i v1), some (vm_i (m 9 4))] [] m2 _
        refine vm_gp [(.aload 0, 0, 0, []), (.getfield 2, 10, 3, [(9, 0)]), (.iload 1, 0, 0, []), (.putfield 0, 4, 4, []), (.iload 2, 0, 0, [])] (pc1 := 40) (ls1 := [some (vm_r 0), some (vm_i v1), some (vm_i (m 9 4))]) (st1 := [vm_i (m 9 4)]) (m1 := (vm_st m2 9 4 v1)) (ob := (((true && vm_is 0 10) && true) && vm_is 9 4)) (by decide +kernel) rfl (vm_u (vm_u (vm_u rfl (by decide +kernel)) rfl) (by decide +kernel)) ?_
        exact vm_gr (r := some (vm_i (m 9 4))) (i := (.ireturn, 1, 0, [])) (len := 1) (by decide +kernel) rfl rfl rfl ⟨_, rfl, h⟩
      · replace h := h.2 c4
        refine vm_gp [(.iconst (-2), 0, 0, [])] (pc1 := 26) (ls1 := [some (vm_r 0), some (vm_i v1), some (vm_i (m 9 4))]) (st1 := [vm_i (-2)]) (m1 := m) (ob := true) (by decide +kernel) rfl rfl ?_
        exact vm_gr (r := some (vm_i (-2))) (i := (.ireturn, 1, 0, [])) (len := 1) (by decide +kernel) rfl rfl rfl ⟨_, rfl, h⟩
    · replace h := h.2 c3
      refine vm_gp [(.iconst (-1), 0, 0, [])] (pc1 := 10) (ls1 := [some (vm_r 0), some (vm_i v1), none]) (st1 := [vm_i (-1)]) (m1 := m) (ob := true) (by decide +kernel) rfl rfl ?_
      exact vm_gr (r := some (vm_i (-1))) (i := (.ireturn, 1, 0, [])) (len := 1) (by decide +kernel) rfl rfl rfl ⟨_, rfl, h⟩
abbrev ku10_setFill_0 (v1 : Int) (m : vm_M) (Q : Int → vm_M → Prop) : Prop := vm_G 109 0 [some (vm_r 0), some (vm_i v1)] [] m (vm_qi Q)
set_option maxRecDepth 20000 in
theorem ru10_setFill_0 {v1 : Int} {m : vm_M} {Q : Int → vm_M → Prop}  (h :
    ((¬ (m 9 5) = v1 →
      (vm_C 114 [vm_r 0] m (vm_qv (fun m1 =>
        ((v1 = 0 ∨ v1 = 1)) ∧
        Q 1 (vm_st m1 9 5 v1))))) ∧ (¬ ¬ (m 9 5) = v1 →
      Q (-2) m))) : vm_C 109 [vm_r 0, vm_i v1] m (vm_qi Q) := by
  show vm_G 109 0 [some (vm_r 0), some (vm_i v1)] [] m (vm_qi Q)
  refine vm_gp [(.aload 0, 0, 0, []), (.getfield 2, 10, 3, [(9, 0)]), (.getfield 0, 4, 5, []), (.iload 1, 0, 0, [])] (pc1 := 8) (ls1 := [some (vm_r 0), some (vm_i v1)]) (st1 := [vm_i v1, vm_i (m 9 5)]) (m1 := m) (ob := (((true && vm_is 0 10) && true) && vm_is 9 4)) (by decide +kernel) rfl (vm_u (vm_u (vm_u rfl (by decide +kernel)) rfl) (by decide +kernel)) ?_
  refine vm_gj (c := ¬ (m 9 5) = v1) (t := 14) (e := 11) (i := (.if_icmp .ne 0, 14, 0, [])) (len := 3) (st1 := []) (by decide +kernel) rfl rfl (fun c1 => ?_) (fun c1 => ?_)
  · replace h := h.1 c1
    refine vm_gp [(.aload 0, 0, 0, [])] (pc1 := 15) (ls1 := [some (vm_r 0), some (vm_i v1)]) (st1 := [vm_r 0]) (m1 := m) (ob := true) (by decide +kernel) rfl rfl ?_
    refine vm_gc (g := 114) (na := 1) (av := [vm_r 0]) (rest := []) (i := (.invokevirtual 0, 114, 1, [])) (len := 3) (by decide +kernel) rfl rfl rfl (by decide +kernel) (by decide +kernel) rfl rfl (vm_u (vm_okh_v (c := 10) (by decide +kernel) (by decide +kernel)) (show vm_okn 114 1 0 0 0 1 = true by decide +kernel)) ?_
    refine vm_G.mono h ?_
    rintro _ m1 ⟨rfl, h⟩
    show vm_G 109 18 [some (vm_r 0), some (vm_i v1)] [] m1 _
    obtain ⟨o3_0, h⟩ := h
    refine vm_gp [(.aload 0, 0, 0, []), (.getfield 2, 10, 3, [(9, 0)]), (.iload 1, 0, 0, []), (.putfield 3, 4, 5, []), (.iconst 1, 0, 0, [])] (pc1 := 27) (ls1 := [some (vm_r 0), some (vm_i v1)]) (st1 := [vm_i 1]) (m1 := (vm_st m1 9 5 v1)) (ob := ((((true && vm_is 0 10) && true) && vm_is 9 4) && decide (v1 = 0 ∨ v1 = 1))) (by decide +kernel) rfl (vm_t (vm_u (vm_u (vm_u rfl (by decide +kernel)) rfl) (by decide +kernel)) o3_0) ?_
    exact vm_gr (r := some (vm_i 1)) (i := (.ireturn, 1, 0, [])) (len := 1) (by decide +kernel) rfl rfl rfl ⟨_, rfl, h⟩
  · replace h := h.2 c1
    refine vm_gp [(.iconst (-2), 0, 0, [])] (pc1 := 13) (ls1 := [some (vm_r 0), some (vm_i v1)]) (st1 := [vm_i (-2)]) (m1 := m) (ob := true) (by decide +kernel) rfl rfl ?_
    exact vm_gr (r := some (vm_i (-2))) (i := (.ireturn, 1, 0, [])) (len := 1) (by decide +kernel) rfl rfl rfl ⟨_, rfl, h⟩
abbrev ku10_swap_0 (v1 : Int) (v2 : Int) (m : vm_M) (Q : Int → vm_M → Prop) : Prop := vm_G 110 0 [some (vm_r 0), some (vm_i v1), some (vm_i v2)] [] m (vm_qi Q)
set_option maxRecDepth 20000 in
theorem ru10_swap_0 {v1 : Int} {v2 : Int} {m : vm_M} {Q : Int → vm_M → Prop}  (h :
    (vm_C 59 [vm_r 9, vm_i v1] m (vm_qi (fun z1 m1 =>
      ((z1 = 0 →
        Q (-1) m1) ∧ (¬ z1 = 0 →
        (vm_C 59 [vm_r 9, vm_i v2] m1 (vm_qi (fun z2 m2 =>
          ((z2 = 0 →
            Q (-1) m2) ∧ (¬ z2 = 0 →
            ((¬ v1 = v2 →
              (vm_C 114 [vm_r 0] m2 (vm_qv (fun m3 =>
                (vm_C 62 [vm_r 9, vm_i v1, vm_i v2] m3 (vm_qv (fun m4 =>
                  (vm_C 137 [vm_r 0] m4 (vm_qv (fun m5 =>
                    Q (m5 67 8) m5)))))))))) ∧ (¬ ¬ v1 = v2 →
              Q (-1) m2))))))))))))) : vm_C 110 [vm_r 0, vm_i v1, vm_i v2] m (vm_qi Q) := by
  show vm_G 110 0 [some (vm_r 0), some (vm_i v1), some (vm_i v2)] [] m (vm_qi Q)
  refine vm_gp [(.aload 0, 0, 0, []), (.getfield 2, 10, 3, [(9, 0)]), (.iload 1, 0, 0, [])] (pc1 := 5) (ls1 := [some (vm_r 0), some (vm_i v1), some (vm_i v2)]) (st1 := [vm_i v1, vm_r 9]) (m1 := m) (ob := ((true && vm_is 0 10) && true)) (by decide +kernel) rfl (vm_u (vm_u rfl (by decide +kernel)) rfl) ?_
  refine vm_gc (g := 59) (na := 2) (av := [vm_r 9, vm_i v1]) (rest := []) (i := (.invokevirtual 0, 59, 2, [])) (len := 3) (by decide +kernel) rfl rfl rfl (by decide +kernel) (by decide +kernel) rfl rfl (vm_u (vm_okh_v (c := 4) (by decide +kernel) (by decide +kernel)) (show vm_okn 59 2 0 0 0 2 = true by decide +kernel)) ?_
  refine vm_G.mono h ?_
  rintro _ m1 ⟨z1, rfl, h⟩
  show vm_G 110 8 [some (vm_r 0), some (vm_i v1), some (vm_i v2)] [vm_i z1] m1 _
  refine vm_gj (c := z1 = 0) (t := 27) (e := 11) (i := (.ifCond .eq 0, 27, 0, [])) (len := 3) (st1 := []) (by decide +kernel) rfl rfl (fun c1 => ?_) (fun c1 => ?_)
  · replace h := h.1 c1
    refine vm_gp [(.iconst (-1), 0, 0, [])] (pc1 := 28) (ls1 := [some (vm_r 0), some (vm_i v1), some (vm_i v2)]) (st1 := [vm_i (-1)]) (m1 := m1) (ob := true) (by decide +kernel) rfl rfl ?_
    exact vm_gr (r := some (vm_i (-1))) (i := (.ireturn, 1, 0, [])) (len := 1) (by decide +kernel) rfl rfl rfl ⟨_, rfl, h⟩
  · replace h := h.2 c1
    refine vm_gp [(.aload 0, 0, 0, []), (.getfield 2, 10, 3, [(9, 0)]), (.iload 2, 0, 0, [])] (pc1 := 16) (ls1 := [some (vm_r 0), some (vm_i v1), some (vm_i v2)]) (st1 := [vm_i v2, vm_r 9]) (m1 := m1) (ob := ((true && vm_is 0 10) && true)) (by decide +kernel) rfl (vm_u (vm_u rfl (by decide +kernel)) rfl) ?_
    refine vm_gc (g := 59) (na := 2) (av := [vm_r 9, vm_i v2]) (rest := []) (i := (.invokevirtual 0, 59, 2, [])) (len := 3) (by decide +kernel) rfl rfl rfl (by decide +kernel) (by decide +kernel) rfl rfl (vm_u (vm_okh_v (c := 4) (by decide +kernel) (by decide +kernel)) (show vm_okn 59 2 0 0 0 2 = true by decide +kernel)) ?_
    refine vm_G.mono h ?_
    rintro _ m2 ⟨z2, rfl, h⟩
    show vm_G 110 19 [some (vm_r 0), some (vm_i v1), some (vm_i v2)] [vm_i z2] m2 _
    refine vm_gj (c := z2 = 0) (t := 27) (e := 22) (i := (.ifCond .eq 0, 27, 0, [])) (len := 3) (st1 := []) (by decide +kernel) rfl rfl (fun c2 => ?_) (fun c2 => ?_)
    · replace h := h.1 c2
      refine vm_gp [(.iconst (-1), 0, 0, [])] (pc1 := 28) (ls1 := [some (vm_r 0), some (vm_i v1), some (vm_i v2)]) (st1 := [vm_i (-1)]) (m1 := m2) (ob := true) (by decide +kernel) rfl rfl ?_
      exact vm_gr (r := some (vm_i (-1))) (i := (.ireturn, 1, 0, [])) (len := 1) (by decide +kernel) rfl rfl rfl ⟨_, rfl, h⟩
    · replace h := h.2 c2
      refine vm_gp [(.iload 1, 0, 0, []), (.iload 2, 0, 0, [])] (pc1 := 24) (ls1 := [some (vm_r 0), some (vm_i v1), some (vm_i v2)]) (st1 := [vm_i v2, vm_i v1]) (m1 := m2) (ob := true) (by decide +kernel) rfl rfl ?_
      refine vm_gj (c := ¬ v1 = v2) (t := 29) (e := 27) (i := (.if_icmp .ne 0, 29, 0, [])) (len := 3) (st1 := []) (by decide +kernel) rfl rfl (fun c3 => ?_) (fun c3 => ?_)
      · replace h := h.1 c3
        refine vm_gp [(.aload 0, 0, 0, [])] (pc1 := 30) (ls1 := [some (vm_r 0), some (vm_i v1), some (vm_i v2)]) (st1 := [vm_r 0]) (m1 := m2) (ob := true) (by decide +kernel) rfl rfl ?_
        refine vm_gc (g := 114) (na := 1) (av := [vm_r 0]) (rest := []) (i := (.invokevirtual 0, 114, 1, [])) (len := 3) (by decide +kernel) rfl rfl rfl (by decide +kernel) (by decide +kernel) rfl rfl (vm_u (vm_okh_v (c := 10) (by decide +kernel) (by decide +kernel)) (show vm_okn 114 1 0 0 0 1 = true by decide +kernel)) ?_
        refine vm_G.mono h ?_
        rintro _ m3 ⟨rfl, h⟩
        show vm_G 110 33 [some (vm_r 0), some (vm_i v1), some (vm_i v2)] [] m3 _
        refine vm_gp [(.aload 0, 0, 0, []), (.getfield 2, 10, 3, [(9, 0)]), (.iload 1, 0, 0, []), (.iload 2, 0, 0, [])] (pc1 := 39) (ls1 := [some (vm_r 0), some (vm_i v1), some (vm_i v2)]) (st1 := [vm_i v2, vm_i v1, vm_r 9]) (m1 := m3) (ob := ((true && vm_is 0 10) && true)) (by decide +kernel) rfl (vm_u (vm_u rfl (by decide +kernel)) rfl) ?_
        refine vm_gc (g := 62) (na := 3) (av := [vm_r 9, vm_i v1, vm_i v2]) (rest := []) (i := (.invokevirtual 0, 62, 3, [])) (len := 3) (by decide +kernel) rfl rfl rfl (by decide +kernel) (by decide +kernel) rfl rfl (vm_u (vm_okh_v (c := 4) (by decide +kernel) (by decide +kernel)) (show vm_okn 62 3 0 0 0 3 = true by decide +kernel)) ?_
        refine vm_G.mono h ?_
        rintro _ m4 ⟨rfl, h⟩
        show vm_G 110 42 [some (vm_r 0), some (vm_i v1), some (vm_i v2)] [] m4 _
        refine vm_gp [(.aload 0, 0, 0, [])] (pc1 := 43) (ls1 := [some (vm_r 0), some (vm_i v1), some (vm_i v2)]) (st1 := [vm_r 0]) (m1 := m4) (ob := true) (by decide +kernel) rfl rfl ?_
        refine vm_gc (g := 137) (na := 1) (av := [vm_r 0]) (rest := []) (i := (.invokevirtual 0, 137, 1, [])) (len := 3) (by decide +kernel) rfl rfl rfl (by decide +kernel) (by decide +kernel) rfl rfl (vm_u (vm_okh_v (c := 10) (by decide +kernel) (by decide +kernel)) (show vm_okn 137 1 0 0 0 1 = true by decide +kernel)) ?_
        refine vm_G.mono h ?_
        rintro _ m5 ⟨rfl, h⟩
        show vm_G 110 46 [some (vm_r 0), some (vm_i v1), some (vm_i v2)] [] m5 _
        refine vm_gp [(.aload 0, 0, 0, []), (.getfield 2, 10, 10, [(67, 0)]), (.getfield 0, 1, 8, [])] (pc1 := 53) (ls1 := [some (vm_r 0), some (vm_i v1), some (vm_i v2)]) (st1 := [vm_i (m5 67 8)]) (m1 := m5) (ob := (((true && vm_is 0 10) && true) && vm_is 67 1)) (by decide +kernel) rfl (vm_u (vm_u (vm_u rfl (by decide +kernel)) rfl) (by decide +kernel)) ?_
        exact vm_gr (r := some (vm_i (m5 67 8))) (i := (.ireturn, 1, 0, [])) (len := 1) (by decide +kernel) rfl rfl rfl ⟨_, rfl, h⟩
      · replace h := h.2 c3
        refine vm_gp [(.iconst (-1), 0, 0, [])] (pc1 := 28) (ls1 := [some (vm_r 0), some (vm_i v1), some (vm_i v2)]) (st1 := [vm_i (-1)]) (m1 := m2) (ob := true) (by decide +kernel) rfl rfl ?_
        exact vm_gr (r := some (vm_i (-1))) (i := (.ireturn, 1, 0, [])) (len := 1) (by decide +kernel) rfl rfl rfl ⟨_, rfl, h⟩
abbrev ku10_keep_0 (v1 : Int) (m : vm_M) (Q : Int → vm_M → Prop) : Prop := vm_G 111 0 [some (vm_r 0), some (vm_i v1)] [] m (vm_qi Q)
set_option maxRecDepth 20000 in
theorem ru10_keep_0 {v1 : Int} {m : vm_M} {Q : Int → vm_M → Prop}  (h :
    ((v1 < 0 →
      Q (-1) m) ∧ (¬ v1 < 0 →
      ((2 ≤ v1 →
        Q (-1) m) ∧ (¬ 2 ≤ v1 →
        ((0 ≤ v1 ∧ v1 < 2)) ∧
        ((0 ≤ v1 ∧ v1 < 2)) ∧
        (vm_C 54 [vm_r (86 + 5 * (v1).toNat), vm_r 9] m (vm_qv (fun m1 =>
          ((0 ≤ v1 ∧ v1 < 2)) ∧
          Q ((vm_st m1 64 v1 1) 9 6) (vm_st m1 64 v1 1))))))))) : vm_C 111 [vm_r 0, vm_i v1] m (vm_qi Q) := by
  show vm_G 111 0 [some (vm_r 0), some (vm_i v1)] [] m (vm_qi Q)
  refine vm_gp [(.iload 1, 0, 0, [])] (pc1 := 1) (ls1 := [some (vm_r 0), some (vm_i v1)]) (st1 := [vm_i v1]) (m1 := m) (ob := true) (by decide +kernel) rfl rfl ?_
  refine vm_gj (c := v1 < 0) (t := 18) (e := 4) (i := (.ifCond .lt 0, 18, 0, [])) (len := 3) (st1 := []) (by decide +kernel) rfl rfl (fun c1 => ?_) (fun c1 => ?_)
  · replace h := h.1 c1
    refine vm_gp [(.iconst (-1), 0, 0, [])] (pc1 := 19) (ls1 := [some (vm_r 0), some (vm_i v1)]) (st1 := [vm_i (-1)]) (m1 := m) (ob := true) (by decide +kernel) rfl rfl ?_
    exact vm_gr (r := some (vm_i (-1))) (i := (.ireturn, 1, 0, [])) (len := 1) (by decide +kernel) rfl rfl rfl ⟨_, rfl, h⟩
  · replace h := h.2 c1
    refine vm_gp [(.iload 1, 0, 0, []), (.iconst 2, 0, 0, [])] (pc1 := 6) (ls1 := [some (vm_r 0), some (vm_i v1)]) (st1 := [vm_i 2, vm_i v1]) (m1 := m) (ob := true) (by decide +kernel) rfl rfl ?_
    refine vm_gj (c := 2 ≤ v1) (t := 18) (e := 9) (i := (.if_icmp .ge 0, 18, 0, [])) (len := 3) (st1 := []) (by decide +kernel) rfl rfl (fun c2 => ?_) (fun c2 => ?_)
    · replace h := h.1 c2
      refine vm_gp [(.iconst (-1), 0, 0, [])] (pc1 := 19) (ls1 := [some (vm_r 0), some (vm_i v1)]) (st1 := [vm_i (-1)]) (m1 := m) (ob := true) (by decide +kernel) rfl rfl ?_
      exact vm_gr (r := some (vm_i (-1))) (i := (.ireturn, 1, 0, [])) (len := 1) (by decide +kernel) rfl rfl rfl ⟨_, rfl, h⟩
    · replace h := h.2 c2
      obtain ⟨o5_0, h⟩ := h
      refine vm_gp [(.aload 0, 0, 0, []), (.getfield 2, 10, 7, [(63, 0)]), (.iload 1, 0, 0, []), (.aaload, 2, 63, [(86, 0)])] (pc1 := 15) (ls1 := [some (vm_r 0), some (vm_i v1)]) (st1 := [vm_r (86 + 5 * (v1).toNat)]) (m1 := m) (ob := (((((true && vm_is 0 10) && true) && decide (63 = 63)) && decide (0 ≤ v1 ∧ v1 < 2)) && true)) (by decide +kernel) rfl (vm_u (vm_t (vm_t (vm_u (vm_u rfl (by decide +kernel)) rfl) rfl) o5_0) rfl) ?_
      refine vm_gj1 (i := (.ifnonnull 0, 20, 0, [])) (len := 3) (t := 20) (st1 := []) (by decide +kernel) rfl rfl ?_
      obtain ⟨o6_0, h⟩ := h
      refine vm_gp [(.aload 0, 0, 0, []), (.getfield 2, 10, 7, [(63, 0)]), (.iload 1, 0, 0, []), (.aaload, 2, 63, [(86, 0)]), (.aload 0, 0, 0, []), (.getfield 2, 10, 3, [(9, 0)])] (pc1 := 30) (ls1 := [some (vm_r 0), some (vm_i v1)]) (st1 := [vm_r 9, vm_r (86 + 5 * (v1).toNat)]) (m1 := m) (ob := (((((((true && vm_is 0 10) && true) && decide (63 = 63)) && decide (0 ≤ v1 ∧ v1 < 2)) && true) && vm_is 0 10) && true)) (by decide +kernel) rfl (vm_u (vm_u (vm_u (vm_t (vm_t (vm_u (vm_u rfl (by decide +kernel)) rfl) rfl) o6_0) rfl) (by decide +kernel)) rfl) ?_
      refine vm_gc (g := 54) (na := 2) (av := [vm_r (86 + 5 * (v1).toNat), vm_r 9]) (rest := []) (i := (.invokevirtual 0, 54, 2, [])) (len := 3) (by decide +kernel) rfl rfl rfl (by decide +kernel) (by decide +kernel) rfl rfl (vm_u (vm_okh_v (c := 4) (by decide +kernel) (vm_is_st 2 o6_0 (by decide +kernel))) (show vm_okn 54 2 0 0 0 2 = true by decide +kernel)) ?_
      refine vm_G.mono h ?_
      rintro _ m1 ⟨rfl, h⟩
      show vm_G 111 33 [some (vm_r 0), some (vm_i v1)] [] m1 _
      obtain ⟨o7_0, h⟩ := h
      refine vm_gp [(.aload 0, 0, 0, []), (.getfield 2, 10, 8, [(64, 0)]), (.iload 1, 0, 0, []), (.iconst 1, 0, 0, []), (.bastore, 2, 102, []), (.aload 0, 0, 0, []), (.getfield 2, 10, 3, [(9, 0)]), (.getfield 0, 4, 6, [])] (pc1 := 47) (ls1 := [some (vm_r 0), some (vm_i v1)]) (st1 := [vm_i ((vm_st m1 64 v1 1) 9 6)]) (m1 := (vm_st m1 64 v1 1)) (ob := ((((((((true && vm_is 0 10) && true) && vm_ar 64 102 2) && decide (0 ≤ v1 ∧ v1 < 2)) && decide ((1 : Int) = 0 ∨ (1 : Int) = 1)) && vm_is 0 10) && true) && vm_is 9 4)) (by decide +kernel) rfl (vm_u (vm_u (vm_u (vm_t (vm_t (vm_u (vm_u (vm_u rfl (by decide +kernel)) rfl) (by decide +kernel)) o7_0) (by decide)) (by decide +kernel)) rfl) (by decide +kernel)) ?_
      exact vm_gr (r := some (vm_i ((vm_st m1 64 v1 1) 9 6))) (i := (.ireturn, 1, 0, [])) (len := 1) (by decide +kernel) rfl rfl rfl ⟨_, rfl, h⟩
abbrev ku10_restore_0 (v1 : Int) (m : vm_M) (Q : Int → vm_M → Prop) : Prop := vm_G 112 0 [some (vm_r 0), some (vm_i v1)] [] m (vm_qi Q)
set_option maxRecDepth 20000 in
theorem ru10_restore_0 {v1 : Int} {m : vm_M} {Q : Int → vm_M → Prop}  (h :
    ((v1 < 0 →
      Q (-1) m) ∧ (¬ v1 < 0 →
      ((2 ≤ v1 →
        Q (-1) m) ∧ (¬ 2 ≤ v1 →
        ((0 ≤ v1 ∧ v1 < 2)) ∧
        ((0 ≤ v1 ∧ v1 < 2)) ∧
        ((¬ (m 64 v1) = 0 →
          (vm_C 114 [vm_r 0] m (vm_qv (fun m1 =>
            ((0 ≤ v1 ∧ v1 < 2)) ∧
            (vm_C 54 [vm_r 9, vm_r (86 + 5 * (v1).toNat)] m1 (vm_qv (fun m2 =>
              Q (m2 9 6) m2))))))) ∧ (¬ ¬ (m 64 v1) = 0 →
          Q (-2) m))))))) : vm_C 112 [vm_r 0, vm_i v1] m (vm_qi Q) := by
  show vm_G 112 0 [some (vm_r 0), some (vm_i v1)] [] m (vm_qi Q)
  refine vm_gp [(.iload 1, 0, 0, [])] (pc1 := 1) (ls1 := [some (vm_r 0), some (vm_i v1)]) (st1 := [vm_i v1]) (m1 := m) (ob := true) (by decide +kernel) rfl rfl ?_
  refine vm_gj (c := v1 < 0) (t := 18) (e := 4) (i := (.ifCond .lt 0, 18, 0, [])) (len := 3) (st1 := []) (by decide +kernel) rfl rfl (fun c1 => ?_) (fun c1 => ?_)
  · replace h := h.1 c1
    refine vm_gp [(.iconst (-1), 0, 0, [])] (pc1 := 19) (ls1 := [some (vm_r 0), some (vm_i v1)]) (st1 := [vm_i (-1)]) (m1 := m) (ob := true) (by decide +kernel) rfl rfl ?_
    exact vm_gr (r := some (vm_i (-1))) (i := (.ireturn, 1, 0, [])) (len := 1) (by decide +kernel) rfl rfl rfl ⟨_, rfl, h⟩
  · replace h := h.2 c1
    refine vm_gp [(.iload 1, 0, 0, []), (.iconst 2, 0, 0, [])] (pc1 := 6) (ls1 := [some (vm_r 0), some (vm_i v1)]) (st1 := [vm_i 2, vm_i v1]) (m1 := m) (ob := true) (by decide +kernel) rfl rfl ?_
    refine vm_gj (c := 2 ≤ v1) (t := 18) (e := 9) (i := (.if_icmp .ge 0, 18, 0, [])) (len := 3) (st1 := []) (by decide +kernel) rfl rfl (fun c2 => ?_) (fun c2 => ?_)
    · replace h := h.1 c2
      refine vm_gp [(.iconst (-1), 0, 0, [])] (pc1 := 19) (ls1 := [some (vm_r 0), some (vm_i v1)]) (st1 := [vm_i (-1)]) (m1 := m) (ob := true) (by decide +kernel) rfl rfl ?_
      exact vm_gr (r := some (vm_i (-1))) (i := (.ireturn, 1, 0, [])) (len := 1) (by decide +kernel) rfl rfl rfl ⟨_, rfl, h⟩
    · replace h := h.2 c2
      obtain ⟨o5_0, h⟩ := h
      refine vm_gp [(.aload 0, 0, 0, []), (.getfield 2, 10, 7, [(63, 0)]), (.iload 1, 0, 0, []), (.aaload, 2, 63, [(86, 0)])] (pc1 := 15) (ls1 := [some (vm_r 0), some (vm_i v1)]) (st1 := [vm_r (86 + 5 * (v1).toNat)]) (m1 := m) (ob := (((((true && vm_is 0 10) && true) && decide (63 = 63)) && decide (0 ≤ v1 ∧ v1 < 2)) && true)) (by decide +kernel) rfl (vm_u (vm_t (vm_t (vm_u (vm_u rfl (by decide +kernel)) rfl) rfl) o5_0) rfl) ?_
      refine vm_gj1 (i := (.ifnonnull 0, 20, 0, [])) (len := 3) (t := 20) (st1 := []) (by decide +kernel) rfl rfl ?_
      obtain ⟨o6_0, h⟩ := h
      refine vm_gp [(.aload 0, 0, 0, []), (.getfield 2, 10, 8, [(64, 0)]), (.iload 1, 0, 0, []), (.baload, 2, 102, [])] (pc1 := 26) (ls1 := [some (vm_r 0), some (vm_i v1)]) (st1 := [vm_i (m 64 v1)]) (m1 := m) (ob := ((((true && vm_is 0 10) && true) && vm_ar 64 102 2) && decide (0 ≤ v1 ∧ v1 < 2))) (by decide +kernel) rfl (vm_t (vm_u (vm_u (vm_u rfl (by decide +kernel)) rfl) (by decide +kernel)) o6_0) ?_
      refine vm_gj (c := ¬ (m 64 v1) = 0) (t := 32) (e := 29) (i := (.ifCond .ne 0, 32, 0, [])) (len := 3) (st1 := []) (by decide +kernel) rfl rfl (fun c3 => ?_) (fun c3 => ?_)
      · replace h := h.1 c3
        refine vm_gp [(.aload 0, 0, 0, [])] (pc1 := 33) (ls1 := [some (vm_r 0), some (vm_i v1)]) (st1 := [vm_r 0]) (m1 := m) (ob := true) (by decide +kernel) rfl rfl ?_
        refine vm_gc (g := 114) (na := 1) (av := [vm_r 0]) (rest := []) (i := (.invokevirtual 0, 114, 1, [])) (len := 3) (by decide +kernel) rfl rfl rfl (by decide +kernel) (by decide +kernel) rfl rfl (vm_u (vm_okh_v (c := 10) (by decide +kernel) (by decide +kernel)) (show vm_okn 114 1 0 0 0 1 = true by decide +kernel)) ?_
        refine vm_G.mono h ?_
        rintro _ m1 ⟨rfl, h⟩
        show vm_G 112 36 [some (vm_r 0), some (vm_i v1)] [] m1 _
        obtain ⟨o8_0, h⟩ := h
        refine vm_gp [(.aload 0, 0, 0, []), (.getfield 2, 10, 3, [(9, 0)]), (.aload 0, 0, 0, []), (.getfield 2, 10, 7, [(63, 0)]), (.iload 1, 0, 0, []), (.aaload, 2, 63, [(86, 0)])] (pc1 := 46) (ls1 := [some (vm_r 0), some (vm_i v1)]) (st1 := [vm_r (86 + 5 * (v1).toNat), vm_r 9]) (m1 := m1) (ob := (((((((true && vm_is 0 10) && true) && vm_is 0 10) && true) && decide (63 = 63)) && decide (0 ≤ v1 ∧ v1 < 2)) && true)) (by decide +kernel) rfl (vm_u (vm_t (vm_t (vm_u (vm_u (vm_u (vm_u rfl (by decide +kernel)) rfl) (by decide +kernel)) rfl) rfl) o8_0) rfl) ?_
        refine vm_gc (g := 54) (na := 2) (av := [vm_r 9, vm_r (86 + 5 * (v1).toNat)]) (rest := []) (i := (.invokevirtual 0, 54, 2, [])) (len := 3) (by decide +kernel) rfl rfl rfl (by decide +kernel) (by decide +kernel) rfl rfl (vm_u (vm_okh_v (c := 4) (by decide +kernel) (by decide +kernel)) (show vm_okn 54 2 0 0 0 2 = true by decide +kernel)) ?_
        refine vm_G.mono h ?_
        rintro _ m2 ⟨rfl, h⟩
        show vm_G 112 49 [some (vm_r 0), some (vm_i v1)] [] m2 _
        refine vm_gp [(.aload 0, 0, 0, []), (.getfield 2, 10, 3, [(9, 0)]), (.getfield 0, 4, 6, [])] (pc1 := 56) (ls1 := [some (vm_r 0), some (vm_i v1)]) (st1 := [vm_i (m2 9 6)]) (m1 := m2) (ob := (((true && vm_is 0 10) && true) && vm_is 9 4)) (by decide +kernel) rfl (vm_u (vm_u (vm_u rfl (by decide +kernel)) rfl) (by decide +kernel)) ?_
        exact vm_gr (r := some (vm_i (m2 9 6))) (i := (.ireturn, 1, 0, [])) (len := 1) (by decide +kernel) rfl rfl rfl ⟨_, rfl, h⟩
      · replace h := h.2 c3
        refine vm_gp [(.iconst (-2), 0, 0, [])] (pc1 := 31) (ls1 := [some (vm_r 0), some (vm_i v1)]) (st1 := [vm_i (-2)]) (m1 := m) (ob := true) (by decide +kernel) rfl rfl ?_
        exact vm_gr (r := some (vm_i (-2))) (i := (.ireturn, 1, 0, [])) (len := 1) (by decide +kernel) rfl rfl rfl ⟨_, rfl, h⟩
abbrev ku10_undo_0  (m : vm_M) (Q : Int → vm_M → Prop) : Prop := vm_G 113 0 [some (vm_r 0)] [] m (vm_qi Q)
set_option maxRecDepth 20000 in
theorem ru10_undo_0  {m : vm_M} {Q : Int → vm_M → Prop}  (h :
    ((¬ (m 21 2) = 0 →
      (vm_C 36 [vm_r 21, vm_r 9] m (vm_qv (fun m1 =>
        Q ((vm_st m1 0 15 0) 21 2) (vm_st m1 0 15 0))))) ∧ (¬ ¬ (m 21 2) = 0 →
      Q (-1) m))) : vm_C 113 [vm_r 0] m (vm_qi Q) := by
  show vm_G 113 0 [some (vm_r 0)] [] m (vm_qi Q)
  refine vm_gp [(.aload 0, 0, 0, []), (.getfield 2, 10, 6, [(21, 0)]), (.getfield 0, 2, 2, [])] (pc1 := 7) (ls1 := [some (vm_r 0)]) (st1 := [vm_i (m 21 2)]) (m1 := m) (ob := (((true && vm_is 0 10) && true) && vm_is 21 2)) (by decide +kernel) rfl (vm_u (vm_u (vm_u rfl (by decide +kernel)) rfl) (by decide +kernel)) ?_
  refine vm_gj (c := ¬ (m 21 2) = 0) (t := 12) (e := 10) (i := (.ifCond .ne 0, 12, 0, [])) (len := 3) (st1 := []) (by decide +kernel) rfl rfl (fun c1 => ?_) (fun c1 => ?_)
  · replace h := h.1 c1
    refine vm_gp [(.aload 0, 0, 0, []), (.getfield 2, 10, 6, [(21, 0)]), (.aload 0, 0, 0, []), (.getfield 2, 10, 3, [(9, 0)])] (pc1 := 20) (ls1 := [some (vm_r 0)]) (st1 := [vm_r 9, vm_r 21]) (m1 := m) (ob := ((((true && vm_is 0 10) && true) && vm_is 0 10) && true)) (by decide +kernel) rfl (vm_u (vm_u (vm_u (vm_u rfl (by decide +kernel)) rfl) (by decide +kernel)) rfl) ?_
    refine vm_gc (g := 36) (na := 2) (av := [vm_r 21, vm_r 9]) (rest := []) (i := (.invokevirtual 0, 36, 2, [])) (len := 3) (by decide +kernel) rfl rfl rfl (by decide +kernel) (by decide +kernel) rfl rfl (vm_u (vm_okh_v (c := 2) (by decide +kernel) (by decide +kernel)) (show vm_okn 36 2 0 0 0 2 = true by decide +kernel)) ?_
    refine vm_G.mono h ?_
    rintro _ m1 ⟨rfl, h⟩
    show vm_G 113 23 [some (vm_r 0)] [] m1 _
    refine vm_gp [(.aload 0, 0, 0, []), (.iconst 0, 0, 0, []), (.putfield 3, 10, 15, []), (.aload 0, 0, 0, []), (.getfield 2, 10, 6, [(21, 0)]), (.getfield 0, 2, 2, [])] (pc1 := 35) (ls1 := [some (vm_r 0)]) (st1 := [vm_i ((vm_st m1 0 15 0) 21 2)]) (m1 := (vm_st m1 0 15 0)) (ob := (((((true && vm_is 0 10) && decide ((0 : Int) = 0 ∨ (0 : Int) = 1)) && vm_is 0 10) && true) && vm_is 21 2)) (by decide +kernel) rfl (vm_u (vm_u (vm_u (vm_t (vm_u rfl (by decide +kernel)) (by decide)) (by decide +kernel)) rfl) (by decide +kernel)) ?_
    exact vm_gr (r := some (vm_i ((vm_st m1 0 15 0) 21 2))) (i := (.ireturn, 1, 0, [])) (len := 1) (by decide +kernel) rfl rfl rfl ⟨_, rfl, h⟩
  · replace h := h.2 c1
    refine vm_gp [(.iconst (-1), 0, 0, [])] (pc1 := 11) (ls1 := [some (vm_r 0)]) (st1 := [vm_i (-1)]) (m1 := m) (ob := true) (by decide +kernel) rfl rfl ?_
    exact vm_gr (r := some (vm_i (-1))) (i := (.ireturn, 1, 0, [])) (len := 1) (by decide +kernel) rfl rfl rfl ⟨_, rfl, h⟩
abbrev ku10_beginOperation_0  (m : vm_M) (Q : vm_M → Prop) : Prop := vm_G 114 0 [some (vm_r 0)] [] m (vm_qv Q)
set_option maxRecDepth 20000 in
theorem ru10_beginOperation_0  {m : vm_M} {Q : vm_M → Prop}  (h :
    (vm_C 35 [vm_r 21, vm_r 9] m (vm_qv (fun m1 =>
      Q (vm_st m1 0 15 0))))) : vm_C 114 [vm_r 0] m (vm_qv Q) := by
  show vm_G 114 0 [some (vm_r 0)] [] m (vm_qv Q)
  refine vm_gp [(.aload 0, 0, 0, []), (.getfield 2, 10, 6, [(21, 0)]), (.aload 0, 0, 0, []), (.getfield 2, 10, 3, [(9, 0)])] (pc1 := 8) (ls1 := [some (vm_r 0)]) (st1 := [vm_r 9, vm_r 21]) (m1 := m) (ob := ((((true && vm_is 0 10) && true) && vm_is 0 10) && true)) (by decide +kernel) rfl (vm_u (vm_u (vm_u (vm_u rfl (by decide +kernel)) rfl) (by decide +kernel)) rfl) ?_
  refine vm_gc (g := 35) (na := 2) (av := [vm_r 21, vm_r 9]) (rest := []) (i := (.invokevirtual 0, 35, 2, [])) (len := 3) (by decide +kernel) rfl rfl rfl (by decide +kernel) (by decide +kernel) rfl rfl (vm_u (vm_okh_v (c := 2) (by decide +kernel) (by decide +kernel)) (show vm_okn 35 2 0 0 0 2 = true by decide +kernel)) ?_
  refine vm_G.mono h ?_
  rintro _ m1 ⟨rfl, h⟩
  show vm_G 114 11 [some (vm_r 0)] [] m1 _
  refine vm_gp [(.aload 0, 0, 0, []), (.iconst 0, 0, 0, []), (.putfield 3, 10, 15, [])] (pc1 := 16) (ls1 := [some (vm_r 0)]) (st1 := []) (m1 := (vm_st m1 0 15 0)) (ob := ((true && vm_is 0 10) && decide ((0 : Int) = 0 ∨ (0 : Int) = 1))) (by decide +kernel) rfl (vm_t (vm_u rfl (by decide +kernel)) (by decide)) ?_
  exact vm_gr (r := none) (i := (.return_, 0, 0, [])) (len := 1) (by decide +kernel) rfl rfl rfl ⟨rfl, h⟩
abbrev ku10_value_0 (v1 : Int) (m : vm_M) (Q : Int → vm_M → Prop) : Prop := vm_G 115 0 [some (vm_r 0), some (vm_i v1)] [] m (vm_qi Q)
set_option maxRecDepth 20000 in
theorem ru10_value_0 {v1 : Int} {m : vm_M} {Q : Int → vm_M → Prop}  (h :
    ((v1 < 0 →
      ((v1 = 6 →
        Q (m 3 2) m) ∧ (¬ v1 = 6 →
        ((v1 = 7 →
          Q (m 9 4) m) ∧ (¬ v1 = 7 →
          ((v1 = 8 →
            (((m 9 5) = 0 →
              Q 0 m) ∧ (¬ (m 9 5) = 0 →
              Q 1 m))) ∧ (¬ v1 = 8 →
            ((v1 = 9 →
              Q (m 3 3) m) ∧ (¬ v1 = 9 →
              ((v1 = 10 →
                (vm_C 58 [vm_r 9] m (vm_qi (fun z1 m1 =>
                  Q z1 m1)))) ∧ (¬ v1 = 10 →
                ((v1 = 11 →
                  Q (m 9 6) m) ∧ (¬ v1 = 11 →
                  ((v1 = 12 →
                    (vm_C 137 [vm_r 0] m (vm_qv (fun m2 =>
                      Q (m2 67 8) m2)))) ∧ (¬ v1 = 12 →
                    ((v1 = 13 →
                      (vm_C 60 [vm_r 9, vm_i 0, vm_i (m 9 6)] m (vm_qi (fun z3 m3 =>
                        Q z3 m3)))) ∧ (¬ v1 = 13 →
                      Q (-1) m))))))))))))))))) ∧ (¬ v1 < 0 →
      ((6 ≤ v1 →
        ((v1 = 6 →
          Q (m 3 2) m) ∧ (¬ v1 = 6 →
          ((v1 = 7 →
            Q (m 9 4) m) ∧ (¬ v1 = 7 →
            ((v1 = 8 →
              (((m 9 5) = 0 →
                Q 0 m) ∧ (¬ (m 9 5) = 0 →
                Q 1 m))) ∧ (¬ v1 = 8 →
              ((v1 = 9 →
                Q (m 3 3) m) ∧ (¬ v1 = 9 →
                ((v1 = 10 →
                  (vm_C 58 [vm_r 9] m (vm_qi (fun z4 m4 =>
                    Q z4 m4)))) ∧ (¬ v1 = 10 →
                  ((v1 = 11 →
                    Q (m 9 6) m) ∧ (¬ v1 = 11 →
                    ((v1 = 12 →
                      (vm_C 137 [vm_r 0] m (vm_qv (fun m5 =>
                        Q (m5 67 8) m5)))) ∧ (¬ v1 = 12 →
                      ((v1 = 13 →
                        (vm_C 60 [vm_r 9, vm_i 0, vm_i (m 9 6)] m (vm_qi (fun z6 m6 =>
                          Q z6 m6)))) ∧ (¬ v1 = 13 →
                        Q (-1) m))))))))))))))))) ∧ (¬ 6 ≤ v1 →
        ((0 ≤ v1 ∧ v1 < 6)) ∧
        Q (m 10 v1) m))))) : vm_C 115 [vm_r 0, vm_i v1] m (vm_qi Q) := by
  show vm_G 115 0 [some (vm_r 0), some (vm_i v1)] [] m (vm_qi Q)
  refine vm_gp [(.iload 1, 0, 0, [])] (pc1 := 1) (ls1 := [some (vm_r 0), some (vm_i v1)]) (st1 := [vm_i v1]) (m1 := m) (ob := true) (by decide +kernel) rfl rfl ?_
  refine vm_gj (c := v1 < 0) (t := 20) (e := 4) (i := (.ifCond .lt 0, 20, 0, [])) (len := 3) (st1 := []) (by decide +kernel) rfl rfl (fun c1 => ?_) (fun c1 => ?_)
  · replace h := h.1 c1
    refine vm_gp [(.iload 1, 0, 0, [])] (pc1 := 21) (ls1 := [some (vm_r 0), some (vm_i v1)]) (st1 := [vm_i v1]) (m1 := m) (ob := true) (by decide +kernel) rfl rfl ?_
    by_cases c2 : v1 = 6
    · replace h := h.1 c2
      refine vm_gj1 (i := (.tableswitch 0 0 0 #[], 152, 0, [(6, 68), (7, 76), (8, 84), (9, 100), (10, 108), (11, 116), (12, 124), (13, 136)])) (len := 47) (t := 68) (st1 := []) (by decide +kernel) rfl (by rw [c2]; rfl) ?_
      refine vm_gp [(.aload 0, 0, 0, []), (.getfield 2, 10, 1, [(3, 0)]), (.getfield 0, 0, 2, [])] (pc1 := 75) (ls1 := [some (vm_r 0), some (vm_i v1)]) (st1 := [vm_i (m 3 2)]) (m1 := m) (ob := (((true && vm_is 0 10) && true) && vm_is 3 0)) (by decide +kernel) rfl (vm_u (vm_u (vm_u rfl (by decide +kernel)) rfl) (by decide +kernel)) ?_
      exact vm_gr (r := some (vm_i (m 3 2))) (i := (.ireturn, 1, 0, [])) (len := 1) (by decide +kernel) rfl rfl rfl ⟨_, rfl, h⟩
    · replace h := h.2 c2
      by_cases c3 : v1 = 7
      · replace h := h.1 c3
        refine vm_gj1 (i := (.tableswitch 0 0 0 #[], 152, 0, [(6, 68), (7, 76), (8, 84), (9, 100), (10, 108), (11, 116), (12, 124), (13, 136)])) (len := 47) (t := 76) (st1 := []) (by decide +kernel) rfl (by rw [c3]; rfl) ?_
        refine vm_gp [(.aload 0, 0, 0, []), (.getfield 2, 10, 3, [(9, 0)]), (.getfield 0, 4, 4, [])] (pc1 := 83) (ls1 := [some (vm_r 0), some (vm_i v1)]) (st1 := [vm_i (m 9 4)]) (m1 := m) (ob := (((true && vm_is 0 10) && true) && vm_is 9 4)) (by decide +kernel) rfl (vm_u (vm_u (vm_u rfl (by decide +kernel)) rfl) (by decide +kernel)) ?_
        exact vm_gr (r := some (vm_i (m 9 4))) (i := (.ireturn, 1, 0, [])) (len := 1) (by decide +kernel) rfl rfl rfl ⟨_, rfl, h⟩
      · replace h := h.2 c3
        by_cases c4 : v1 = 8
        · replace h := h.1 c4
          refine vm_gj1 (i := (.tableswitch 0 0 0 #[], 152, 0, [(6, 68), (7, 76), (8, 84), (9, 100), (10, 108), (11, 116), (12, 124), (13, 136)])) (len := 47) (t := 84) (st1 := []) (by decide +kernel) rfl (by rw [c4]; rfl) ?_
          refine vm_gp [(.aload 0, 0, 0, []), (.getfield 2, 10, 3, [(9, 0)]), (.getfield 0, 4, 5, [])] (pc1 := 91) (ls1 := [some (vm_r 0), some (vm_i v1)]) (st1 := [vm_i (m 9 5)]) (m1 := m) (ob := (((true && vm_is 0 10) && true) && vm_is 9 4)) (by decide +kernel) rfl (vm_u (vm_u (vm_u rfl (by decide +kernel)) rfl) (by decide +kernel)) ?_
          refine vm_gj (c := (m 9 5) = 0) (t := 98) (e := 94) (i := (.ifCond .eq 0, 98, 0, [])) (len := 3) (st1 := []) (by decide +kernel) rfl rfl (fun c5 => ?_) (fun c5 => ?_)
          · replace h := h.1 c5
            refine vm_gp [(.iconst 0, 0, 0, [])] (pc1 := 99) (ls1 := [some (vm_r 0), some (vm_i v1)]) (st1 := [vm_i 0]) (m1 := m) (ob := true) (by decide +kernel) rfl rfl ?_
            exact vm_gr (r := some (vm_i 0)) (i := (.ireturn, 1, 0, [])) (len := 1) (by decide +kernel) rfl rfl rfl ⟨_, rfl, h⟩
          · replace h := h.2 c5
            refine vm_gp [(.iconst 1, 0, 0, []), (.goto 0, 99, 0, [])] (pc1 := 99) (ls1 := [some (vm_r 0), some (vm_i v1)]) (st1 := [vm_i 1]) (m1 := m) (ob := true) (by decide +kernel) rfl rfl ?_
            exact vm_gr (r := some (vm_i 1)) (i := (.ireturn, 1, 0, [])) (len := 1) (by decide +kernel) rfl rfl rfl ⟨_, rfl, h⟩
        · replace h := h.2 c4
          by_cases c6 : v1 = 9
          · replace h := h.1 c6
            refine vm_gj1 (i := (.tableswitch 0 0 0 #[], 152, 0, [(6, 68), (7, 76), (8, 84), (9, 100), (10, 108), (11, 116), (12, 124), (13, 136)])) (len := 47) (t := 100) (st1 := []) (by decide +kernel) rfl (by rw [c6]; rfl) ?_
            refine vm_gp [(.aload 0, 0, 0, []), (.getfield 2, 10, 1, [(3, 0)]), (.getfield 0, 0, 3, [])] (pc1 := 107) (ls1 := [some (vm_r 0), some (vm_i v1)]) (st1 := [vm_i (m 3 3)]) (m1 := m) (ob := (((true && vm_is 0 10) && true) && vm_is 3 0)) (by decide +kernel) rfl (vm_u (vm_u (vm_u rfl (by decide +kernel)) rfl) (by decide +kernel)) ?_
            exact vm_gr (r := some (vm_i (m 3 3))) (i := (.ireturn, 1, 0, [])) (len := 1) (by decide +kernel) rfl rfl rfl ⟨_, rfl, h⟩
          · replace h := h.2 c6
            by_cases c7 : v1 = 10
            · replace h := h.1 c7
              refine vm_gj1 (i := (.tableswitch 0 0 0 #[], 152, 0, [(6, 68), (7, 76), (8, 84), (9, 100), (10, 108), (11, 116), (12, 124), (13, 136)])) (len := 47) (t := 108) (st1 := []) (by decide +kernel) rfl (by rw [c7]; rfl) ?_
              refine vm_gp [(.aload 0, 0, 0, []), (.getfield 2, 10, 3, [(9, 0)])] (pc1 := 112) (ls1 := [some (vm_r 0), some (vm_i v1)]) (st1 := [vm_r 9]) (m1 := m) (ob := ((true && vm_is 0 10) && true)) (by decide +kernel) rfl (vm_u (vm_u rfl (by decide +kernel)) rfl) ?_
              refine vm_gc (g := 58) (na := 1) (av := [vm_r 9]) (rest := []) (i := (.invokevirtual 0, 58, 1, [])) (len := 3) (by decide +kernel) rfl rfl rfl (by decide +kernel) (by decide +kernel) rfl rfl (vm_u (vm_okh_v (c := 4) (by decide +kernel) (by decide +kernel)) (show vm_okn 58 1 0 0 0 1 = true by decide +kernel)) ?_
              refine vm_G.mono h ?_
              rintro _ m1 ⟨z1, rfl, h⟩
              show vm_G 115 115 [some (vm_r 0), some (vm_i v1)] [vm_i z1] m1 _
              exact vm_gr (r := some (vm_i z1)) (i := (.ireturn, 1, 0, [])) (len := 1) (by decide +kernel) rfl rfl rfl ⟨_, rfl, h⟩
            · replace h := h.2 c7
              by_cases c8 : v1 = 11
              · replace h := h.1 c8
                refine vm_gj1 (i := (.tableswitch 0 0 0 #[], 152, 0, [(6, 68), (7, 76), (8, 84), (9, 100), (10, 108), (11, 116), (12, 124), (13, 136)])) (len := 47) (t := 116) (st1 := []) (by decide +kernel) rfl (by rw [c8]; rfl) ?_
                refine vm_gp [(.aload 0, 0, 0, []), (.getfield 2, 10, 3, [(9, 0)]), (.getfield 0, 4, 6, [])] (pc1 := 123) (ls1 := [some (vm_r 0), some (vm_i v1)]) (st1 := [vm_i (m 9 6)]) (m1 := m) (ob := (((true && vm_is 0 10) && true) && vm_is 9 4)) (by decide +kernel) rfl (vm_u (vm_u (vm_u rfl (by decide +kernel)) rfl) (by decide +kernel)) ?_
                exact vm_gr (r := some (vm_i (m 9 6))) (i := (.ireturn, 1, 0, [])) (len := 1) (by decide +kernel) rfl rfl rfl ⟨_, rfl, h⟩
              · replace h := h.2 c8
                by_cases c9 : v1 = 12
                · replace h := h.1 c9
                  refine vm_gj1 (i := (.tableswitch 0 0 0 #[], 152, 0, [(6, 68), (7, 76), (8, 84), (9, 100), (10, 108), (11, 116), (12, 124), (13, 136)])) (len := 47) (t := 124) (st1 := []) (by decide +kernel) rfl (by rw [c9]; rfl) ?_
                  refine vm_gp [(.aload 0, 0, 0, [])] (pc1 := 125) (ls1 := [some (vm_r 0), some (vm_i v1)]) (st1 := [vm_r 0]) (m1 := m) (ob := true) (by decide +kernel) rfl rfl ?_
                  refine vm_gc (g := 137) (na := 1) (av := [vm_r 0]) (rest := []) (i := (.invokevirtual 0, 137, 1, [])) (len := 3) (by decide +kernel) rfl rfl rfl (by decide +kernel) (by decide +kernel) rfl rfl (vm_u (vm_okh_v (c := 10) (by decide +kernel) (by decide +kernel)) (show vm_okn 137 1 0 0 0 1 = true by decide +kernel)) ?_
                  refine vm_G.mono h ?_
                  rintro _ m2 ⟨rfl, h⟩
                  show vm_G 115 128 [some (vm_r 0), some (vm_i v1)] [] m2 _
                  refine vm_gp [(.aload 0, 0, 0, []), (.getfield 2, 10, 10, [(67, 0)]), (.getfield 0, 1, 8, [])] (pc1 := 135) (ls1 := [some (vm_r 0), some (vm_i v1)]) (st1 := [vm_i (m2 67 8)]) (m1 := m2) (ob := (((true && vm_is 0 10) && true) && vm_is 67 1)) (by decide +kernel) rfl (vm_u (vm_u (vm_u rfl (by decide +kernel)) rfl) (by decide +kernel)) ?_
                  exact vm_gr (r := some (vm_i (m2 67 8))) (i := (.ireturn, 1, 0, [])) (len := 1) (by decide +kernel) rfl rfl rfl ⟨_, rfl, h⟩
                · replace h := h.2 c9
                  by_cases c10 : v1 = 13
                  · replace h := h.1 c10
                    refine vm_gj1 (i := (.tableswitch 0 0 0 #[], 152, 0, [(6, 68), (7, 76), (8, 84), (9, 100), (10, 108), (11, 116), (12, 124), (13, 136)])) (len := 47) (t := 136) (st1 := []) (by decide +kernel) rfl (by rw [c10]; rfl) ?_
                    refine vm_gp [(.aload 0, 0, 0, []), (.getfield 2, 10, 3, [(9, 0)]), (.iconst 0, 0, 0, []), (.aload 0, 0, 0, []), (.getfield 2, 10, 3, [(9, 0)]), (.getfield 0, 4, 6, [])] (pc1 := 148) (ls1 := [some (vm_r 0), some (vm_i v1)]) (st1 := [vm_i (m 9 6), vm_i 0, vm_r 9]) (m1 := m) (ob := (((((true && vm_is 0 10) && true) && vm_is 0 10) && true) && vm_is 9 4)) (by decide +kernel) rfl (vm_u (vm_u (vm_u (vm_u (vm_u rfl (by decide +kernel)) rfl) (by decide +kernel)) rfl) (by decide +kernel)) ?_
                    refine vm_gc (g := 60) (na := 3) (av := [vm_r 9, vm_i 0, vm_i (m 9 6)]) (rest := []) (i := (.invokevirtual 0, 60, 3, [])) (len := 3) (by decide +kernel) rfl rfl rfl (by decide +kernel) (by decide +kernel) rfl rfl (vm_u (vm_okh_v (c := 4) (by decide +kernel) (by decide +kernel)) (show vm_okn 60 3 0 0 0 3 = true by decide +kernel)) ?_
                    refine vm_G.mono h ?_
                    rintro _ m3 ⟨z3, rfl, h⟩
                    show vm_G 115 151 [some (vm_r 0), some (vm_i v1)] [vm_i z3] m3 _
                    exact vm_gr (r := some (vm_i z3)) (i := (.ireturn, 1, 0, [])) (len := 1) (by decide +kernel) rfl rfl rfl ⟨_, rfl, h⟩
                  · replace h := h.2 c10
                    refine vm_gj1 (i := (.tableswitch 0 0 0 #[], 152, 0, [(6, 68), (7, 76), (8, 84), (9, 100), (10, 108), (11, 116), (12, 124), (13, 136)])) (len := 47) (t := 152) (st1 := []) (by decide +kernel) rfl (by simp only [vm_jmp, vm_sw, cond, decide_eq_false c2, decide_eq_false c3, decide_eq_false c4, decide_eq_false c6, decide_eq_false c7, decide_eq_false c8, decide_eq_false c9, decide_eq_false c10]) ?_
                    refine vm_gp [(.iconst (-1), 0, 0, [])] (pc1 := 153) (ls1 := [some (vm_r 0), some (vm_i v1)]) (st1 := [vm_i (-1)]) (m1 := m) (ob := true) (by decide +kernel) rfl rfl ?_
                    exact vm_gr (r := some (vm_i (-1))) (i := (.ireturn, 1, 0, [])) (len := 1) (by decide +kernel) rfl rfl rfl ⟨_, rfl, h⟩
  · replace h := h.2 c1
    refine vm_gp [(.iload 1, 0, 0, []), (.iconst 6, 0, 0, [])] (pc1 := 7) (ls1 := [some (vm_r 0), some (vm_i v1)]) (st1 := [vm_i 6, vm_i v1]) (m1 := m) (ob := true) (by decide +kernel) rfl rfl ?_
    refine vm_gj (c := 6 ≤ v1) (t := 20) (e := 10) (i := (.if_icmp .ge 0, 20, 0, [])) (len := 3) (st1 := []) (by decide +kernel) rfl rfl (fun c11 => ?_) (fun c11 => ?_)
    · replace h := h.1 c11
      refine vm_gp [(.iload 1, 0, 0, [])] (pc1 := 21) (ls1 := [some (vm_r 0), some (vm_i v1)]) (st1 := [vm_i v1]) (m1 := m) (ob := true) (by decide +kernel) rfl rfl ?_
      by_cases c12 : v1 = 6
      · replace h := h.1 c12
        refine vm_gj1 (i := (.tableswitch 0 0 0 #[], 152, 0, [(6, 68), (7, 76), (8, 84), (9, 100), (10, 108), (11, 116), (12, 124), (13, 136)])) (len := 47) (t := 68) (st1 := []) (by decide +kernel) rfl (by rw [c12]; rfl) ?_
        refine vm_gp [(.aload 0, 0, 0, []), (.getfield 2, 10, 1, [(3, 0)]), (.getfield 0, 0, 2, [])] (pc1 := 75) (ls1 := [some (vm_r 0), some (vm_i v1)]) (st1 := [vm_i (m 3 2)]) (m1 := m) (ob := (((true && vm_is 0 10) && true) && vm_is 3 0)) (by decide +kernel) rfl (vm_u (vm_u (vm_u rfl (by decide +kernel)) rfl) (by decide +kernel)) ?_
        exact vm_gr (r := some (vm_i (m 3 2))) (i := (.ireturn, 1, 0, [])) (len := 1) (by decide +kernel) rfl rfl rfl ⟨_, rfl, h⟩
      · replace h := h.2 c12
        by_cases c13 : v1 = 7
        · replace h := h.1 c13
          refine vm_gj1 (i := (.tableswitch 0 0 0 #[], 152, 0, [(6, 68), (7, 76), (8, 84), (9, 100), (10, 108), (11, 116), (12, 124), (13, 136)])) (len := 47) (t := 76) (st1 := []) (by decide +kernel) rfl (by rw [c13]; rfl) ?_
          refine vm_gp [(.aload 0, 0, 0, []), (.getfield 2, 10, 3, [(9, 0)]), (.getfield 0, 4, 4, [])] (pc1 := 83) (ls1 := [some (vm_r 0), some (vm_i v1)]) (st1 := [vm_i (m 9 4)]) (m1 := m) (ob := (((true && vm_is 0 10) && true) && vm_is 9 4)) (by decide +kernel) rfl (vm_u (vm_u (vm_u rfl (by decide +kernel)) rfl) (by decide +kernel)) ?_
          exact vm_gr (r := some (vm_i (m 9 4))) (i := (.ireturn, 1, 0, [])) (len := 1) (by decide +kernel) rfl rfl rfl ⟨_, rfl, h⟩
        · replace h := h.2 c13
          by_cases c14 : v1 = 8
          · replace h := h.1 c14
            refine vm_gj1 (i := (.tableswitch 0 0 0 #[], 152, 0, [(6, 68), (7, 76), (8, 84), (9, 100), (10, 108), (11, 116), (12, 124), (13, 136)])) (len := 47) (t := 84) (st1 := []) (by decide +kernel) rfl (by rw [c14]; rfl) ?_
            refine vm_gp [(.aload 0, 0, 0, []), (.getfield 2, 10, 3, [(9, 0)]), (.getfield 0, 4, 5, [])] (pc1 := 91) (ls1 := [some (vm_r 0), some (vm_i v1)]) (st1 := [vm_i (m 9 5)]) (m1 := m) (ob := (((true && vm_is 0 10) && true) && vm_is 9 4)) (by decide +kernel) rfl (vm_u (vm_u (vm_u rfl (by decide +kernel)) rfl) (by decide +kernel)) ?_
            refine vm_gj (c := (m 9 5) = 0) (t := 98) (e := 94) (i := (.ifCond .eq 0, 98, 0, [])) (len := 3) (st1 := []) (by decide +kernel) rfl rfl (fun c15 => ?_) (fun c15 => ?_)
            · replace h := h.1 c15
              refine vm_gp [(.iconst 0, 0, 0, [])] (pc1 := 99) (ls1 := [some (vm_r 0), some (vm_i v1)]) (st1 := [vm_i 0]) (m1 := m) (ob := true) (by decide +kernel) rfl rfl ?_
              exact vm_gr (r := some (vm_i 0)) (i := (.ireturn, 1, 0, [])) (len := 1) (by decide +kernel) rfl rfl rfl ⟨_, rfl, h⟩
            · replace h := h.2 c15
              refine vm_gp [(.iconst 1, 0, 0, []), (.goto 0, 99, 0, [])] (pc1 := 99) (ls1 := [some (vm_r 0), some (vm_i v1)]) (st1 := [vm_i 1]) (m1 := m) (ob := true) (by decide +kernel) rfl rfl ?_
              exact vm_gr (r := some (vm_i 1)) (i := (.ireturn, 1, 0, [])) (len := 1) (by decide +kernel) rfl rfl rfl ⟨_, rfl, h⟩
          · replace h := h.2 c14
            by_cases c16 : v1 = 9
            · replace h := h.1 c16
              refine vm_gj1 (i := (.tableswitch 0 0 0 #[], 152, 0, [(6, 68), (7, 76), (8, 84), (9, 100), (10, 108), (11, 116), (12, 124), (13, 136)])) (len := 47) (t := 100) (st1 := []) (by decide +kernel) rfl (by rw [c16]; rfl) ?_
              refine vm_gp [(.aload 0, 0, 0, []), (.getfield 2, 10, 1, [(3, 0)]), (.getfield 0, 0, 3, [])] (pc1 := 107) (ls1 := [some (vm_r 0), some (vm_i v1)]) (st1 := [vm_i (m 3 3)]) (m1 := m) (ob := (((true && vm_is 0 10) && true) && vm_is 3 0)) (by decide +kernel) rfl (vm_u (vm_u (vm_u rfl (by decide +kernel)) rfl) (by decide +kernel)) ?_
              exact vm_gr (r := some (vm_i (m 3 3))) (i := (.ireturn, 1, 0, [])) (len := 1) (by decide +kernel) rfl rfl rfl ⟨_, rfl, h⟩
            · replace h := h.2 c16
              by_cases c17 : v1 = 10
              · replace h := h.1 c17
                refine vm_gj1 (i := (.tableswitch 0 0 0 #[], 152, 0, [(6, 68), (7, 76), (8, 84), (9, 100), (10, 108), (11, 116), (12, 124), (13, 136)])) (len := 47) (t := 108) (st1 := []) (by decide +kernel) rfl (by rw [c17]; rfl) ?_
                refine vm_gp [(.aload 0, 0, 0, []), (.getfield 2, 10, 3, [(9, 0)])] (pc1 := 112) (ls1 := [some (vm_r 0), some (vm_i v1)]) (st1 := [vm_r 9]) (m1 := m) (ob := ((true && vm_is 0 10) && true)) (by decide +kernel) rfl (vm_u (vm_u rfl (by decide +kernel)) rfl) ?_
                refine vm_gc (g := 58) (na := 1) (av := [vm_r 9]) (rest := []) (i := (.invokevirtual 0, 58, 1, [])) (len := 3) (by decide +kernel) rfl rfl rfl (by decide +kernel) (by decide +kernel) rfl rfl (vm_u (vm_okh_v (c := 4) (by decide +kernel) (by decide +kernel)) (show vm_okn 58 1 0 0 0 1 = true by decide +kernel)) ?_
                refine vm_G.mono h ?_
                rintro _ m4 ⟨z4, rfl, h⟩
                show vm_G 115 115 [some (vm_r 0), some (vm_i v1)] [vm_i z4] m4 _
                exact vm_gr (r := some (vm_i z4)) (i := (.ireturn, 1, 0, [])) (len := 1) (by decide +kernel) rfl rfl rfl ⟨_, rfl, h⟩
              · replace h := h.2 c17
                by_cases c18 : v1 = 11
                · replace h := h.1 c18
                  refine vm_gj1 (i := (.tableswitch 0 0 0 #[], 152, 0, [(6, 68), (7, 76), (8, 84), (9, 100), (10, 108), (11, 116), (12, 124), (13, 136)])) (len := 47) (t := 116) (st1 := []) (by decide +kernel) rfl (by rw [c18]; rfl) ?_
                  refine vm_gp [(.aload 0, 0, 0, []), (.getfield 2, 10, 3, [(9, 0)]), (.getfield 0, 4, 6, [])] (pc1 := 123) (ls1 := [some (vm_r 0), some (vm_i v1)]) (st1 := [vm_i (m 9 6)]) (m1 := m) (ob := (((true && vm_is 0 10) && true) && vm_is 9 4)) (by decide +kernel) rfl (vm_u (vm_u (vm_u rfl (by decide +kernel)) rfl) (by decide +kernel)) ?_
                  exact vm_gr (r := some (vm_i (m 9 6))) (i := (.ireturn, 1, 0, [])) (len := 1) (by decide +kernel) rfl rfl rfl ⟨_, rfl, h⟩
                · replace h := h.2 c18
                  by_cases c19 : v1 = 12
                  · replace h := h.1 c19
                    refine vm_gj1 (i := (.tableswitch 0 0 0 #[], 152, 0, [(6, 68), (7, 76), (8, 84), (9, 100), (10, 108), (11, 116), (12, 124), (13, 136)])) (len := 47) (t := 124) (st1 := []) (by decide +kernel) rfl (by rw [c19]; rfl) ?_
                    refine vm_gp [(.aload 0, 0, 0, [])] (pc1 := 125) (ls1 := [some (vm_r 0), some (vm_i v1)]) (st1 := [vm_r 0]) (m1 := m) (ob := true) (by decide +kernel) rfl rfl ?_
                    refine vm_gc (g := 137) (na := 1) (av := [vm_r 0]) (rest := []) (i := (.invokevirtual 0, 137, 1, [])) (len := 3) (by decide +kernel) rfl rfl rfl (by decide +kernel) (by decide +kernel) rfl rfl (vm_u (vm_okh_v (c := 10) (by decide +kernel) (by decide +kernel)) (show vm_okn 137 1 0 0 0 1 = true by decide +kernel)) ?_
                    refine vm_G.mono h ?_
                    rintro _ m5 ⟨rfl, h⟩
                    show vm_G 115 128 [some (vm_r 0), some (vm_i v1)] [] m5 _
                    refine vm_gp [(.aload 0, 0, 0, []), (.getfield 2, 10, 10, [(67, 0)]), (.getfield 0, 1, 8, [])] (pc1 := 135) (ls1 := [some (vm_r 0), some (vm_i v1)]) (st1 := [vm_i (m5 67 8)]) (m1 := m5) (ob := (((true && vm_is 0 10) && true) && vm_is 67 1)) (by decide +kernel) rfl (vm_u (vm_u (vm_u rfl (by decide +kernel)) rfl) (by decide +kernel)) ?_
                    exact vm_gr (r := some (vm_i (m5 67 8))) (i := (.ireturn, 1, 0, [])) (len := 1) (by decide +kernel) rfl rfl rfl ⟨_, rfl, h⟩
                  · replace h := h.2 c19
                    by_cases c20 : v1 = 13
                    · replace h := h.1 c20
                      refine vm_gj1 (i := (.tableswitch 0 0 0 #[], 152, 0, [(6, 68), (7, 76), (8, 84), (9, 100), (10, 108), (11, 116), (12, 124), (13, 136)])) (len := 47) (t := 136) (st1 := []) (by decide +kernel) rfl (by rw [c20]; rfl) ?_
                      refine vm_gp [(.aload 0, 0, 0, []), (.getfield 2, 10, 3, [(9, 0)]), (.iconst 0, 0, 0, []), (.aload 0, 0, 0, []), (.getfield 2, 10, 3, [(9, 0)]), (.getfield 0, 4, 6, [])] (pc1 := 148) (ls1 := [some (vm_r 0), some (vm_i v1)]) (st1 := [vm_i (m 9 6), vm_i 0, vm_r 9]) (m1 := m) (ob := (((((true && vm_is 0 10) && true) && vm_is 0 10) && true) && vm_is 9 4)) (by decide +kernel) rfl (vm_u (vm_u (vm_u (vm_u (vm_u rfl (by decide +kernel)) rfl) (by decide +kernel)) rfl) (by decide +kernel)) ?_
                      refine vm_gc (g := 60) (na := 3) (av := [vm_r 9, vm_i 0, vm_i (m 9 6)]) (rest := []) (i := (.invokevirtual 0, 60, 3, [])) (len := 3) (by decide +kernel) rfl rfl rfl (by decide +kernel) (by decide +kernel) rfl rfl (vm_u (vm_okh_v (c := 4) (by decide +kernel) (by decide +kernel)) (show vm_okn 60 3 0 0 0 3 = true by decide +kernel)) ?_
                      refine vm_G.mono h ?_
                      rintro _ m6 ⟨z6, rfl, h⟩
                      show vm_G 115 151 [some (vm_r 0), some (vm_i v1)] [vm_i z6] m6 _
                      exact vm_gr (r := some (vm_i z6)) (i := (.ireturn, 1, 0, [])) (len := 1) (by decide +kernel) rfl rfl rfl ⟨_, rfl, h⟩
                    · replace h := h.2 c20
                      refine vm_gj1 (i := (.tableswitch 0 0 0 #[], 152, 0, [(6, 68), (7, 76), (8, 84), (9, 100), (10, 108), (11, 116), (12, 124), (13, 136)])) (len := 47) (t := 152) (st1 := []) (by decide +kernel) rfl (by simp only [vm_jmp, vm_sw, cond, decide_eq_false c12, decide_eq_false c13, decide_eq_false c14, decide_eq_false c16, decide_eq_false c17, decide_eq_false c18, decide_eq_false c19, decide_eq_false c20]) ?_
                      refine vm_gp [(.iconst (-1), 0, 0, [])] (pc1 := 153) (ls1 := [some (vm_r 0), some (vm_i v1)]) (st1 := [vm_i (-1)]) (m1 := m) (ob := true) (by decide +kernel) rfl rfl ?_
                      exact vm_gr (r := some (vm_i (-1))) (i := (.ireturn, 1, 0, [])) (len := 1) (by decide +kernel) rfl rfl rfl ⟨_, rfl, h⟩
    · replace h := h.2 c11
      obtain ⟨o33_0, h⟩ := h
      refine vm_gp [(.aload 0, 0, 0, []), (.getfield 2, 10, 3, [(9, 0)]), (.getfield 2, 4, 0, [(1, 1)]), (.iload 1, 0, 0, []), (.iaload, 6, 0, [])] (pc1 := 19) (ls1 := [some (vm_r 0), some (vm_i v1)]) (st1 := [vm_i (m 10 v1)]) (m1 := m) (ob := ((((((true && vm_is 0 10) && true) && vm_is 9 4) && true) && vm_ar 10 100 6) && decide (0 ≤ v1 ∧ v1 < 6))) (by decide +kernel) rfl (vm_t (vm_u (vm_u (vm_u (vm_u (vm_u rfl (by decide +kernel)) rfl) (by decide +kernel)) rfl) (by decide +kernel)) o33_0) ?_
      exact vm_gr (r := some (vm_i (m 10 v1))) (i := (.ireturn, 1, 0, [])) (len := 1) (by decide +kernel) rfl rfl rfl ⟨_, rfl, h⟩
abbrev ku10_letter_0 (v1 : Int) (v2 : Int) (m : vm_M) (Q : Int → vm_M → Prop) : Prop := vm_G 117 0 [some (vm_r 0), some (vm_i v1), some (vm_i v2)] [] m (vm_qi Q)
set_option maxRecDepth 20000 in
theorem ru10_letter_0 {v1 : Int} {v2 : Int} {m : vm_M} {Q : Int → vm_M → Prop}  (h :
    (vm_C 3 [vm_r 3, vm_i v1] m (vm_qi (fun z1 m1 =>
      ((¬ z1 = 0 →
        ((v2 = 0 →
          ((0 ≤ v1 ∧ v1 < 26)) ∧
          Q (m1 4 v1) m1) ∧ (¬ v2 = 0 →
          ((v2 = 1 →
            (vm_C 7 [vm_r 3, vm_i v1, vm_i 0] m1 (vm_qi (fun z2 m2 =>
              Q z2 m2)))) ∧ (¬ v2 = 1 →
            ((v2 = 2 →
              (vm_C 7 [vm_r 3, vm_i v1, vm_i 1] m1 (vm_qi (fun z3 m3 =>
                Q z3 m3)))) ∧ (¬ v2 = 2 →
              ((v2 = 3 →
                (vm_C 8 [vm_r 3, vm_i v1] m1 (vm_qi (fun z4 m4 =>
                  Q z4 m4)))) ∧ (¬ v2 = 3 →
                ((v2 = 4 →
                  (vm_C 61 [vm_r 9, vm_i v1] m1 (vm_qi (fun z5 m5 =>
                    Q z5 m5)))) ∧ (¬ v2 = 4 →
                  Q (-1) m1))))))))))) ∧ (¬ ¬ z1 = 0 →
        Q (-1) m1)))))) : vm_C 117 [vm_r 0, vm_i v1, vm_i v2] m (vm_qi Q) := by
  show vm_G 117 0 [some (vm_r 0), some (vm_i v1), some (vm_i v2)] [] m (vm_qi Q)
  refine vm_gp [(.aload 0, 0, 0, []), (.getfield 2, 10, 1, [(3, 0)]), (.iload 1, 0, 0, [])] (pc1 := 5) (ls1 := [some (vm_r 0), some (vm_i v1), some (vm_i v2)]) (st1 := [vm_i v1, vm_r 3]) (m1 := m) (ob := ((true && vm_is 0 10) && true)) (by decide +kernel) rfl (vm_u (vm_u rfl (by decide +kernel)) rfl) ?_
  refine vm_gc (g := 3) (na := 2) (av := [vm_r 3, vm_i v1]) (rest := []) (i := (.invokevirtual 0, 3, 2, [])) (len := 3) (by decide +kernel) rfl rfl rfl (by decide +kernel) (by decide +kernel) rfl rfl (vm_u (vm_okh_v (c := 0) (by decide +kernel) (by decide +kernel)) (show vm_okn 3 2 0 0 0 2 = true by decide +kernel)) ?_
  refine vm_G.mono h ?_
  rintro _ m1 ⟨z1, rfl, h⟩
  show vm_G 117 8 [some (vm_r 0), some (vm_i v1), some (vm_i v2)] [vm_i z1] m1 _
  refine vm_gj (c := ¬ z1 = 0) (t := 13) (e := 11) (i := (.ifCond .ne 0, 13, 0, [])) (len := 3) (st1 := []) (by decide +kernel) rfl rfl (fun c1 => ?_) (fun c1 => ?_)
  · replace h := h.1 c1
    refine vm_gp [(.iload 2, 0, 0, [])] (pc1 := 14) (ls1 := [some (vm_r 0), some (vm_i v1), some (vm_i v2)]) (st1 := [vm_i v2]) (m1 := m1) (ob := true) (by decide +kernel) rfl rfl ?_
    by_cases c2 : v2 = 0
    · replace h := h.1 c2
      refine vm_gj1 (i := (.tableswitch 0 0 0 #[], 96, 0, [(0, 48), (1, 58), (2, 68), (3, 78), (4, 87)])) (len := 34) (t := 48) (st1 := []) (by decide +kernel) rfl (by rw [c2]; rfl) ?_
      obtain ⟨o4_0, h⟩ := h
      refine vm_gp [(.aload 0, 0, 0, []), (.getfield 2, 10, 1, [(3, 0)]), (.getfield 2, 0, 0, [(1, 1)]), (.iload 1, 0, 0, []), (.iaload, 26, 0, [])] (pc1 := 57) (ls1 := [some (vm_r 0), some (vm_i v1), some (vm_i v2)]) (st1 := [vm_i (m1 4 v1)]) (m1 := m1) (ob := ((((((true && vm_is 0 10) && true) && vm_is 3 0) && true) && vm_ar 4 100 26) && decide (0 ≤ v1 ∧ v1 < 26))) (by decide +kernel) rfl (vm_t (vm_u (vm_u (vm_u (vm_u (vm_u rfl (by decide +kernel)) rfl) (by decide +kernel)) rfl) (by decide +kernel)) o4_0) ?_
      exact vm_gr (r := some (vm_i (m1 4 v1))) (i := (.ireturn, 1, 0, [])) (len := 1) (by decide +kernel) rfl rfl rfl ⟨_, rfl, h⟩
    · replace h := h.2 c2
      by_cases c3 : v2 = 1
      · replace h := h.1 c3
        refine vm_gj1 (i := (.tableswitch 0 0 0 #[], 96, 0, [(0, 48), (1, 58), (2, 68), (3, 78), (4, 87)])) (len := 34) (t := 58) (st1 := []) (by decide +kernel) rfl (by rw [c3]; rfl) ?_
        refine vm_gp [(.aload 0, 0, 0, []), (.getfield 2, 10, 1, [(3, 0)]), (.iload 1, 0, 0, []), (.iconst 0, 0, 0, [])] (pc1 := 64) (ls1 := [some (vm_r 0), some (vm_i v1), some (vm_i v2)]) (st1 := [vm_i 0, vm_i v1, vm_r 3]) (m1 := m1) (ob := ((true && vm_is 0 10) && true)) (by decide +kernel) rfl (vm_u (vm_u rfl (by decide +kernel)) rfl) ?_
        refine vm_gc (g := 7) (na := 3) (av := [vm_r 3, vm_i v1, vm_i 0]) (rest := []) (i := (.invokevirtual 0, 7, 3, [])) (len := 3) (by decide +kernel) rfl rfl rfl (by decide +kernel) (by decide +kernel) rfl rfl (vm_u (vm_okh_v (c := 0) (by decide +kernel) (by decide +kernel)) (show vm_okn 7 3 0 0 0 3 = true by decide +kernel)) ?_
        refine vm_G.mono h ?_
        rintro _ m2 ⟨z2, rfl, h⟩
        show vm_G 117 67 [some (vm_r 0), some (vm_i v1), some (vm_i v2)] [vm_i z2] m2 _
        exact vm_gr (r := some (vm_i z2)) (i := (.ireturn, 1, 0, [])) (len := 1) (by decide +kernel) rfl rfl rfl ⟨_, rfl, h⟩
      · replace h := h.2 c3
        by_cases c4 : v2 = 2
        · replace h := h.1 c4
          refine vm_gj1 (i := (.tableswitch 0 0 0 #[], 96, 0, [(0, 48), (1, 58), (2, 68), (3, 78), (4, 87)])) (len := 34) (t := 68) (st1 := []) (by decide +kernel) rfl (by rw [c4]; rfl) ?_
          refine vm_gp [(.aload 0, 0, 0, []), (.getfield 2, 10, 1, [(3, 0)]), (.iload 1, 0, 0, []), (.iconst 1, 0, 0, [])] (pc1 := 74) (ls1 := [some (vm_r 0), some (vm_i v1), some (vm_i v2)]) (st1 := [vm_i 1, vm_i v1, vm_r 3]) (m1 := m1) (ob := ((true && vm_is 0 10) && true)) (by decide +kernel) rfl (vm_u (vm_u rfl (by decide +kernel)) rfl) ?_
          refine vm_gc (g := 7) (na := 3) (av := [vm_r 3, vm_i v1, vm_i 1]) (rest := []) (i := (.invokevirtual 0, 7, 3, [])) (len := 3) (by decide +kernel) rfl rfl rfl (by decide +kernel) (by decide +kernel) rfl rfl (vm_u (vm_okh_v (c := 0) (by decide +kernel) (by decide +kernel)) (show vm_okn 7 3 0 0 0 3 = true by decide +kernel)) ?_
          refine vm_G.mono h ?_
          rintro _ m3 ⟨z3, rfl, h⟩
          show vm_G 117 77 [some (vm_r 0), some (vm_i v1), some (vm_i v2)] [vm_i z3] m3 _
          exact vm_gr (r := some (vm_i z3)) (i := (.ireturn, 1, 0, [])) (len := 1) (by decide +kernel) rfl rfl rfl ⟨_, rfl, h⟩
        · replace h := h.2 c4
          by_cases c5 : v2 = 3
          · replace h := h.1 c5
            refine vm_gj1 (i := (.tableswitch 0 0 0 #[], 96, 0, [(0, 48), (1, 58), (2, 68), (3, 78), (4, 87)])) (len := 34) (t := 78) (st1 := []) (by decide +kernel) rfl (by rw [c5]; rfl) ?_
            refine vm_gp [(.aload 0, 0, 0, []), (.getfield 2, 10, 1, [(3, 0)]), (.iload 1, 0, 0, [])] (pc1 := 83) (ls1 := [some (vm_r 0), some (vm_i v1), some (vm_i v2)]) (st1 := [vm_i v1, vm_r 3]) (m1 := m1) (ob := ((true && vm_is 0 10) && true)) (by decide +kernel) rfl (vm_u (vm_u rfl (by decide +kernel)) rfl) ?_
            refine vm_gc (g := 8) (na := 2) (av := [vm_r 3, vm_i v1]) (rest := []) (i := (.invokevirtual 0, 8, 2, [])) (len := 3) (by decide +kernel) rfl rfl rfl (by decide +kernel) (by decide +kernel) rfl rfl (vm_u (vm_okh_v (c := 0) (by decide +kernel) (by decide +kernel)) (show vm_okn 8 2 0 0 0 2 = true by decide +kernel)) ?_
            refine vm_G.mono h ?_
            rintro _ m4 ⟨z4, rfl, h⟩
            show vm_G 117 86 [some (vm_r 0), some (vm_i v1), some (vm_i v2)] [vm_i z4] m4 _
            exact vm_gr (r := some (vm_i z4)) (i := (.ireturn, 1, 0, [])) (len := 1) (by decide +kernel) rfl rfl rfl ⟨_, rfl, h⟩
          · replace h := h.2 c5
            by_cases c6 : v2 = 4
            · replace h := h.1 c6
              refine vm_gj1 (i := (.tableswitch 0 0 0 #[], 96, 0, [(0, 48), (1, 58), (2, 68), (3, 78), (4, 87)])) (len := 34) (t := 87) (st1 := []) (by decide +kernel) rfl (by rw [c6]; rfl) ?_
              refine vm_gp [(.aload 0, 0, 0, []), (.getfield 2, 10, 3, [(9, 0)]), (.iload 1, 0, 0, [])] (pc1 := 92) (ls1 := [some (vm_r 0), some (vm_i v1), some (vm_i v2)]) (st1 := [vm_i v1, vm_r 9]) (m1 := m1) (ob := ((true && vm_is 0 10) && true)) (by decide +kernel) rfl (vm_u (vm_u rfl (by decide +kernel)) rfl) ?_
              refine vm_gc (g := 61) (na := 2) (av := [vm_r 9, vm_i v1]) (rest := []) (i := (.invokevirtual 0, 61, 2, [])) (len := 3) (by decide +kernel) rfl rfl rfl (by decide +kernel) (by decide +kernel) rfl rfl (vm_u (vm_okh_v (c := 4) (by decide +kernel) (by decide +kernel)) (show vm_okn 61 2 0 0 0 2 = true by decide +kernel)) ?_
              refine vm_G.mono h ?_
              rintro _ m5 ⟨z5, rfl, h⟩
              show vm_G 117 95 [some (vm_r 0), some (vm_i v1), some (vm_i v2)] [vm_i z5] m5 _
              exact vm_gr (r := some (vm_i z5)) (i := (.ireturn, 1, 0, [])) (len := 1) (by decide +kernel) rfl rfl rfl ⟨_, rfl, h⟩
            · replace h := h.2 c6
              refine vm_gj1 (i := (.tableswitch 0 0 0 #[], 96, 0, [(0, 48), (1, 58), (2, 68), (3, 78), (4, 87)])) (len := 34) (t := 96) (st1 := []) (by decide +kernel) rfl (by simp only [vm_jmp, vm_sw, cond, decide_eq_false c2, decide_eq_false c3, decide_eq_false c4, decide_eq_false c5, decide_eq_false c6]) ?_
              refine vm_gp [(.iconst (-1), 0, 0, [])] (pc1 := 97) (ls1 := [some (vm_r 0), some (vm_i v1), some (vm_i v2)]) (st1 := [vm_i (-1)]) (m1 := m1) (ob := true) (by decide +kernel) rfl rfl ?_
              exact vm_gr (r := some (vm_i (-1))) (i := (.ireturn, 1, 0, [])) (len := 1) (by decide +kernel) rfl rfl rfl ⟨_, rfl, h⟩
  · replace h := h.2 c1
    refine vm_gp [(.iconst (-1), 0, 0, [])] (pc1 := 12) (ls1 := [some (vm_r 0), some (vm_i v1), some (vm_i v2)]) (st1 := [vm_i (-1)]) (m1 := m1) (ob := true) (by decide +kernel) rfl rfl ?_
    exact vm_gr (r := some (vm_i (-1))) (i := (.ireturn, 1, 0, [])) (len := 1) (by decide +kernel) rfl rfl rfl ⟨_, rfl, h⟩
abbrev ku10_gapAt_0 (v1 : Int) (v2 : Int) (v3 : Int) (m : vm_M) (Q : Int → vm_M → Prop) : Prop := vm_G 118 0 [some (vm_r 0), some (vm_i v1), some (vm_i v2), some (vm_i v3)] [] m (vm_qi Q)
set_option maxRecDepth 20000 in
theorem ru10_gapAt_0 {v1 : Int} {v2 : Int} {v3 : Int} {m : vm_M} {Q : Int → vm_M → Prop}  (h :
    (vm_C 3 [vm_r 3, vm_i v1] m (vm_qi (fun z1 m1 =>
      ((z1 = 0 →
        Q (-1) m1) ∧ (¬ z1 = 0 →
        (vm_C 3 [vm_r 3, vm_i v2] m1 (vm_qi (fun z2 m2 =>
          ((z2 = 0 →
            Q (-1) m2) ∧ (¬ z2 = 0 →
            ((v3 < (-9) →
              Q (-1) m2) ∧ (¬ v3 < (-9) →
              ((v3 ≤ 99 →
                (vm_C 10 [vm_r 3, vm_i v1, vm_i v2, vm_i v3] m2 (vm_qi (fun z3 m3 =>
                  Q z3 m3)))) ∧ (¬ v3 ≤ 99 →
                Q (-1) m2))))))))))))))) : vm_C 118 [vm_r 0, vm_i v1, vm_i v2, vm_i v3] m (vm_qi Q) := by
  show vm_G 118 0 [some (vm_r 0), some (vm_i v1), some (vm_i v2), some (vm_i v3)] [] m (vm_qi Q)
  refine vm_gp [(.aload 0, 0, 0, []), (.getfield 2, 10, 1, [(3, 0)]), (.iload 1, 0, 0, [])] (pc1 := 5) (ls1 := [some (vm_r 0), some (vm_i v1), some (vm_i v2), some (vm_i v3)]) (st1 := [vm_i v1, vm_r 3]) (m1 := m) (ob := ((true && vm_is 0 10) && true)) (by decide +kernel) rfl (vm_u (vm_u rfl (by decide +kernel)) rfl) ?_
  refine vm_gc (g := 3) (na := 2) (av := [vm_r 3, vm_i v1]) (rest := []) (i := (.invokevirtual 0, 3, 2, [])) (len := 3) (by decide +kernel) rfl rfl rfl (by decide +kernel) (by decide +kernel) rfl rfl (vm_u (vm_okh_v (c := 0) (by decide +kernel) (by decide +kernel)) (show vm_okn 3 2 0 0 0 2 = true by decide +kernel)) ?_
  refine vm_G.mono h ?_
  rintro _ m1 ⟨z1, rfl, h⟩
  show vm_G 118 8 [some (vm_r 0), some (vm_i v1), some (vm_i v2), some (vm_i v3)] [vm_i z1] m1 _
  refine vm_gj (c := z1 = 0) (t := 34) (e := 11) (i := (.ifCond .eq 0, 34, 0, [])) (len := 3) (st1 := []) (by decide +kernel) rfl rfl (fun c1 => ?_) (fun c1 => ?_)
  · replace h := h.1 c1
    refine vm_gp [(.iconst (-1), 0, 0, [])] (pc1 := 35) (ls1 := [some (vm_r 0), some (vm_i v1), some (vm_i v2), some (vm_i v3)]) (st1 := [vm_i (-1)]) (m1 := m1) (ob := true) (by decide +kernel) rfl rfl ?_
    exact vm_gr (r := some (vm_i (-1))) (i := (.ireturn, 1, 0, [])) (len := 1) (by decide +kernel) rfl rfl rfl ⟨_, rfl, h⟩
  · replace h := h.2 c1
    refine vm_gp [(.aload 0, 0, 0, []), (.getfield 2, 10, 1, [(3, 0)]), (.iload 2, 0, 0, [])] (pc1 := 16) (ls1 := [some (vm_r 0), some (vm_i v1), some (vm_i v2), some (vm_i v3)]) (st1 := [vm_i v2, vm_r 3]) (m1 := m1) (ob := ((true && vm_is 0 10) && true)) (by decide +kernel) rfl (vm_u (vm_u rfl (by decide +kernel)) rfl) ?_
    refine vm_gc (g := 3) (na := 2) (av := [vm_r 3, vm_i v2]) (rest := []) (i := (.invokevirtual 0, 3, 2, [])) (len := 3) (by decide +kernel) rfl rfl rfl (by decide +kernel) (by decide +kernel) rfl rfl (vm_u (vm_okh_v (c := 0) (by decide +kernel) (by decide +kernel)) (show vm_okn 3 2 0 0 0 2 = true by decide +kernel)) ?_
    refine vm_G.mono h ?_
    rintro _ m2 ⟨z2, rfl, h⟩
    show vm_G 118 19 [some (vm_r 0), some (vm_i v1), some (vm_i v2), some (vm_i v3)] [vm_i z2] m2 _
    refine vm_gj (c := z2 = 0) (t := 34) (e := 22) (i := (.ifCond .eq 0, 34, 0, [])) (len := 3) (st1 := []) (by decide +kernel) rfl rfl (fun c2 => ?_) (fun c2 => ?_)
    · replace h := h.1 c2
      refine vm_gp [(.iconst (-1), 0, 0, [])] (pc1 := 35) (ls1 := [some (vm_r 0), some (vm_i v1), some (vm_i v2), some (vm_i v3)]) (st1 := [vm_i (-1)]) (m1 := m2) (ob := true) (by decide +kernel) rfl rfl ?_
      exact vm_gr (r := some (vm_i (-1))) (i := (.ireturn, 1, 0, [])) (len := 1) (by decide +kernel) rfl rfl rfl ⟨_, rfl, h⟩
    · replace h := h.2 c2
      refine vm_gp [(.iload 3, 0, 0, []), (.iconst (-9), 0, 0, [])] (pc1 := 25) (ls1 := [some (vm_r 0), some (vm_i v1), some (vm_i v2), some (vm_i v3)]) (st1 := [vm_i (-9), vm_i v3]) (m1 := m2) (ob := true) (by decide +kernel) rfl rfl ?_
      refine vm_gj (c := v3 < (-9)) (t := 34) (e := 28) (i := (.if_icmp .lt 0, 34, 0, [])) (len := 3) (st1 := []) (by decide +kernel) rfl rfl (fun c3 => ?_) (fun c3 => ?_)
      · replace h := h.1 c3
        refine vm_gp [(.iconst (-1), 0, 0, [])] (pc1 := 35) (ls1 := [some (vm_r 0), some (vm_i v1), some (vm_i v2), some (vm_i v3)]) (st1 := [vm_i (-1)]) (m1 := m2) (ob := true) (by decide +kernel) rfl rfl ?_
        exact vm_gr (r := some (vm_i (-1))) (i := (.ireturn, 1, 0, [])) (len := 1) (by decide +kernel) rfl rfl rfl ⟨_, rfl, h⟩
      · replace h := h.2 c3
        refine vm_gp [(.iload 3, 0, 0, []), (.iconst 99, 0, 0, [])] (pc1 := 31) (ls1 := [some (vm_r 0), some (vm_i v1), some (vm_i v2), some (vm_i v3)]) (st1 := [vm_i 99, vm_i v3]) (m1 := m2) (ob := true) (by decide +kernel) rfl rfl ?_
        refine vm_gj (c := v3 ≤ 99) (t := 36) (e := 34) (i := (.if_icmp .le 0, 36, 0, [])) (len := 3) (st1 := []) (by decide +kernel) rfl rfl (fun c4 => ?_) (fun c4 => ?_)
        · replace h := h.1 c4
          refine vm_gp [(.aload 0, 0, 0, []), (.getfield 2, 10, 1, [(3, 0)]), (.iload 1, 0, 0, []), (.iload 2, 0, 0, []), (.iload 3, 0, 0, [])] (pc1 := 43) (ls1 := [some (vm_r 0), some (vm_i v1), some (vm_i v2), some (vm_i v3)]) (st1 := [vm_i v3, vm_i v2, vm_i v1, vm_r 3]) (m1 := m2) (ob := ((true && vm_is 0 10) && true)) (by decide +kernel) rfl (vm_u (vm_u rfl (by decide +kernel)) rfl) ?_
          refine vm_gc (g := 10) (na := 4) (av := [vm_r 3, vm_i v1, vm_i v2, vm_i v3]) (rest := []) (i := (.invokevirtual 0, 10, 4, [])) (len := 3) (by decide +kernel) rfl rfl rfl (by decide +kernel) (by decide +kernel) rfl rfl (vm_u (vm_okh_v (c := 0) (by decide +kernel) (by decide +kernel)) (show vm_okn 10 4 0 0 0 4 = true by decide +kernel)) ?_
          refine vm_G.mono h ?_
          rintro _ m3 ⟨z3, rfl, h⟩
          show vm_G 118 46 [some (vm_r 0), some (vm_i v1), some (vm_i v2), some (vm_i v3)] [vm_i z3] m3 _
          exact vm_gr (r := some (vm_i z3)) (i := (.ireturn, 1, 0, [])) (len := 1) (by decide +kernel) rfl rfl rfl ⟨_, rfl, h⟩
        · replace h := h.2 c4
          refine vm_gp [(.iconst (-1), 0, 0, [])] (pc1 := 35) (ls1 := [some (vm_r 0), some (vm_i v1), some (vm_i v2), some (vm_i v3)]) (st1 := [vm_i (-1)]) (m1 := m2) (ob := true) (by decide +kernel) rfl rfl ?_
          exact vm_gr (r := some (vm_i (-1))) (i := (.ireturn, 1, 0, [])) (len := 1) (by decide +kernel) rfl rfl rfl ⟨_, rfl, h⟩
abbrev ku10_distance_0 (v1 : Int) (v2 : Int) (v3 : Int) (m : vm_M) (Q : Int → vm_M → Prop) : Prop := vm_G 119 0 [some (vm_r 0), some (vm_i v1), some (vm_i v2), some (vm_i v3)] [] m (vm_qi Q)
set_option maxRecDepth 20000 in
theorem ru10_distance_0 {v1 : Int} {v2 : Int} {v3 : Int} {m : vm_M} {Q : Int → vm_M → Prop}  (h :
    (vm_C 3 [vm_r 3, vm_i v1] m (vm_qi (fun z1 m1 =>
      ((z1 = 0 →
        Q (-1) m1) ∧ (¬ z1 = 0 →
        (vm_C 3 [vm_r 3, vm_i v2] m1 (vm_qi (fun z2 m2 =>
          ((z2 = 0 →
            Q (-1) m2) ∧ (¬ z2 = 0 →
            ((v3 < 0 →
              Q (-1) m2) ∧ (¬ v3 < 0 →
              ((v3 ≤ (m2 3 2) →
                (vm_C 124 [vm_r 0, vm_i v1, vm_i v2, vm_i v3] m2 (vm_qi (fun z3 m3 =>
                  ((vm_32 (z3 - (-9)))) ∧
                  Q (z3 - (-9)) m3)))) ∧ (¬ v3 ≤ (m2 3 2) →
                Q (-1) m2))))))))))))))) : vm_C 119 [vm_r 0, vm_i v1, vm_i v2, vm_i v3] m (vm_qi Q) := by
  show vm_G 119 0 [some (vm_r 0), some (vm_i v1), some (vm_i v2), some (vm_i v3)] [] m (vm_qi Q)
  refine vm_gp [(.aload 0, 0, 0, []), (.getfield 2, 10, 1, [(3, 0)]), (.iload 1, 0, 0, [])] (pc1 := 5) (ls1 := [some (vm_r 0), some (vm_i v1), some (vm_i v2), some (vm_i v3)]) (st1 := [vm_i v1, vm_r 3]) (m1 := m) (ob := ((true && vm_is 0 10) && true)) (by decide +kernel) rfl (vm_u (vm_u rfl (by decide +kernel)) rfl) ?_
  refine vm_gc (g := 3) (na := 2) (av := [vm_r 3, vm_i v1]) (rest := []) (i := (.invokevirtual 0, 3, 2, [])) (len := 3) (by decide +kernel) rfl rfl rfl (by decide +kernel) (by decide +kernel) rfl rfl (vm_u (vm_okh_v (c := 0) (by decide +kernel) (by decide +kernel)) (show vm_okn 3 2 0 0 0 2 = true by decide +kernel)) ?_
  refine vm_G.mono h ?_
  rintro _ m1 ⟨z1, rfl, h⟩
  show vm_G 119 8 [some (vm_r 0), some (vm_i v1), some (vm_i v2), some (vm_i v3)] [vm_i z1] m1 _
  refine vm_gj (c := z1 = 0) (t := 37) (e := 11) (i := (.ifCond .eq 0, 37, 0, [])) (len := 3) (st1 := []) (by decide +kernel) rfl rfl (fun c1 => ?_) (fun c1 => ?_)
  · replace h := h.1 c1
    refine vm_gp [(.iconst (-1), 0, 0, [])] (pc1 := 38) (ls1 := [some (vm_r 0), some (vm_i v1), some (vm_i v2), some (vm_i v3)]) (st1 := [vm_i (-1)]) (m1 := m1) (ob := true) (by decide +kernel) rfl rfl ?_
    exact vm_gr (r := some (vm_i (-1))) (i := (.ireturn, 1, 0, [])) (len := 1) (by decide +kernel) rfl rfl rfl ⟨_, rfl, h⟩
  · replace h := h.2 c1
    refine vm_gp [(.aload 0, 0, 0, []), (.getfield 2, 10, 1, [(3, 0)]), (.iload 2, 0, 0, [])] (pc1 := 16) (ls1 := [some (vm_r 0), some (vm_i v1), some (vm_i v2), some (vm_i v3)]) (st1 := [vm_i v2, vm_r 3]) (m1 := m1) (ob := ((true && vm_is 0 10) && true)) (by decide +kernel) rfl (vm_u (vm_u rfl (by decide +kernel)) rfl) ?_
    refine vm_gc (g := 3) (na := 2) (av := [vm_r 3, vm_i v2]) (rest := []) (i := (.invokevirtual 0, 3, 2, [])) (len := 3) (by decide +kernel) rfl rfl rfl (by decide +kernel) (by decide +kernel) rfl rfl (vm_u (vm_okh_v (c := 0) (by decide +kernel) (by decide +kernel)) (show vm_okn 3 2 0 0 0 2 = true by decide +kernel)) ?_
    refine vm_G.mono h ?_
    rintro _ m2 ⟨z2, rfl, h⟩
    show vm_G 119 19 [some (vm_r 0), some (vm_i v1), some (vm_i v2), some (vm_i v3)] [vm_i z2] m2 _
    refine vm_gj (c := z2 = 0) (t := 37) (e := 22) (i := (.ifCond .eq 0, 37, 0, [])) (len := 3) (st1 := []) (by decide +kernel) rfl rfl (fun c2 => ?_) (fun c2 => ?_)
    · replace h := h.1 c2
      refine vm_gp [(.iconst (-1), 0, 0, [])] (pc1 := 38) (ls1 := [some (vm_r 0), some (vm_i v1), some (vm_i v2), some (vm_i v3)]) (st1 := [vm_i (-1)]) (m1 := m2) (ob := true) (by decide +kernel) rfl rfl ?_
      exact vm_gr (r := some (vm_i (-1))) (i := (.ireturn, 1, 0, [])) (len := 1) (by decide +kernel) rfl rfl rfl ⟨_, rfl, h⟩
    · replace h := h.2 c2
      refine vm_gp [(.iload 3, 0, 0, [])] (pc1 := 23) (ls1 := [some (vm_r 0), some (vm_i v1), some (vm_i v2), some (vm_i v3)]) (st1 := [vm_i v3]) (m1 := m2) (ob := true) (by decide +kernel) rfl rfl ?_
      refine vm_gj (c := v3 < 0) (t := 37) (e := 26) (i := (.ifCond .lt 0, 37, 0, [])) (len := 3) (st1 := []) (by decide +kernel) rfl rfl (fun c3 => ?_) (fun c3 => ?_)
      · replace h := h.1 c3
        refine vm_gp [(.iconst (-1), 0, 0, [])] (pc1 := 38) (ls1 := [some (vm_r 0), some (vm_i v1), some (vm_i v2), some (vm_i v3)]) (st1 := [vm_i (-1)]) (m1 := m2) (ob := true) (by decide +kernel) rfl rfl ?_
        exact vm_gr (r := some (vm_i (-1))) (i := (.ireturn, 1, 0, [])) (len := 1) (by decide +kernel) rfl rfl rfl ⟨_, rfl, h⟩
      · replace h := h.2 c3
        refine vm_gp [(.iload 3, 0, 0, []), (.aload 0, 0, 0, []), (.getfield 2, 10, 1, [(3, 0)]), (.getfield 0, 0, 2, [])] (pc1 := 34) (ls1 := [some (vm_r 0), some (vm_i v1), some (vm_i v2), some (vm_i v3)]) (st1 := [vm_i (m2 3 2), vm_i v3]) (m1 := m2) (ob := (((true && vm_is 0 10) && true) && vm_is 3 0)) (by decide +kernel) rfl (vm_u (vm_u (vm_u rfl (by decide +kernel)) rfl) (by decide +kernel)) ?_
        refine vm_gj (c := v3 ≤ (m2 3 2)) (t := 39) (e := 37) (i := (.if_icmp .le 0, 39, 0, [])) (len := 3) (st1 := []) (by decide +kernel) rfl rfl (fun c4 => ?_) (fun c4 => ?_)
        · replace h := h.1 c4
          refine vm_gp [(.aload 0, 0, 0, []), (.iload 1, 0, 0, []), (.iload 2, 0, 0, []), (.iload 3, 0, 0, [])] (pc1 := 43) (ls1 := [some (vm_r 0), some (vm_i v1), some (vm_i v2), some (vm_i v3)]) (st1 := [vm_i v3, vm_i v2, vm_i v1, vm_r 0]) (m1 := m2) (ob := true) (by decide +kernel) rfl rfl ?_
          refine vm_gc (g := 124) (na := 4) (av := [vm_r 0, vm_i v1, vm_i v2, vm_i v3]) (rest := []) (i := (.invokevirtual 0, 124, 4, [])) (len := 3) (by decide +kernel) rfl rfl rfl (by decide +kernel) (by decide +kernel) rfl rfl (vm_u (vm_okh_v (c := 10) (by decide +kernel) (by decide +kernel)) (show vm_okn 124 4 0 0 0 4 = true by decide +kernel)) ?_
          refine vm_G.mono h ?_
          rintro _ m3 ⟨z3, rfl, h⟩
          show vm_G 119 46 [some (vm_r 0), some (vm_i v1), some (vm_i v2), some (vm_i v3)] [vm_i z3] m3 _
          obtain ⟨o11_0, h⟩ := h
          refine vm_gp [(.iconst (-9), 0, 0, []), (.isub, 0, 0, [])] (pc1 := 49) (ls1 := [some (vm_r 0), some (vm_i v1), some (vm_i v2), some (vm_i v3)]) (st1 := [vm_i (z3 - (-9))]) (m1 := m3) (ob := (true && decide (vm_32 (z3 - (-9))))) (by decide +kernel) rfl (vm_t rfl o11_0) ?_
          exact vm_gr (r := some (vm_i (z3 - (-9)))) (i := (.ireturn, 1, 0, [])) (len := 1) (by decide +kernel) rfl rfl rfl ⟨_, rfl, h⟩
        · replace h := h.2 c4
          refine vm_gp [(.iconst (-1), 0, 0, [])] (pc1 := 38) (ls1 := [some (vm_r 0), some (vm_i v1), some (vm_i v2), some (vm_i v3)]) (st1 := [vm_i (-1)]) (m1 := m2) (ob := true) (by decide +kernel) rfl rfl ?_
          exact vm_gr (r := some (vm_i (-1))) (i := (.ireturn, 1, 0, [])) (len := 1) (by decide +kernel) rfl rfl rfl ⟨_, rfl, h⟩
abbrev ku10_correction_0 (v1 : Int) (v2 : Int) (m : vm_M) (Q : Int → vm_M → Prop) : Prop := vm_G 120 0 [some (vm_r 0), some (vm_i v1), some (vm_i v2)] [] m (vm_qi Q)
set_option maxRecDepth 20000 in
theorem ru10_correction_0 {v1 : Int} {v2 : Int} {m : vm_M} {Q : Int → vm_M → Prop}  (h :
    (vm_C 3 [vm_r 3, vm_i v1] m (vm_qi (fun z1 m1 =>
      ((z1 = 0 →
        Q (-1) m1) ∧ (¬ z1 = 0 →
        (vm_C 3 [vm_r 3, vm_i v2] m1 (vm_qi (fun z2 m2 =>
          ((¬ z2 = 0 →
            (vm_C 56 [vm_r 9, vm_i v1, vm_i v2] m2 (vm_qi (fun z3 m3 =>
              ((vm_32 (z3 + 9))) ∧
              Q (z3 + 9) m3)))) ∧ (¬ ¬ z2 = 0 →
            Q (-1) m2))))))))))) : vm_C 120 [vm_r 0, vm_i v1, vm_i v2] m (vm_qi Q) := by
  show vm_G 120 0 [some (vm_r 0), some (vm_i v1), some (vm_i v2)] [] m (vm_qi Q)
  refine vm_gp [(.aload 0, 0, 0, []), (.getfield 2, 10, 1, [(3, 0)]), (.iload 1, 0, 0, [])] (pc1 := 5) (ls1 := [some (vm_r 0), some (vm_i v1), some (vm_i v2)]) (st1 := [vm_i v1, vm_r 3]) (m1 := m) (ob := ((true && vm_is 0 10) && true)) (by decide +kernel) rfl (vm_u (vm_u rfl (by decide +kernel)) rfl) ?_
  refine vm_gc (g := 3) (na := 2) (av := [vm_r 3, vm_i v1]) (rest := []) (i := (.invokevirtual 0, 3, 2, [])) (len := 3) (by decide +kernel) rfl rfl rfl (by decide +kernel) (by decide +kernel) rfl rfl (vm_u (vm_okh_v (c := 0) (by decide +kernel) (by decide +kernel)) (show vm_okn 3 2 0 0 0 2 = true by decide +kernel)) ?_
  refine vm_G.mono h ?_
  rintro _ m1 ⟨z1, rfl, h⟩
  show vm_G 120 8 [some (vm_r 0), some (vm_i v1), some (vm_i v2)] [vm_i z1] m1 _
  refine vm_gj (c := z1 = 0) (t := 22) (e := 11) (i := (.ifCond .eq 0, 22, 0, [])) (len := 3) (st1 := []) (by decide +kernel) rfl rfl (fun c1 => ?_) (fun c1 => ?_)
  · replace h := h.1 c1
    refine vm_gp [(.iconst (-1), 0, 0, [])] (pc1 := 23) (ls1 := [some (vm_r 0), some (vm_i v1), some (vm_i v2)]) (st1 := [vm_i (-1)]) (m1 := m1) (ob := true) (by decide +kernel) rfl rfl ?_
    exact vm_gr (r := some (vm_i (-1))) (i := (.ireturn, 1, 0, [])) (len := 1) (by decide +kernel) rfl rfl rfl ⟨_, rfl, h⟩
  · replace h := h.2 c1
    refine vm_gp [(.aload 0, 0, 0, []), (.getfield 2, 10, 1, [(3, 0)]), (.iload 2, 0, 0, [])] (pc1 := 16) (ls1 := [some (vm_r 0), some (vm_i v1), some (vm_i v2)]) (st1 := [vm_i v2, vm_r 3]) (m1 := m1) (ob := ((true && vm_is 0 10) && true)) (by decide +kernel) rfl (vm_u (vm_u rfl (by decide +kernel)) rfl) ?_
    refine vm_gc (g := 3) (na := 2) (av := [vm_r 3, vm_i v2]) (rest := []) (i := (.invokevirtual 0, 3, 2, [])) (len := 3) (by decide +kernel) rfl rfl rfl (by decide +kernel) (by decide +kernel) rfl rfl (vm_u (vm_okh_v (c := 0) (by decide +kernel) (by decide +kernel)) (show vm_okn 3 2 0 0 0 2 = true by decide +kernel)) ?_
    refine vm_G.mono h ?_
    rintro _ m2 ⟨z2, rfl, h⟩
    show vm_G 120 19 [some (vm_r 0), some (vm_i v1), some (vm_i v2)] [vm_i z2] m2 _
    refine vm_gj (c := ¬ z2 = 0) (t := 24) (e := 22) (i := (.ifCond .ne 0, 24, 0, [])) (len := 3) (st1 := []) (by decide +kernel) rfl rfl (fun c2 => ?_) (fun c2 => ?_)
    · replace h := h.1 c2
      refine vm_gp [(.aload 0, 0, 0, []), (.getfield 2, 10, 3, [(9, 0)]), (.iload 1, 0, 0, []), (.iload 2, 0, 0, [])] (pc1 := 30) (ls1 := [some (vm_r 0), some (vm_i v1), some (vm_i v2)]) (st1 := [vm_i v2, vm_i v1, vm_r 9]) (m1 := m2) (ob := ((true && vm_is 0 10) && true)) (by decide +kernel) rfl (vm_u (vm_u rfl (by decide +kernel)) rfl) ?_
      refine vm_gc (g := 56) (na := 3) (av := [vm_r 9, vm_i v1, vm_i v2]) (rest := []) (i := (.invokevirtual 0, 56, 3, [])) (len := 3) (by decide +kernel) rfl rfl rfl (by decide +kernel) (by decide +kernel) rfl rfl (vm_u (vm_okh_v (c := 4) (by decide +kernel) (by decide +kernel)) (show vm_okn 56 3 0 0 0 3 = true by decide +kernel)) ?_
      refine vm_G.mono h ?_
      rintro _ m3 ⟨z3, rfl, h⟩
      show vm_G 120 33 [some (vm_r 0), some (vm_i v1), some (vm_i v2)] [vm_i z3] m3 _
      obtain ⟨o7_0, h⟩ := h
      refine vm_gp [(.iconst 9, 0, 0, []), (.iadd, 0, 0, [])] (pc1 := 36) (ls1 := [some (vm_r 0), some (vm_i v1), some (vm_i v2)]) (st1 := [vm_i (z3 + 9)]) (m1 := m3) (ob := (true && decide (vm_32 (z3 + 9)))) (by decide +kernel) rfl (vm_t rfl o7_0) ?_
      exact vm_gr (r := some (vm_i (z3 + 9))) (i := (.ireturn, 1, 0, [])) (len := 1) (by decide +kernel) rfl rfl rfl ⟨_, rfl, h⟩
    · replace h := h.2 c2
      refine vm_gp [(.iconst (-1), 0, 0, [])] (pc1 := 23) (ls1 := [some (vm_r 0), some (vm_i v1), some (vm_i v2)]) (st1 := [vm_i (-1)]) (m1 := m2) (ob := true) (by decide +kernel) rfl rfl ?_
      exact vm_gr (r := some (vm_i (-1))) (i := (.ireturn, 1, 0, [])) (len := 1) (by decide +kernel) rfl rfl rfl ⟨_, rfl, h⟩
abbrev ku10_extreme_0 (v1 : Int) (m : vm_M) (Q : Int → vm_M → Prop) : Prop := vm_G 121 0 [some (vm_r 0), some (vm_i v1), none, none, none, none, none, none, none] [] m (vm_qi Q)
abbrev ku10_extreme_8 (v1 : Int) (v2 : Int) (v3 : Int) (v4 : Int) (w5 : Option vm_V) (w6 : Option vm_V) (w7 : Option vm_V) (w8 : Option vm_V) (m : vm_M) (Q : Int → vm_M → Prop) : Prop := vm_G 121 8 [some (vm_r 0), some (vm_i v1), some (vm_i v2), some (vm_i v3), some (vm_i v4), w5, w6, w7, w8] [] m (vm_qi Q)
set_option maxRecDepth 20000 in
theorem ru10_extreme_0 {v1 : Int} {m : vm_M} {Q : Int → vm_M → Prop}  (h :
    ku10_extreme_8 v1 (-2) 0 0 none none none none m Q) : vm_C 121 [vm_r 0, vm_i v1] m (vm_qi Q) := by
  show vm_G 121 0 [some (vm_r 0), some (vm_i v1), none, none, none, none, none, none, none] [] m (vm_qi Q)
  refine vm_gp [(.iconst (-2), 0, 0, []), (.istore 2, 0, 0, []), (.iconst 0, 0, 0, []), (.istore 3, 0, 0, []), (.iconst 0, 0, 0, []), (.istore 4, 0, 0, [])] (pc1 := 8) (ls1 := [some (vm_r 0), some (vm_i v1), some (vm_i (-2)), some (vm_i 0), some (vm_i 0), none, none, none, none]) (st1 := []) (m1 := m) (ob := true) (by decide +kernel) rfl rfl ?_
  exact h
set_option maxRecDepth 20000 in
theorem ru10_extreme_8 {v1 : Int} {v2 : Int} {v3 : Int} {v4 : Int} {w5 : Option vm_V} {w6 : Option vm_V} {w7 : Option vm_V} {w8 : Option vm_V} {m : vm_M} {Q : Int → vm_M → Prop}  (h :
    ((676 ≤ v4 →
      Q v2 m) ∧ (¬ 676 ≤ v4 →
      ((0 ≤ v4 ∧ (0 : Int) < 26) ∧ (0 ≤ v4 ∧ (0 : Int) < 26)) ∧
      (vm_C 3 [vm_r 3, vm_i (v4 / 26)] m (vm_qi (fun z1 m1 =>
        ((z1 = 0 →
          ((vm_32 (v4 + 1))) ∧
          ku10_extreme_8 v1 v2 v3 (v4 + 1) (some (vm_i (v4 / 26))) (some (vm_i (v4 % 26))) w7 w8 m1 Q) ∧ (¬ z1 = 0 →
          (vm_C 3 [vm_r 3, vm_i (v4 % 26)] m1 (vm_qi (fun z2 m2 =>
            ((z2 = 0 →
              ((vm_32 (v4 + 1))) ∧
              ku10_extreme_8 v1 v2 v3 (v4 + 1) (some (vm_i (v4 / 26))) (some (vm_i (v4 % 26))) w7 w8 m2 Q) ∧ (¬ z2 = 0 →
              (vm_C 124 [vm_r 0, vm_i (v4 / 26), vm_i (v4 % 26), vm_i (m2 10 3)] m2 (vm_qi (fun z3 m3 =>
                ((v1 = 0 →
                  ((v3 ≤ z3 →
                    ((v2 = (-2) →
                      ((vm_32 (v4 + 1))) ∧
                      ku10_extreme_8 v1 v4 z3 (v4 + 1) (some (vm_i (v4 / 26))) (some (vm_i (v4 % 26))) (some (vm_i z3)) (some (vm_i 0)) m3 Q) ∧ (¬ v2 = (-2) →
                      ((0 = 0 →
                        ((vm_32 (v4 + 1))) ∧
                        ku10_extreme_8 v1 v2 v3 (v4 + 1) (some (vm_i (v4 / 26))) (some (vm_i (v4 % 26))) (some (vm_i z3)) (some (vm_i 0)) m3 Q) ∧ (¬ 0 = 0 →
                        ((vm_32 (v4 + 1))) ∧
                        ku10_extreme_8 v1 v4 z3 (v4 + 1) (some (vm_i (v4 / 26))) (some (vm_i (v4 % 26))) (some (vm_i z3)) (some (vm_i 0)) m3 Q))))) ∧ (¬ v3 ≤ z3 →
                    ((v2 = (-2) →
                      ((vm_32 (v4 + 1))) ∧
                      ku10_extreme_8 v1 v4 z3 (v4 + 1) (some (vm_i (v4 / 26))) (some (vm_i (v4 % 26))) (some (vm_i z3)) (some (vm_i 1)) m3 Q) ∧ (¬ v2 = (-2) →
                      ((1 = 0 →
                        ((vm_32 (v4 + 1))) ∧
                        ku10_extreme_8 v1 v2 v3 (v4 + 1) (some (vm_i (v4 / 26))) (some (vm_i (v4 % 26))) (some (vm_i z3)) (some (vm_i 1)) m3 Q) ∧ (¬ 1 = 0 →
                        ((vm_32 (v4 + 1))) ∧
                        ku10_extreme_8 v1 v4 z3 (v4 + 1) (some (vm_i (v4 / 26))) (some (vm_i (v4 % 26))) (some (vm_i z3)) (some (vm_i 1)) m3 Q))))))) ∧ (¬ v1 = 0 →
                  ((z3 ≤ v3 →
                    ((v2 = (-2) →
                      ((vm_32 (v4 + 1))) ∧
                      ku10_extreme_8 v1 v4 z3 (v4 + 1) (some (vm_i (v4 / 26))) (some (vm_i (v4 % 26))) (some (vm_i z3)) (some (vm_i 0)) m3 Q) ∧ (¬ v2 = (-2) →
                      ((0 = 0 →
                        ((vm_32 (v4 + 1))) ∧
                        ku10_extreme_8 v1 v2 v3 (v4 + 1) (some (vm_i (v4 / 26))) (some (vm_i (v4 % 26))) (some (vm_i z3)) (some (vm_i 0)) m3 Q) ∧ (¬ 0 = 0 →
                        ((vm_32 (v4 + 1))) ∧
                        ku10_extreme_8 v1 v4 z3 (v4 + 1) (some (vm_i (v4 / 26))) (some (vm_i (v4 % 26))) (some (vm_i z3)) (some (vm_i 0)) m3 Q))))) ∧ (¬ z3 ≤ v3 →
                    ((v2 = (-2) →
                      ((vm_32 (v4 + 1))) ∧
                      ku10_extreme_8 v1 v4 z3 (v4 + 1) (some (vm_i (v4 / 26))) (some (vm_i (v4 % 26))) (some (vm_i z3)) (some (vm_i 1)) m3 Q) ∧ (¬ v2 = (-2) →
                      ((1 = 0 →
                        ((vm_32 (v4 + 1))) ∧
                        ku10_extreme_8 v1 v2 v3 (v4 + 1) (some (vm_i (v4 / 26))) (some (vm_i (v4 % 26))) (some (vm_i z3)) (some (vm_i 1)) m3 Q) ∧ (¬ 1 = 0 →
                        ((vm_32 (v4 + 1))) ∧
                        ku10_extreme_8 v1 v4 z3 (v4 + 1) (some (vm_i (v4 / 26))) (some (vm_i (v4 % 26))) (some (vm_i z3)) (some (vm_i 1)) m3 Q)))))))))))))))))))))))) : ku10_extreme_8 v1 v2 v3 v4 w5 w6 w7 w8 m Q := by
  show vm_G 121 8 [some (vm_r 0), some (vm_i v1), some (vm_i v2), some (vm_i v3), some (vm_i v4), w5, w6, w7, w8] [] m (vm_qi Q)
  refine vm_gp [(.iload 4, 0, 0, []), (.iconst 676, 0, 0, [])] (pc1 := 13) (ls1 := [some (vm_r 0), some (vm_i v1), some (vm_i v2), some (vm_i v3), some (vm_i v4), w5, w6, w7, w8]) (st1 := [vm_i 676, vm_i v4]) (m1 := m) (ob := true) (by decide +kernel) rfl rfl ?_
  refine vm_gj (c := 676 ≤ v4) (t := 127) (e := 16) (i := (.if_icmp .ge 0, 127, 0, [])) (len := 3) (st1 := []) (by decide +kernel) rfl rfl (fun c1 => ?_) (fun c1 => ?_)
  · replace h := h.1 c1
    refine vm_gp [(.iload 2, 0, 0, [])] (pc1 := 128) (ls1 := [some (vm_r 0), some (vm_i v1), some (vm_i v2), some (vm_i v3), some (vm_i v4), w5, w6, w7, w8]) (st1 := [vm_i v2]) (m1 := m) (ob := true) (by decide +kernel) rfl rfl ?_
    exact vm_gr (r := some (vm_i v2)) (i := (.ireturn, 1, 0, [])) (len := 1) (by decide +kernel) rfl rfl rfl ⟨_, rfl, h⟩
  · replace h := h.2 c1
    obtain ⟨⟨o3_0, o3_1⟩, h⟩ := h
    refine vm_gp [(.iload 4, 0, 0, []), (.iconst 26, 0, 0, []), (.idiv, 0, 0, []), (.istore 5, 0, 0, []), (.iload 4, 0, 0, []), (.iconst 26, 0, 0, []), (.irem, 0, 0, []), (.istore 6, 0, 0, []), (.aload 0, 0, 0, []), (.getfield 2, 10, 1, [(3, 0)]), (.iload 5, 0, 0, [])] (pc1 := 36) (ls1 := [some (vm_r 0), some (vm_i v1), some (vm_i v2), some (vm_i v3), some (vm_i v4), some (vm_i (v4 / 26)), some (vm_i (v4 % 26)), w7, w8]) (st1 := [vm_i (v4 / 26), vm_r 3]) (m1 := m) (ob := ((((true && decide (0 ≤ v4 ∧ (0 : Int) < 26)) && decide (0 ≤ v4 ∧ (0 : Int) < 26)) && vm_is 0 10) && true)) (by decide +kernel) rfl (vm_u (vm_u (vm_t (vm_t rfl o3_0) o3_1) (by decide +kernel)) rfl) ?_
    refine vm_gc (g := 3) (na := 2) (av := [vm_r 3, vm_i (v4 / 26)]) (rest := []) (i := (.invokevirtual 0, 3, 2, [])) (len := 3) (by decide +kernel) rfl rfl rfl (by decide +kernel) (by decide +kernel) rfl rfl (vm_u (vm_okh_v (c := 0) (by decide +kernel) (by decide +kernel)) (show vm_okn 3 2 0 0 0 2 = true by decide +kernel)) ?_
    refine vm_G.mono h ?_
    rintro _ m1 ⟨z1, rfl, h⟩
    show vm_G 121 39 [some (vm_r 0), some (vm_i v1), some (vm_i v2), some (vm_i v3), some (vm_i v4), some (vm_i (v4 / 26)), some (vm_i (v4 % 26)), w7, w8] [vm_i z1] m1 _
    refine vm_gj (c := z1 = 0) (t := 121) (e := 42) (i := (.ifCond .eq 0, 121, 0, [])) (len := 3) (st1 := []) (by decide +kernel) rfl rfl (fun c2 => ?_) (fun c2 => ?_)
    · replace h := h.1 c2
      obtain ⟨o5_0, h⟩ := h
      refine vm_gp [(.iinc 4 1, 0, 0, []), (.goto 0, 8, 0, [])] (pc1 := 8) (ls1 := [some (vm_r 0), some (vm_i v1), some (vm_i v2), some (vm_i v3), some (vm_i (v4 + 1)), some (vm_i (v4 / 26)), some (vm_i (v4 % 26)), w7, w8]) (st1 := []) (m1 := m1) (ob := (true && decide (vm_32 (v4 + 1)))) (by decide +kernel) rfl (vm_t rfl o5_0) ?_
      exact h
    · replace h := h.2 c2
      refine vm_gp [(.aload 0, 0, 0, []), (.getfield 2, 10, 1, [(3, 0)]), (.iload 6, 0, 0, [])] (pc1 := 48) (ls1 := [some (vm_r 0), some (vm_i v1), some (vm_i v2), some (vm_i v3), some (vm_i v4), some (vm_i (v4 / 26)), some (vm_i (v4 % 26)), w7, w8]) (st1 := [vm_i (v4 % 26), vm_r 3]) (m1 := m1) (ob := ((true && vm_is 0 10) && true)) (by decide +kernel) rfl (vm_u (vm_u rfl (by decide +kernel)) rfl) ?_
      refine vm_gc (g := 3) (na := 2) (av := [vm_r 3, vm_i (v4 % 26)]) (rest := []) (i := (.invokevirtual 0, 3, 2, [])) (len := 3) (by decide +kernel) rfl rfl rfl (by decide +kernel) (by decide +kernel) rfl rfl (vm_u (vm_okh_v (c := 0) (by decide +kernel) (by decide +kernel)) (show vm_okn 3 2 0 0 0 2 = true by decide +kernel)) ?_
      refine vm_G.mono h ?_
      rintro _ m2 ⟨z2, rfl, h⟩
      show vm_G 121 51 [some (vm_r 0), some (vm_i v1), some (vm_i v2), some (vm_i v3), some (vm_i v4), some (vm_i (v4 / 26)), some (vm_i (v4 % 26)), w7, w8] [vm_i z2] m2 _
      refine vm_gj (c := z2 = 0) (t := 121) (e := 54) (i := (.ifCond .eq 0, 121, 0, [])) (len := 3) (st1 := []) (by decide +kernel) rfl rfl (fun c3 => ?_) (fun c3 => ?_)
      · replace h := h.1 c3
        obtain ⟨o8_0, h⟩ := h
        refine vm_gp [(.iinc 4 1, 0, 0, []), (.goto 0, 8, 0, [])] (pc1 := 8) (ls1 := [some (vm_r 0), some (vm_i v1), some (vm_i v2), some (vm_i v3), some (vm_i (v4 + 1)), some (vm_i (v4 / 26)), some (vm_i (v4 % 26)), w7, w8]) (st1 := []) (m1 := m2) (ob := (true && decide (vm_32 (v4 + 1)))) (by decide +kernel) rfl (vm_t rfl o8_0) ?_
        exact h
      · replace h := h.2 c3
        refine vm_gp [(.aload 0, 0, 0, []), (.iload 5, 0, 0, []), (.iload 6, 0, 0, []), (.aload 0, 0, 0, []), (.getfield 2, 10, 3, [(9, 0)]), (.getfield 2, 4, 0, [(1, 1)]), (.iconst 3, 0, 0, []), (.iaload, 6, 0, [])] (pc1 := 68) (ls1 := [some (vm_r 0), some (vm_i v1), some (vm_i v2), some (vm_i v3), some (vm_i v4), some (vm_i (v4 / 26)), some (vm_i (v4 % 26)), w7, w8]) (st1 := [vm_i (m2 10 3), vm_i (v4 % 26), vm_i (v4 / 26), vm_r 0]) (m1 := m2) (ob := ((((((true && vm_is 0 10) && true) && vm_is 9 4) && true) && vm_ar 10 100 6) && decide ((0 : Int) ≤ 3 ∧ (3 : Int) < 6))) (by decide +kernel) rfl (vm_t (vm_u (vm_u (vm_u (vm_u (vm_u rfl (by decide +kernel)) rfl) (by decide +kernel)) rfl) (by decide +kernel)) (by decide)) ?_
        refine vm_gc (g := 124) (na := 4) (av := [vm_r 0, vm_i (v4 / 26), vm_i (v4 % 26), vm_i (m2 10 3)]) (rest := []) (i := (.invokevirtual 0, 124, 4, [])) (len := 3) (by decide +kernel) rfl rfl rfl (by decide +kernel) (by decide +kernel) rfl rfl (vm_u (vm_okh_v (c := 10) (by decide +kernel) (by decide +kernel)) (show vm_okn 124 4 0 0 0 4 = true by decide +kernel)) ?_
        refine vm_G.mono h ?_
        rintro _ m3 ⟨z3, rfl, h⟩
        show vm_G 121 71 [some (vm_r 0), some (vm_i v1), some (vm_i v2), some (vm_i v3), some (vm_i v4), some (vm_i (v4 / 26)), some (vm_i (v4 % 26)), w7, w8] [vm_i z3] m3 _
        refine vm_gp [(.istore 7, 0, 0, []), (.iload 1, 0, 0, [])] (pc1 := 74) (ls1 := [some (vm_r 0), some (vm_i v1), some (vm_i v2), some (vm_i v3), some (vm_i v4), some (vm_i (v4 / 26)), some (vm_i (v4 % 26)), some (vm_i z3), w8]) (st1 := [vm_i v1]) (m1 := m3) (ob := true) (by decide +kernel) rfl rfl ?_
        refine vm_gj (c := v1 = 0) (t := 91) (e := 77) (i := (.ifCond .eq 0, 91, 0, [])) (len := 3) (st1 := []) (by decide +kernel) rfl rfl (fun c4 => ?_) (fun c4 => ?_)
        · replace h := h.1 c4
          refine vm_gp [(.iload 7, 0, 0, []), (.iload 3, 0, 0, [])] (pc1 := 94) (ls1 := [some (vm_r 0), some (vm_i v1), some (vm_i v2), some (vm_i v3), some (vm_i v4), some (vm_i (v4 / 26)), some (vm_i (v4 % 26)), some (vm_i z3), w8]) (st1 := [vm_i v3, vm_i z3]) (m1 := m3) (ob := true) (by decide +kernel) rfl rfl ?_
          refine vm_gj (c := v3 ≤ z3) (t := 101) (e := 97) (i := (.if_icmp .ge 0, 101, 0, [])) (len := 3) (st1 := []) (by decide +kernel) rfl rfl (fun c5 => ?_) (fun c5 => ?_)
          · replace h := h.1 c5
            refine vm_gp [(.iconst 0, 0, 0, []), (.istore 8, 0, 0, []), (.iload 2, 0, 0, []), (.iconst (-2), 0, 0, [])] (pc1 := 107) (ls1 := [some (vm_r 0), some (vm_i v1), some (vm_i v2), some (vm_i v3), some (vm_i v4), some (vm_i (v4 / 26)), some (vm_i (v4 % 26)), some (vm_i z3), some (vm_i 0)]) (st1 := [vm_i (-2), vm_i v2]) (m1 := m3) (ob := true) (by decide +kernel) rfl rfl ?_
            refine vm_gj (c := v2 = (-2)) (t := 115) (e := 110) (i := (.if_icmp .eq 0, 115, 0, [])) (len := 3) (st1 := []) (by decide +kernel) rfl rfl (fun c6 => ?_) (fun c6 => ?_)
            · replace h := h.1 c6
              obtain ⟨o13_0, h⟩ := h
              refine vm_gp [(.iload 4, 0, 0, []), (.istore 2, 0, 0, []), (.iload 7, 0, 0, []), (.istore 3, 0, 0, []), (.iinc 4 1, 0, 0, []), (.goto 0, 8, 0, [])] (pc1 := 8) (ls1 := [some (vm_r 0), some (vm_i v1), some (vm_i v4), some (vm_i z3), some (vm_i (v4 + 1)), some (vm_i (v4 / 26)), some (vm_i (v4 % 26)), some (vm_i z3), some (vm_i 0)]) (st1 := []) (m1 := m3) (ob := (true && decide (vm_32 (v4 + 1)))) (by decide +kernel) rfl (vm_t rfl o13_0) ?_
              exact h
            · replace h := h.2 c6
              refine vm_gp [(.iload 8, 0, 0, [])] (pc1 := 112) (ls1 := [some (vm_r 0), some (vm_i v1), some (vm_i v2), some (vm_i v3), some (vm_i v4), some (vm_i (v4 / 26)), some (vm_i (v4 % 26)), some (vm_i z3), some (vm_i 0)]) (st1 := [vm_i 0]) (m1 := m3) (ob := true) (by decide +kernel) rfl rfl ?_
              refine vm_gj (c := 0 = 0) (t := 121) (e := 115) (i := (.ifCond .eq 0, 121, 0, [])) (len := 3) (st1 := []) (by decide +kernel) rfl rfl (fun c7 => ?_) (fun c7 => ?_)
              · replace h := h.1 c7
                obtain ⟨o15_0, h⟩ := h
                refine vm_gp [(.iinc 4 1, 0, 0, []), (.goto 0, 8, 0, [])] (pc1 := 8) (ls1 := [some (vm_r 0), some (vm_i v1), some (vm_i v2), some (vm_i v3), some (vm_i (v4 + 1)), some (vm_i (v4 / 26)), some (vm_i (v4 % 26)), some (vm_i z3), some (vm_i 0)]) (st1 := []) (m1 := m3) (ob := (true && decide (vm_32 (v4 + 1)))) (by decide +kernel) rfl (vm_t rfl o15_0) ?_
                exact h
              · replace h := h.2 c7
                obtain ⟨o16_0, h⟩ := h
                refine vm_gp [(.iload 4, 0, 0, []), (.istore 2, 0, 0, []), (.iload 7, 0, 0, []), (.istore 3, 0, 0, []), (.iinc 4 1, 0, 0, []), (.goto 0, 8, 0, [])] (pc1 := 8) (ls1 := [some (vm_r 0), some (vm_i v1), some (vm_i v4), some (vm_i z3), some (vm_i (v4 + 1)), some (vm_i (v4 / 26)), some (vm_i (v4 % 26)), some (vm_i z3), some (vm_i 0)]) (st1 := []) (m1 := m3) (ob := (true && decide (vm_32 (v4 + 1)))) (by decide +kernel) rfl (vm_t rfl o16_0) ?_
                exact h
          · replace h := h.2 c5
            refine vm_gp [(.iconst 1, 0, 0, []), (.goto 0, 102, 0, []), (.istore 8, 0, 0, []), (.iload 2, 0, 0, []), (.iconst (-2), 0, 0, [])] (pc1 := 107) (ls1 := [some (vm_r 0), some (vm_i v1), some (vm_i v2), some (vm_i v3), some (vm_i v4), some (vm_i (v4 / 26)), some (vm_i (v4 % 26)), some (vm_i z3), some (vm_i 1)]) (st1 := [vm_i (-2), vm_i v2]) (m1 := m3) (ob := true) (by decide +kernel) rfl rfl ?_
            refine vm_gj (c := v2 = (-2)) (t := 115) (e := 110) (i := (.if_icmp .eq 0, 115, 0, [])) (len := 3) (st1 := []) (by decide +kernel) rfl rfl (fun c8 => ?_) (fun c8 => ?_)
            · replace h := h.1 c8
              obtain ⟨o18_0, h⟩ := h
              refine vm_gp [(.iload 4, 0, 0, []), (.istore 2, 0, 0, []), (.iload 7, 0, 0, []), (.istore 3, 0, 0, []), (.iinc 4 1, 0, 0, []), (.goto 0, 8, 0, [])] (pc1 := 8) (ls1 := [some (vm_r 0), some (vm_i v1), some (vm_i v4), some (vm_i z3), some (vm_i (v4 + 1)), some (vm_i (v4 / 26)), some (vm_i (v4 % 26)), some (vm_i z3), some (vm_i 1)]) (st1 := []) (m1 := m3) (ob := (true && decide (vm_32 (v4 + 1)))) (by decide +kernel) rfl (vm_t rfl o18_0) ?_
              exact h
            · replace h := h.2 c8
              refine vm_gp [(.iload 8, 0, 0, [])] (pc1 := 112) (ls1 := [some (vm_r 0), some (vm_i v1), some (vm_i v2), some (vm_i v3), some (vm_i v4), some (vm_i (v4 / 26)), some (vm_i (v4 % 26)), some (vm_i z3), some (vm_i 1)]) (st1 := [vm_i 1]) (m1 := m3) (ob := true) (by decide +kernel) rfl rfl ?_
              refine vm_gj (c := 1 = 0) (t := 121) (e := 115) (i := (.ifCond .eq 0, 121, 0, [])) (len := 3) (st1 := []) (by decide +kernel) rfl rfl (fun c9 => ?_) (fun c9 => ?_)
              · replace h := h.1 c9
                obtain ⟨o20_0, h⟩ := h
                refine vm_gp [(.iinc 4 1, 0, 0, []), (.goto 0, 8, 0, [])] (pc1 := 8) (ls1 := [some (vm_r 0), some (vm_i v1), some (vm_i v2), some (vm_i v3), some (vm_i (v4 + 1)), some (vm_i (v4 / 26)), some (vm_i (v4 % 26)), some (vm_i z3), some (vm_i 1)]) (st1 := []) (m1 := m3) (ob := (true && decide (vm_32 (v4 + 1)))) (by decide +kernel) rfl (vm_t rfl o20_0) ?_
                exact h
              · replace h := h.2 c9
                obtain ⟨o21_0, h⟩ := h
                refine vm_gp [(.iload 4, 0, 0, []), (.istore 2, 0, 0, []), (.iload 7, 0, 0, []), (.istore 3, 0, 0, []), (.iinc 4 1, 0, 0, []), (.goto 0, 8, 0, [])] (pc1 := 8) (ls1 := [some (vm_r 0), some (vm_i v1), some (vm_i v4), some (vm_i z3), some (vm_i (v4 + 1)), some (vm_i (v4 / 26)), some (vm_i (v4 % 26)), some (vm_i z3), some (vm_i 1)]) (st1 := []) (m1 := m3) (ob := (true && decide (vm_32 (v4 + 1)))) (by decide +kernel) rfl (vm_t rfl o21_0) ?_
                exact h
        · replace h := h.2 c4
          refine vm_gp [(.iload 7, 0, 0, []), (.iload 3, 0, 0, [])] (pc1 := 80) (ls1 := [some (vm_r 0), some (vm_i v1), some (vm_i v2), some (vm_i v3), some (vm_i v4), some (vm_i (v4 / 26)), some (vm_i (v4 % 26)), some (vm_i z3), w8]) (st1 := [vm_i v3, vm_i z3]) (m1 := m3) (ob := true) (by decide +kernel) rfl rfl ?_
          refine vm_gj (c := z3 ≤ v3) (t := 87) (e := 83) (i := (.if_icmp .le 0, 87, 0, [])) (len := 3) (st1 := []) (by decide +kernel) rfl rfl (fun c10 => ?_) (fun c10 => ?_)
          · replace h := h.1 c10
            refine vm_gp [(.iconst 0, 0, 0, []), (.goto 0, 102, 0, []), (.istore 8, 0, 0, []), (.iload 2, 0, 0, []), (.iconst (-2), 0, 0, [])] (pc1 := 107) (ls1 := [some (vm_r 0), some (vm_i v1), some (vm_i v2), some (vm_i v3), some (vm_i v4), some (vm_i (v4 / 26)), some (vm_i (v4 % 26)), some (vm_i z3), some (vm_i 0)]) (st1 := [vm_i (-2), vm_i v2]) (m1 := m3) (ob := true) (by decide +kernel) rfl rfl ?_
            refine vm_gj (c := v2 = (-2)) (t := 115) (e := 110) (i := (.if_icmp .eq 0, 115, 0, [])) (len := 3) (st1 := []) (by decide +kernel) rfl rfl (fun c11 => ?_) (fun c11 => ?_)
            · replace h := h.1 c11
              obtain ⟨o24_0, h⟩ := h
              refine vm_gp [(.iload 4, 0, 0, []), (.istore 2, 0, 0, []), (.iload 7, 0, 0, []), (.istore 3, 0, 0, []), (.iinc 4 1, 0, 0, []), (.goto 0, 8, 0, [])] (pc1 := 8) (ls1 := [some (vm_r 0), some (vm_i v1), some (vm_i v4), some (vm_i z3), some (vm_i (v4 + 1)), some (vm_i (v4 / 26)), some (vm_i (v4 % 26)), some (vm_i z3), some (vm_i 0)]) (st1 := []) (m1 := m3) (ob := (true && decide (vm_32 (v4 + 1)))) (by decide +kernel) rfl (vm_t rfl o24_0) ?_
              exact h
            · replace h := h.2 c11
              refine vm_gp [(.iload 8, 0, 0, [])] (pc1 := 112) (ls1 := [some (vm_r 0), some (vm_i v1), some (vm_i v2), some (vm_i v3), some (vm_i v4), some (vm_i (v4 / 26)), some (vm_i (v4 % 26)), some (vm_i z3), some (vm_i 0)]) (st1 := [vm_i 0]) (m1 := m3) (ob := true) (by decide +kernel) rfl rfl ?_
              refine vm_gj (c := 0 = 0) (t := 121) (e := 115) (i := (.ifCond .eq 0, 121, 0, [])) (len := 3) (st1 := []) (by decide +kernel) rfl rfl (fun c12 => ?_) (fun c12 => ?_)
              · replace h := h.1 c12
                obtain ⟨o26_0, h⟩ := h
                refine vm_gp [(.iinc 4 1, 0, 0, []), (.goto 0, 8, 0, [])] (pc1 := 8) (ls1 := [some (vm_r 0), some (vm_i v1), some (vm_i v2), some (vm_i v3), some (vm_i (v4 + 1)), some (vm_i (v4 / 26)), some (vm_i (v4 % 26)), some (vm_i z3), some (vm_i 0)]) (st1 := []) (m1 := m3) (ob := (true && decide (vm_32 (v4 + 1)))) (by decide +kernel) rfl (vm_t rfl o26_0) ?_
                exact h
              · replace h := h.2 c12
                obtain ⟨o27_0, h⟩ := h
                refine vm_gp [(.iload 4, 0, 0, []), (.istore 2, 0, 0, []), (.iload 7, 0, 0, []), (.istore 3, 0, 0, []), (.iinc 4 1, 0, 0, []), (.goto 0, 8, 0, [])] (pc1 := 8) (ls1 := [some (vm_r 0), some (vm_i v1), some (vm_i v4), some (vm_i z3), some (vm_i (v4 + 1)), some (vm_i (v4 / 26)), some (vm_i (v4 % 26)), some (vm_i z3), some (vm_i 0)]) (st1 := []) (m1 := m3) (ob := (true && decide (vm_32 (v4 + 1)))) (by decide +kernel) rfl (vm_t rfl o27_0) ?_
                exact h
          · replace h := h.2 c10
            refine vm_gp [(.iconst 1, 0, 0, []), (.goto 0, 102, 0, []), (.istore 8, 0, 0, []), (.iload 2, 0, 0, []), (.iconst (-2), 0, 0, [])] (pc1 := 107) (ls1 := [some (vm_r 0), some (vm_i v1), some (vm_i v2), some (vm_i v3), some (vm_i v4), some (vm_i (v4 / 26)), some (vm_i (v4 % 26)), some (vm_i z3), some (vm_i 1)]) (st1 := [vm_i (-2), vm_i v2]) (m1 := m3) (ob := true) (by decide +kernel) rfl rfl ?_
            refine vm_gj (c := v2 = (-2)) (t := 115) (e := 110) (i := (.if_icmp .eq 0, 115, 0, [])) (len := 3) (st1 := []) (by decide +kernel) rfl rfl (fun c13 => ?_) (fun c13 => ?_)
            · replace h := h.1 c13
              obtain ⟨o29_0, h⟩ := h
              refine vm_gp [(.iload 4, 0, 0, []), (.istore 2, 0, 0, []), (.iload 7, 0, 0, []), (.istore 3, 0, 0, []), (.iinc 4 1, 0, 0, []), (.goto 0, 8, 0, [])] (pc1 := 8) (ls1 := [some (vm_r 0), some (vm_i v1), some (vm_i v4), some (vm_i z3), some (vm_i (v4 + 1)), some (vm_i (v4 / 26)), some (vm_i (v4 % 26)), some (vm_i z3), some (vm_i 1)]) (st1 := []) (m1 := m3) (ob := (true && decide (vm_32 (v4 + 1)))) (by decide +kernel) rfl (vm_t rfl o29_0) ?_
              exact h
            · replace h := h.2 c13
              refine vm_gp [(.iload 8, 0, 0, [])] (pc1 := 112) (ls1 := [some (vm_r 0), some (vm_i v1), some (vm_i v2), some (vm_i v3), some (vm_i v4), some (vm_i (v4 / 26)), some (vm_i (v4 % 26)), some (vm_i z3), some (vm_i 1)]) (st1 := [vm_i 1]) (m1 := m3) (ob := true) (by decide +kernel) rfl rfl ?_
              refine vm_gj (c := 1 = 0) (t := 121) (e := 115) (i := (.ifCond .eq 0, 121, 0, [])) (len := 3) (st1 := []) (by decide +kernel) rfl rfl (fun c14 => ?_) (fun c14 => ?_)
              · replace h := h.1 c14
                obtain ⟨o31_0, h⟩ := h
                refine vm_gp [(.iinc 4 1, 0, 0, []), (.goto 0, 8, 0, [])] (pc1 := 8) (ls1 := [some (vm_r 0), some (vm_i v1), some (vm_i v2), some (vm_i v3), some (vm_i (v4 + 1)), some (vm_i (v4 / 26)), some (vm_i (v4 % 26)), some (vm_i z3), some (vm_i 1)]) (st1 := []) (m1 := m3) (ob := (true && decide (vm_32 (v4 + 1)))) (by decide +kernel) rfl (vm_t rfl o31_0) ?_
                exact h
              · replace h := h.2 c14
                obtain ⟨o32_0, h⟩ := h
                refine vm_gp [(.iload 4, 0, 0, []), (.istore 2, 0, 0, []), (.iload 7, 0, 0, []), (.istore 3, 0, 0, []), (.iinc 4 1, 0, 0, []), (.goto 0, 8, 0, [])] (pc1 := 8) (ls1 := [some (vm_r 0), some (vm_i v1), some (vm_i v4), some (vm_i z3), some (vm_i (v4 + 1)), some (vm_i (v4 / 26)), some (vm_i (v4 % 26)), some (vm_i z3), some (vm_i 1)]) (st1 := []) (m1 := m3) (ob := (true && decide (vm_32 (v4 + 1)))) (by decide +kernel) rfl (vm_t rfl o32_0) ?_
                exact h
abbrev ku10_pairDistance_0 (v1 : Int) (v2 : Int) (v3 : Int) (m : vm_M) (Q : Int → vm_M → Prop) : Prop := vm_G 124 0 [some (vm_r 0), some (vm_i v1), some (vm_i v2), some (vm_i v3)] [] m (vm_qi Q)
set_option maxRecDepth 20000 in
theorem ru10_pairDistance_0 {v1 : Int} {v2 : Int} {v3 : Int} {m : vm_M} {Q : Int → vm_M → Prop}  (h :
    (vm_C 11 [vm_r 3, vm_i v1, vm_i v2, vm_i v3, vm_i (-9)] m (vm_qi (fun z1 m1 =>
      (vm_C 57 [vm_r 9, vm_i v1, vm_i v2, vm_i z1] m1 (vm_qi (fun z2 m2 =>
        Q z2 m2))))))) : vm_C 124 [vm_r 0, vm_i v1, vm_i v2, vm_i v3] m (vm_qi Q) := by
  show vm_G 124 0 [some (vm_r 0), some (vm_i v1), some (vm_i v2), some (vm_i v3)] [] m (vm_qi Q)
  refine vm_gp [(.aload 0, 0, 0, []), (.getfield 2, 10, 3, [(9, 0)]), (.iload 1, 0, 0, []), (.iload 2, 0, 0, []), (.aload 0, 0, 0, []), (.getfield 2, 10, 1, [(3, 0)]), (.iload 1, 0, 0, []), (.iload 2, 0, 0, []), (.iload 3, 0, 0, []), (.iconst (-9), 0, 0, [])] (pc1 := 15) (ls1 := [some (vm_r 0), some (vm_i v1), some (vm_i v2), some (vm_i v3)]) (st1 := [vm_i (-9), vm_i v3, vm_i v2, vm_i v1, vm_r 3, vm_i v2, vm_i v1, vm_r 9]) (m1 := m) (ob := ((((true && vm_is 0 10) && true) && vm_is 0 10) && true)) (by decide +kernel) rfl (vm_u (vm_u (vm_u (vm_u rfl (by decide +kernel)) rfl) (by decide +kernel)) rfl) ?_
  refine vm_gc (g := 11) (na := 5) (av := [vm_r 3, vm_i v1, vm_i v2, vm_i v3, vm_i (-9)]) (rest := [vm_i v2, vm_i v1, vm_r 9]) (i := (.invokevirtual 0, 11, 5, [])) (len := 3) (by decide +kernel) rfl rfl rfl (by decide +kernel) (by decide +kernel) rfl rfl (vm_u (vm_okh_v (c := 0) (by decide +kernel) (by decide +kernel)) (show vm_okn 11 5 3 0 0 5 = true by decide +kernel)) ?_
  refine vm_G.mono h ?_
  rintro _ m1 ⟨z1, rfl, h⟩
  show vm_G 124 18 [some (vm_r 0), some (vm_i v1), some (vm_i v2), some (vm_i v3)] [vm_i z1, vm_i v2, vm_i v1, vm_r 9] m1 _
  refine vm_gc (g := 57) (na := 4) (av := [vm_r 9, vm_i v1, vm_i v2, vm_i z1]) (rest := []) (i := (.invokevirtual 0, 57, 4, [])) (len := 3) (by decide +kernel) rfl rfl rfl (by decide +kernel) (by decide +kernel) rfl rfl (vm_u (vm_okh_v (c := 4) (by decide +kernel) (by decide +kernel)) (show vm_okn 57 4 0 0 0 4 = true by decide +kernel)) ?_
  refine vm_G.mono h ?_
  rintro _ m2 ⟨z2, rfl, h⟩
  show vm_G 124 21 [some (vm_r 0), some (vm_i v1), some (vm_i v2), some (vm_i v3)] [vm_i z2] m2 _
  exact vm_gr (r := some (vm_i z2)) (i := (.ireturn, 1, 0, [])) (len := 1) (by decide +kernel) rfl rfl rfl ⟨_, rfl, h⟩
abbrev ku10_word_0 (v1 : Int) (v2 : Int) (m : vm_M) (Q : Int → vm_M → Prop) : Prop := vm_G 125 0 [some (vm_r 0), some (vm_i v1), some (vm_i v2), none] [] m (vm_qi Q)
set_option maxRecDepth 20000 in
theorem ru10_word_0 {v1 : Int} {v2 : Int} {m : vm_M} {Q : Int → vm_M → Prop}  (h :
    (vm_C 59 [vm_r 9, vm_i v1] m (vm_qi (fun z1 m1 =>
      ((¬ z1 = 0 →
        (vm_C 137 [vm_r 0] m1 (vm_qv (fun m2 =>
          (vm_C 17 [vm_r 67, vm_i v1] m2 (vm_qi (fun z3 m3 =>
            ((v2 = 0 →
              ((0 ≤ v1 ∧ v1 < 30)) ∧
              Q (m3 12 v1) m3) ∧ (¬ v2 = 0 →
              ((v2 = 1 →
                (vm_C 96 [vm_r 65, vm_i v1, vm_i (m3 10 3)] m3 (vm_qi (fun z4 m4 =>
                  ((vm_32 (z4 * (m4 10 5)))) ∧
                  Q (z4 * (m4 10 5)) m4)))) ∧ (¬ v2 = 1 →
                ((v2 = 2 →
                  Q z3 m3) ∧ (¬ v2 = 2 →
                  ((v2 = 3 →
                    ((¬ z3 = (-2) →
                      ((0 ≤ z3 ∧ z3 < 13) ∧ (vm_32 (v1 - (m3 70 z3)))) ∧
                      Q (v1 - (m3 70 z3)) m3) ∧ (¬ ¬ z3 = (-2) →
                      Q (-2) m3))) ∧ (¬ v2 = 3 →
                    Q (-1) m3))))))))))))))) ∧ (¬ ¬ z1 = 0 →
        Q (-1) m1)))))) : vm_C 125 [vm_r 0, vm_i v1, vm_i v2] m (vm_qi Q) := by
  show vm_G 125 0 [some (vm_r 0), some (vm_i v1), some (vm_i v2), none] [] m (vm_qi Q)
  refine vm_gp [(.aload 0, 0, 0, []), (.getfield 2, 10, 3, [(9, 0)]), (.iload 1, 0, 0, [])] (pc1 := 5) (ls1 := [some (vm_r 0), some (vm_i v1), some (vm_i v2), none]) (st1 := [vm_i v1, vm_r 9]) (m1 := m) (ob := ((true && vm_is 0 10) && true)) (by decide +kernel) rfl (vm_u (vm_u rfl (by decide +kernel)) rfl) ?_
  refine vm_gc (g := 59) (na := 2) (av := [vm_r 9, vm_i v1]) (rest := []) (i := (.invokevirtual 0, 59, 2, [])) (len := 3) (by decide +kernel) rfl rfl rfl (by decide +kernel) (by decide +kernel) rfl rfl (vm_u (vm_okh_v (c := 4) (by decide +kernel) (by decide +kernel)) (show vm_okn 59 2 0 0 0 2 = true by decide +kernel)) ?_
  refine vm_G.mono h ?_
  rintro _ m1 ⟨z1, rfl, h⟩
  show vm_G 125 8 [some (vm_r 0), some (vm_i v1), some (vm_i v2), none] [vm_i z1] m1 _
  refine vm_gj (c := ¬ z1 = 0) (t := 13) (e := 11) (i := (.ifCond .ne 0, 13, 0, [])) (len := 3) (st1 := []) (by decide +kernel) rfl rfl (fun c1 => ?_) (fun c1 => ?_)
  · replace h := h.1 c1
    refine vm_gp [(.aload 0, 0, 0, [])] (pc1 := 14) (ls1 := [some (vm_r 0), some (vm_i v1), some (vm_i v2), none]) (st1 := [vm_r 0]) (m1 := m1) (ob := true) (by decide +kernel) rfl rfl ?_
    refine vm_gc (g := 137) (na := 1) (av := [vm_r 0]) (rest := []) (i := (.invokevirtual 0, 137, 1, [])) (len := 3) (by decide +kernel) rfl rfl rfl (by decide +kernel) (by decide +kernel) rfl rfl (vm_u (vm_okh_v (c := 10) (by decide +kernel) (by decide +kernel)) (show vm_okn 137 1 0 0 0 1 = true by decide +kernel)) ?_
    refine vm_G.mono h ?_
    rintro _ m2 ⟨rfl, h⟩
    show vm_G 125 17 [some (vm_r 0), some (vm_i v1), some (vm_i v2), none] [] m2 _
    refine vm_gp [(.aload 0, 0, 0, []), (.getfield 2, 10, 10, [(67, 0)]), (.iload 1, 0, 0, [])] (pc1 := 22) (ls1 := [some (vm_r 0), some (vm_i v1), some (vm_i v2), none]) (st1 := [vm_i v1, vm_r 67]) (m1 := m2) (ob := ((true && vm_is 0 10) && true)) (by decide +kernel) rfl (vm_u (vm_u rfl (by decide +kernel)) rfl) ?_
    refine vm_gc (g := 17) (na := 2) (av := [vm_r 67, vm_i v1]) (rest := []) (i := (.invokevirtual 0, 17, 2, [])) (len := 3) (by decide +kernel) rfl rfl rfl (by decide +kernel) (by decide +kernel) rfl rfl (vm_u (vm_okh_v (c := 1) (by decide +kernel) (by decide +kernel)) (show vm_okn 17 2 0 0 0 2 = true by decide +kernel)) ?_
    refine vm_G.mono h ?_
    rintro _ m3 ⟨z3, rfl, h⟩
    show vm_G 125 25 [some (vm_r 0), some (vm_i v1), some (vm_i v2), none] [vm_i z3] m3 _
    refine vm_gp [(.istore 3, 0, 0, []), (.iload 2, 0, 0, [])] (pc1 := 27) (ls1 := [some (vm_r 0), some (vm_i v1), some (vm_i v2), some (vm_i z3)]) (st1 := [vm_i v2]) (m1 := m3) (ob := true) (by decide +kernel) rfl rfl ?_
    by_cases c2 : v2 = 0
    · replace h := h.1 c2
      refine vm_gj1 (i := (.tableswitch 0 0 0 #[], 119, 0, [(0, 56), (1, 66), (2, 94), (3, 96)])) (len := 29) (t := 56) (st1 := []) (by decide +kernel) rfl (by rw [c2]; rfl) ?_
      obtain ⟨o6_0, h⟩ := h
      refine vm_gp [(.aload 0, 0, 0, []), (.getfield 2, 10, 3, [(9, 0)]), (.getfield 2, 4, 2, [(3, 1)]), (.iload 1, 0, 0, []), (.iaload, 30, 0, [])] (pc1 := 65) (ls1 := [some (vm_r 0), some (vm_i v1), some (vm_i v2), some (vm_i z3)]) (st1 := [vm_i (m3 12 v1)]) (m1 := m3) (ob := ((((((true && vm_is 0 10) && true) && vm_is 9 4) && true) && vm_ar 12 100 30) && decide (0 ≤ v1 ∧ v1 < 30))) (by decide +kernel) rfl (vm_t (vm_u (vm_u (vm_u (vm_u (vm_u rfl (by decide +kernel)) rfl) (by decide +kernel)) rfl) (by decide +kernel)) o6_0) ?_
      exact vm_gr (r := some (vm_i (m3 12 v1))) (i := (.ireturn, 1, 0, [])) (len := 1) (by decide +kernel) rfl rfl rfl ⟨_, rfl, h⟩
    · replace h := h.2 c2
      by_cases c3 : v2 = 1
      · replace h := h.1 c3
        refine vm_gj1 (i := (.tableswitch 0 0 0 #[], 119, 0, [(0, 56), (1, 66), (2, 94), (3, 96)])) (len := 29) (t := 66) (st1 := []) (by decide +kernel) rfl (by rw [c3]; rfl) ?_
        refine vm_gp [(.aload 0, 0, 0, []), (.getfield 2, 10, 9, [(65, 0)]), (.iload 1, 0, 0, []), (.aload 0, 0, 0, []), (.getfield 2, 10, 3, [(9, 0)]), (.getfield 2, 4, 0, [(1, 1)]), (.iconst 3, 0, 0, []), (.iaload, 6, 0, [])] (pc1 := 80) (ls1 := [some (vm_r 0), some (vm_i v1), some (vm_i v2), some (vm_i z3)]) (st1 := [vm_i (m3 10 3), vm_i v1, vm_r 65]) (m1 := m3) (ob := ((((((((true && vm_is 0 10) && true) && vm_is 0 10) && true) && vm_is 9 4) && true) && vm_ar 10 100 6) && decide ((0 : Int) ≤ 3 ∧ (3 : Int) < 6))) (by decide +kernel) rfl (vm_t (vm_u (vm_u (vm_u (vm_u (vm_u (vm_u (vm_u rfl (by decide +kernel)) rfl) (by decide +kernel)) rfl) (by decide +kernel)) rfl) (by decide +kernel)) (by decide)) ?_
        refine vm_gc (g := 96) (na := 3) (av := [vm_r 65, vm_i v1, vm_i (m3 10 3)]) (rest := []) (i := (.invokevirtual 0, 96, 3, [])) (len := 3) (by decide +kernel) rfl rfl rfl (by decide +kernel) (by decide +kernel) rfl rfl (vm_u (vm_okh_v (c := 9) (by decide +kernel) (by decide +kernel)) (show vm_okn 96 3 0 0 0 3 = true by decide +kernel)) ?_
        refine vm_G.mono h ?_
        rintro _ m4 ⟨z4, rfl, h⟩
        show vm_G 125 83 [some (vm_r 0), some (vm_i v1), some (vm_i v2), some (vm_i z3)] [vm_i z4] m4 _
        obtain ⟨o8_0, h⟩ := h
        refine vm_gp [(.aload 0, 0, 0, []), (.getfield 2, 10, 3, [(9, 0)]), (.getfield 2, 4, 0, [(1, 1)]), (.iconst 5, 0, 0, []), (.iaload, 6, 0, []), (.imul, 0, 0, [])] (pc1 := 93) (ls1 := [some (vm_r 0), some (vm_i v1), some (vm_i v2), some (vm_i z3)]) (st1 := [vm_i (z4 * (m4 10 5))]) (m1 := m4) (ob := (((((((true && vm_is 0 10) && true) && vm_is 9 4) && true) && vm_ar 10 100 6) && decide ((0 : Int) ≤ 5 ∧ (5 : Int) < 6)) && decide (vm_32 (z4 * (m4 10 5))))) (by decide +kernel) rfl (vm_t (vm_t (vm_u (vm_u (vm_u (vm_u (vm_u rfl (by decide +kernel)) rfl) (by decide +kernel)) rfl) (by decide +kernel)) (by decide)) o8_0) ?_
        exact vm_gr (r := some (vm_i (z4 * (m4 10 5)))) (i := (.ireturn, 1, 0, [])) (len := 1) (by decide +kernel) rfl rfl rfl ⟨_, rfl, h⟩
      · replace h := h.2 c3
        by_cases c4 : v2 = 2
        · replace h := h.1 c4
          refine vm_gj1 (i := (.tableswitch 0 0 0 #[], 119, 0, [(0, 56), (1, 66), (2, 94), (3, 96)])) (len := 29) (t := 94) (st1 := []) (by decide +kernel) rfl (by rw [c4]; rfl) ?_
          refine vm_gp [(.iload 3, 0, 0, [])] (pc1 := 95) (ls1 := [some (vm_r 0), some (vm_i v1), some (vm_i v2), some (vm_i z3)]) (st1 := [vm_i z3]) (m1 := m3) (ob := true) (by decide +kernel) rfl rfl ?_
          exact vm_gr (r := some (vm_i z3)) (i := (.ireturn, 1, 0, [])) (len := 1) (by decide +kernel) rfl rfl rfl ⟨_, rfl, h⟩
        · replace h := h.2 c4
          by_cases c5 : v2 = 3
          · replace h := h.1 c5
            refine vm_gj1 (i := (.tableswitch 0 0 0 #[], 119, 0, [(0, 56), (1, 66), (2, 94), (3, 96)])) (len := 29) (t := 96) (st1 := []) (by decide +kernel) rfl (by rw [c5]; rfl) ?_
            refine vm_gp [(.iload 3, 0, 0, []), (.iconst (-2), 0, 0, [])] (pc1 := 99) (ls1 := [some (vm_r 0), some (vm_i v1), some (vm_i v2), some (vm_i z3)]) (st1 := [vm_i (-2), vm_i z3]) (m1 := m3) (ob := true) (by decide +kernel) rfl rfl ?_
            refine vm_gj (c := ¬ z3 = (-2)) (t := 107) (e := 102) (i := (.if_icmp .ne 0, 107, 0, [])) (len := 3) (st1 := []) (by decide +kernel) rfl rfl (fun c6 => ?_) (fun c6 => ?_)
            · replace h := h.1 c6
              obtain ⟨⟨o11_0, o11_1⟩, h⟩ := h
              refine vm_gp [(.iload 1, 0, 0, []), (.aload 0, 0, 0, []), (.getfield 2, 10, 10, [(67, 0)]), (.getfield 2, 1, 2, [(3, 1)]), (.iload 3, 0, 0, []), (.iaload, 13, 0, []), (.isub, 0, 0, [])] (pc1 := 118) (ls1 := [some (vm_r 0), some (vm_i v1), some (vm_i v2), some (vm_i z3)]) (st1 := [vm_i (v1 - (m3 70 z3))]) (m1 := m3) (ob := (((((((true && vm_is 0 10) && true) && vm_is 67 1) && true) && vm_ar 70 100 13) && decide (0 ≤ z3 ∧ z3 < 13)) && decide (vm_32 (v1 - (m3 70 z3))))) (by decide +kernel) rfl (vm_t (vm_t (vm_u (vm_u (vm_u (vm_u (vm_u rfl (by decide +kernel)) rfl) (by decide +kernel)) rfl) (by decide +kernel)) o11_0) o11_1) ?_
              exact vm_gr (r := some (vm_i (v1 - (m3 70 z3)))) (i := (.ireturn, 1, 0, [])) (len := 1) (by decide +kernel) rfl rfl rfl ⟨_, rfl, h⟩
            · replace h := h.2 c6
              refine vm_gp [(.iconst (-2), 0, 0, []), (.goto 0, 118, 0, [])] (pc1 := 118) (ls1 := [some (vm_r 0), some (vm_i v1), some (vm_i v2), some (vm_i z3)]) (st1 := [vm_i (-2)]) (m1 := m3) (ob := true) (by decide +kernel) rfl rfl ?_
              exact vm_gr (r := some (vm_i (-2))) (i := (.ireturn, 1, 0, [])) (len := 1) (by decide +kernel) rfl rfl rfl ⟨_, rfl, h⟩
          · replace h := h.2 c5
            refine vm_gj1 (i := (.tableswitch 0 0 0 #[], 119, 0, [(0, 56), (1, 66), (2, 94), (3, 96)])) (len := 29) (t := 119) (st1 := []) (by decide +kernel) rfl (by simp only [vm_jmp, vm_sw, cond, decide_eq_false c2, decide_eq_false c3, decide_eq_false c4, decide_eq_false c5]) ?_
            refine vm_gp [(.iconst (-1), 0, 0, [])] (pc1 := 120) (ls1 := [some (vm_r 0), some (vm_i v1), some (vm_i v2), some (vm_i z3)]) (st1 := [vm_i (-1)]) (m1 := m3) (ob := true) (by decide +kernel) rfl rfl ?_
            exact vm_gr (r := some (vm_i (-1))) (i := (.ireturn, 1, 0, [])) (len := 1) (by decide +kernel) rfl rfl rfl ⟨_, rfl, h⟩
  · replace h := h.2 c1
    refine vm_gp [(.iconst (-1), 0, 0, [])] (pc1 := 12) (ls1 := [some (vm_r 0), some (vm_i v1), some (vm_i v2), none]) (st1 := [vm_i (-1)]) (m1 := m1) (ob := true) (by decide +kernel) rfl rfl ?_
    exact vm_gr (r := some (vm_i (-1))) (i := (.ireturn, 1, 0, [])) (len := 1) (by decide +kernel) rfl rfl rfl ⟨_, rfl, h⟩
abbrev ku10_spelled_0 (v1 : Int) (v2 : Int) (m : vm_M) (Q : Int → vm_M → Prop) : Prop := vm_G 126 0 [some (vm_r 0), some (vm_i v1), some (vm_i v2)] [] m (vm_qi Q)
set_option maxRecDepth 20000 in
theorem ru10_spelled_0 {v1 : Int} {v2 : Int} {m : vm_M} {Q : Int → vm_M → Prop}  (h :
    (vm_C 59 [vm_r 9, vm_i v1] m (vm_qi (fun z1 m1 =>
      ((z1 = 0 →
        Q (-1) m1) ∧ (¬ z1 = 0 →
        ((0 ≤ v2 →
          ((0 ≤ v1 ∧ v1 < 30)) ∧
          (((m1 12 v1) ≤ v2 →
            Q (-2) m1) ∧ (¬ (m1 12 v1) ≤ v2 →
            ((vm_32 (v1 * 12)) ∧ (vm_32 ((v1 * 12) + v2)) ∧ (0 ≤ ((v1 * 12) + v2) ∧ ((v1 * 12) + v2) < 360)) ∧
            Q (m1 13 ((v1 * 12) + v2)) m1))) ∧ (¬ 0 ≤ v2 →
          Q (-1) m1)))))))) : vm_C 126 [vm_r 0, vm_i v1, vm_i v2] m (vm_qi Q) := by
  show vm_G 126 0 [some (vm_r 0), some (vm_i v1), some (vm_i v2)] [] m (vm_qi Q)
  refine vm_gp [(.aload 0, 0, 0, []), (.getfield 2, 10, 3, [(9, 0)]), (.iload 1, 0, 0, [])] (pc1 := 5) (ls1 := [some (vm_r 0), some (vm_i v1), some (vm_i v2)]) (st1 := [vm_i v1, vm_r 9]) (m1 := m) (ob := ((true && vm_is 0 10) && true)) (by decide +kernel) rfl (vm_u (vm_u rfl (by decide +kernel)) rfl) ?_
  refine vm_gc (g := 59) (na := 2) (av := [vm_r 9, vm_i v1]) (rest := []) (i := (.invokevirtual 0, 59, 2, [])) (len := 3) (by decide +kernel) rfl rfl rfl (by decide +kernel) (by decide +kernel) rfl rfl (vm_u (vm_okh_v (c := 4) (by decide +kernel) (by decide +kernel)) (show vm_okn 59 2 0 0 0 2 = true by decide +kernel)) ?_
  refine vm_G.mono h ?_
  rintro _ m1 ⟨z1, rfl, h⟩
  show vm_G 126 8 [some (vm_r 0), some (vm_i v1), some (vm_i v2)] [vm_i z1] m1 _
  refine vm_gj (c := z1 = 0) (t := 15) (e := 11) (i := (.ifCond .eq 0, 15, 0, [])) (len := 3) (st1 := []) (by decide +kernel) rfl rfl (fun c1 => ?_) (fun c1 => ?_)
  · replace h := h.1 c1
    refine vm_gp [(.iconst (-1), 0, 0, [])] (pc1 := 16) (ls1 := [some (vm_r 0), some (vm_i v1), some (vm_i v2)]) (st1 := [vm_i (-1)]) (m1 := m1) (ob := true) (by decide +kernel) rfl rfl ?_
    exact vm_gr (r := some (vm_i (-1))) (i := (.ireturn, 1, 0, [])) (len := 1) (by decide +kernel) rfl rfl rfl ⟨_, rfl, h⟩
  · replace h := h.2 c1
    refine vm_gp [(.iload 2, 0, 0, [])] (pc1 := 12) (ls1 := [some (vm_r 0), some (vm_i v1), some (vm_i v2)]) (st1 := [vm_i v2]) (m1 := m1) (ob := true) (by decide +kernel) rfl rfl ?_
    refine vm_gj (c := 0 ≤ v2) (t := 17) (e := 15) (i := (.ifCond .ge 0, 17, 0, [])) (len := 3) (st1 := []) (by decide +kernel) rfl rfl (fun c2 => ?_) (fun c2 => ?_)
    · replace h := h.1 c2
      obtain ⟨o5_0, h⟩ := h
      refine vm_gp [(.iload 2, 0, 0, []), (.aload 0, 0, 0, []), (.getfield 2, 10, 3, [(9, 0)]), (.getfield 2, 4, 2, [(3, 1)]), (.iload 1, 0, 0, []), (.iaload, 30, 0, [])] (pc1 := 27) (ls1 := [some (vm_r 0), some (vm_i v1), some (vm_i v2)]) (st1 := [vm_i (m1 12 v1), vm_i v2]) (m1 := m1) (ob := ((((((true && vm_is 0 10) && true) && vm_is 9 4) && true) && vm_ar 12 100 30) && decide (0 ≤ v1 ∧ v1 < 30))) (by decide +kernel) rfl (vm_t (vm_u (vm_u (vm_u (vm_u (vm_u rfl (by decide +kernel)) rfl) (by decide +kernel)) rfl) (by decide +kernel)) o5_0) ?_
      refine vm_gj (c := (m1 12 v1) ≤ v2) (t := 47) (e := 30) (i := (.if_icmp .ge 0, 47, 0, [])) (len := 3) (st1 := []) (by decide +kernel) rfl rfl (fun c3 => ?_) (fun c3 => ?_)
      · replace h := h.1 c3
        refine vm_gp [(.iconst (-2), 0, 0, [])] (pc1 := 49) (ls1 := [some (vm_r 0), some (vm_i v1), some (vm_i v2)]) (st1 := [vm_i (-2)]) (m1 := m1) (ob := true) (by decide +kernel) rfl rfl ?_
        exact vm_gr (r := some (vm_i (-2))) (i := (.ireturn, 1, 0, [])) (len := 1) (by decide +kernel) rfl rfl rfl ⟨_, rfl, h⟩
      · replace h := h.2 c3
        obtain ⟨⟨o7_0, o7_1, o7_2⟩, h⟩ := h
        refine vm_gp [(.aload 0, 0, 0, []), (.getfield 2, 10, 3, [(9, 0)]), (.getfield 2, 4, 3, [(4, 1)]), (.iload 1, 0, 0, []), (.iconst 12, 0, 0, []), (.imul, 0, 0, []), (.iload 2, 0, 0, []), (.iadd, 0, 0, []), (.iaload, 360, 0, []), (.goto 0, 49, 0, [])] (pc1 := 49) (ls1 := [some (vm_r 0), some (vm_i v1), some (vm_i v2)]) (st1 := [vm_i (m1 13 ((v1 * 12) + v2))]) (m1 := m1) (ob := ((((((((true && vm_is 0 10) && true) && vm_is 9 4) && true) && decide (vm_32 (v1 * 12))) && decide (vm_32 ((v1 * 12) + v2))) && vm_ar 13 100 360) && decide (0 ≤ ((v1 * 12) + v2) ∧ ((v1 * 12) + v2) < 360))) (by decide +kernel) rfl (vm_t (vm_u (vm_t (vm_t (vm_u (vm_u (vm_u (vm_u rfl (by decide +kernel)) rfl) (by decide +kernel)) rfl) o7_0) o7_1) (by decide +kernel)) o7_2) ?_
        exact vm_gr (r := some (vm_i (m1 13 ((v1 * 12) + v2)))) (i := (.ireturn, 1, 0, [])) (len := 1) (by decide +kernel) rfl rfl rfl ⟨_, rfl, h⟩
    · replace h := h.2 c2
      refine vm_gp [(.iconst (-1), 0, 0, [])] (pc1 := 16) (ls1 := [some (vm_r 0), some (vm_i v1), some (vm_i v2)]) (st1 := [vm_i (-1)]) (m1 := m1) (ob := true) (by decide +kernel) rfl rfl ?_
      exact vm_gr (r := some (vm_i (-1))) (i := (.ireturn, 1, 0, [])) (len := 1) (by decide +kernel) rfl rfl rfl ⟨_, rfl, h⟩
abbrev ku10_row_0 (v1 : Int) (v2 : Int) (m : vm_M) (Q : Int → vm_M → Prop) : Prop := vm_G 128 0 [some (vm_r 0), some (vm_i v1), some (vm_i v2), none] [] m (vm_qi Q)
set_option maxRecDepth 20000 in
theorem ru10_row_0 {v1 : Int} {v2 : Int} {m : vm_M} {Q : Int → vm_M → Prop}  (h :
    (vm_C 137 [vm_r 0] m (vm_qv (fun m1 =>
      (vm_C 15 [vm_r 67, vm_i v1] m1 (vm_qi (fun z2 m2 =>
        ((¬ z2 = 0 →
          (vm_C 16 [vm_r 67, vm_i v1] m2 (vm_qi (fun z3 m3 =>
            ((z3 ≤ 1 →
              ((v2 = 0 →
                ((0 ≤ v1 ∧ v1 < 13)) ∧
                Q (m3 70 v1) m3) ∧ (¬ v2 = 0 →
                ((v2 = 1 →
                  (vm_C 16 [vm_r 67, vm_i v1] m3 (vm_qi (fun z4 m4 =>
                    Q z4 m4)))) ∧ (¬ v2 = 1 →
                  ((v2 = 2 →
                    (vm_C 41 [vm_r 77, vm_i v1] m3 (vm_qi (fun z5 m5 =>
                      Q z5 m5)))) ∧ (¬ v2 = 2 →
                    ((v2 = 3 →
                      ((0 ≤ v1 ∧ v1 < 12)) ∧
                      Q (m3 78 v1) m3) ∧ (¬ v2 = 3 →
                      ((v2 = 4 →
                        ((0 ≤ v1 ∧ v1 < 12)) ∧
                        Q (m3 79 v1) m3) ∧ (¬ v2 = 4 →
                        ((v2 = 5 →
                          ((0 ≤ v1 ∧ v1 < 12)) ∧
                          Q (m3 80 v1) m3) ∧ (¬ v2 = 5 →
                          ((v2 = 6 →
                            ((0 ≤ v1 ∧ v1 < 12) ∧ (vm_32 ((m3 10 0) - (m3 79 v1)))) ∧
                            Q (if 0 < ((m3 10 0) - (m3 79 v1)) then ((m3 10 0) - (m3 79 v1)) else 0) m3) ∧ (¬ v2 = 6 →
                            ((v2 = 7 →
                              ((0 = 0 →
                                Q (-2) m3) ∧ (¬ 0 = 0 →
                                (vm_C 16 [vm_r 67, vm_i v1] m3 (vm_qi (fun z6 m6 =>
                                  ((vm_32 (z6 - 2))) ∧
                                  (vm_C 42 [vm_r 77, vm_i v1, vm_i (z6 - 2)] m6 (vm_qi (fun z7 m7 =>
                                    Q z7 m7))))))))) ∧ (¬ v2 = 7 →
                              ((v2 = 8 →
                                ((0 = 0 →
                                  Q (-2) m3) ∧ (¬ 0 = 0 →
                                  (vm_C 42 [vm_r 77, vm_i v1, vm_i 0] m3 (vm_qi (fun z8 m8 =>
                                    Q z8 m8)))))) ∧ (¬ v2 = 8 →
                                Q (-1) m3))))))))))))))))))) ∧ (¬ z3 ≤ 1 →
              ((v2 = 0 →
                ((0 ≤ v1 ∧ v1 < 13)) ∧
                Q (m3 70 v1) m3) ∧ (¬ v2 = 0 →
                ((v2 = 1 →
                  (vm_C 16 [vm_r 67, vm_i v1] m3 (vm_qi (fun z9 m9 =>
                    Q z9 m9)))) ∧ (¬ v2 = 1 →
                  ((v2 = 2 →
                    (vm_C 41 [vm_r 77, vm_i v1] m3 (vm_qi (fun z10 m10 =>
                      Q z10 m10)))) ∧ (¬ v2 = 2 →
                    ((v2 = 3 →
                      ((0 ≤ v1 ∧ v1 < 12)) ∧
                      Q (m3 78 v1) m3) ∧ (¬ v2 = 3 →
                      ((v2 = 4 →
                        ((0 ≤ v1 ∧ v1 < 12)) ∧
                        Q (m3 79 v1) m3) ∧ (¬ v2 = 4 →
                        ((v2 = 5 →
                          ((0 ≤ v1 ∧ v1 < 12)) ∧
                          Q (m3 80 v1) m3) ∧ (¬ v2 = 5 →
                          ((v2 = 6 →
                            ((0 ≤ v1 ∧ v1 < 12) ∧ (vm_32 ((m3 10 0) - (m3 79 v1)))) ∧
                            Q (if 0 < ((m3 10 0) - (m3 79 v1)) then ((m3 10 0) - (m3 79 v1)) else 0) m3) ∧ (¬ v2 = 6 →
                            ((v2 = 7 →
                              ((1 = 0 →
                                Q (-2) m3) ∧ (¬ 1 = 0 →
                                (vm_C 16 [vm_r 67, vm_i v1] m3 (vm_qi (fun z11 m11 =>
                                  ((vm_32 (z11 - 2))) ∧
                                  (vm_C 42 [vm_r 77, vm_i v1, vm_i (z11 - 2)] m11 (vm_qi (fun z12 m12 =>
                                    Q z12 m12))))))))) ∧ (¬ v2 = 7 →
                              ((v2 = 8 →
                                ((1 = 0 →
                                  Q (-2) m3) ∧ (¬ 1 = 0 →
                                  (vm_C 42 [vm_r 77, vm_i v1, vm_i 0] m3 (vm_qi (fun z13 m13 =>
                                    Q z13 m13)))))) ∧ (¬ v2 = 8 →
                                Q (-1) m3)))))))))))))))))))))))) ∧ (¬ ¬ z2 = 0 →
          Q (-1) m2))))))))) : vm_C 128 [vm_r 0, vm_i v1, vm_i v2] m (vm_qi Q) := by
  show vm_G 128 0 [some (vm_r 0), some (vm_i v1), some (vm_i v2), none] [] m (vm_qi Q)
  refine vm_gp [(.aload 0, 0, 0, [])] (pc1 := 1) (ls1 := [some (vm_r 0), some (vm_i v1), some (vm_i v2), none]) (st1 := [vm_r 0]) (m1 := m) (ob := true) (by decide +kernel) rfl rfl ?_
  refine vm_gc (g := 137) (na := 1) (av := [vm_r 0]) (rest := []) (i := (.invokevirtual 0, 137, 1, [])) (len := 3) (by decide +kernel) rfl rfl rfl (by decide +kernel) (by decide +kernel) rfl rfl (vm_u (vm_okh_v (c := 10) (by decide +kernel) (by decide +kernel)) (show vm_okn 137 1 0 0 0 1 = true by decide +kernel)) ?_
  refine vm_G.mono h ?_
  rintro _ m1 ⟨rfl, h⟩
  show vm_G 128 4 [some (vm_r 0), some (vm_i v1), some (vm_i v2), none] [] m1 _
  refine vm_gp [(.aload 0, 0, 0, []), (.getfield 2, 10, 10, [(67, 0)]), (.iload 1, 0, 0, [])] (pc1 := 9) (ls1 := [some (vm_r 0), some (vm_i v1), some (vm_i v2), none]) (st1 := [vm_i v1, vm_r 67]) (m1 := m1) (ob := ((true && vm_is 0 10) && true)) (by decide +kernel) rfl (vm_u (vm_u rfl (by decide +kernel)) rfl) ?_
  refine vm_gc (g := 15) (na := 2) (av := [vm_r 67, vm_i v1]) (rest := []) (i := (.invokevirtual 0, 15, 2, [])) (len := 3) (by decide +kernel) rfl rfl rfl (by decide +kernel) (by decide +kernel) rfl rfl (vm_u (vm_okh_v (c := 1) (by decide +kernel) (by decide +kernel)) (show vm_okn 15 2 0 0 0 2 = true by decide +kernel)) ?_
  refine vm_G.mono h ?_
  rintro _ m2 ⟨z2, rfl, h⟩
  show vm_G 128 12 [some (vm_r 0), some (vm_i v1), some (vm_i v2), none] [vm_i z2] m2 _
  refine vm_gj (c := ¬ z2 = 0) (t := 17) (e := 15) (i := (.ifCond .ne 0, 17, 0, [])) (len := 3) (st1 := []) (by decide +kernel) rfl rfl (fun c1 => ?_) (fun c1 => ?_)
  · replace h := h.1 c1
    refine vm_gp [(.aload 0, 0, 0, []), (.getfield 2, 10, 10, [(67, 0)]), (.iload 1, 0, 0, [])] (pc1 := 22) (ls1 := [some (vm_r 0), some (vm_i v1), some (vm_i v2), none]) (st1 := [vm_i v1, vm_r 67]) (m1 := m2) (ob := ((true && vm_is 0 10) && true)) (by decide +kernel) rfl (vm_u (vm_u rfl (by decide +kernel)) rfl) ?_
    refine vm_gc (g := 16) (na := 2) (av := [vm_r 67, vm_i v1]) (rest := []) (i := (.invokevirtual 0, 16, 2, [])) (len := 3) (by decide +kernel) rfl rfl rfl (by decide +kernel) (by decide +kernel) rfl rfl (vm_u (vm_okh_v (c := 1) (by decide +kernel) (by decide +kernel)) (show vm_okn 16 2 0 0 0 2 = true by decide +kernel)) ?_
    refine vm_G.mono h ?_
    rintro _ m3 ⟨z3, rfl, h⟩
    show vm_G 128 25 [some (vm_r 0), some (vm_i v1), some (vm_i v2), none] [vm_i z3] m3 _
    refine vm_gp [(.iconst 1, 0, 0, [])] (pc1 := 26) (ls1 := [some (vm_r 0), some (vm_i v1), some (vm_i v2), none]) (st1 := [vm_i 1, vm_i z3]) (m1 := m3) (ob := true) (by decide +kernel) rfl rfl ?_
    refine vm_gj (c := z3 ≤ 1) (t := 33) (e := 29) (i := (.if_icmp .le 0, 33, 0, [])) (len := 3) (st1 := []) (by decide +kernel) rfl rfl (fun c2 => ?_) (fun c2 => ?_)
    · replace h := h.1 c2
      refine vm_gp [(.iconst 0, 0, 0, []), (.istore 3, 0, 0, []), (.iload 2, 0, 0, [])] (pc1 := 36) (ls1 := [some (vm_r 0), some (vm_i v1), some (vm_i v2), some (vm_i 0)]) (st1 := [vm_i v2]) (m1 := m3) (ob := true) (by decide +kernel) rfl rfl ?_
      by_cases c3 : v2 = 0
      · replace h := h.1 c3
        refine vm_gj1 (i := (.tableswitch 0 0 0 #[], 217, 0, [(0, 88), (1, 98), (2, 107), (3, 116), (4, 126), (5, 136), (6, 146), (7, 170), (8, 198)])) (len := 52) (t := 88) (st1 := []) (by decide +kernel) rfl (by rw [c3]; rfl) ?_
        obtain ⟨o7_0, h⟩ := h
        refine vm_gp [(.aload 0, 0, 0, []), (.getfield 2, 10, 10, [(67, 0)]), (.getfield 2, 1, 2, [(3, 1)]), (.iload 1, 0, 0, []), (.iaload, 13, 0, [])] (pc1 := 97) (ls1 := [some (vm_r 0), some (vm_i v1), some (vm_i v2), some (vm_i 0)]) (st1 := [vm_i (m3 70 v1)]) (m1 := m3) (ob := ((((((true && vm_is 0 10) && true) && vm_is 67 1) && true) && vm_ar 70 100 13) && decide (0 ≤ v1 ∧ v1 < 13))) (by decide +kernel) rfl (vm_t (vm_u (vm_u (vm_u (vm_u (vm_u rfl (by decide +kernel)) rfl) (by decide +kernel)) rfl) (by decide +kernel)) o7_0) ?_
        exact vm_gr (r := some (vm_i (m3 70 v1))) (i := (.ireturn, 1, 0, [])) (len := 1) (by decide +kernel) rfl rfl rfl ⟨_, rfl, h⟩
      · replace h := h.2 c3
        by_cases c4 : v2 = 1
        · replace h := h.1 c4
          refine vm_gj1 (i := (.tableswitch 0 0 0 #[], 217, 0, [(0, 88), (1, 98), (2, 107), (3, 116), (4, 126), (5, 136), (6, 146), (7, 170), (8, 198)])) (len := 52) (t := 98) (st1 := []) (by decide +kernel) rfl (by rw [c4]; rfl) ?_
          refine vm_gp [(.aload 0, 0, 0, []), (.getfield 2, 10, 10, [(67, 0)]), (.iload 1, 0, 0, [])] (pc1 := 103) (ls1 := [some (vm_r 0), some (vm_i v1), some (vm_i v2), some (vm_i 0)]) (st1 := [vm_i v1, vm_r 67]) (m1 := m3) (ob := ((true && vm_is 0 10) && true)) (by decide +kernel) rfl (vm_u (vm_u rfl (by decide +kernel)) rfl) ?_
          refine vm_gc (g := 16) (na := 2) (av := [vm_r 67, vm_i v1]) (rest := []) (i := (.invokevirtual 0, 16, 2, [])) (len := 3) (by decide +kernel) rfl rfl rfl (by decide +kernel) (by decide +kernel) rfl rfl (vm_u (vm_okh_v (c := 1) (by decide +kernel) (by decide +kernel)) (show vm_okn 16 2 0 0 0 2 = true by decide +kernel)) ?_
          refine vm_G.mono h ?_
          rintro _ m4 ⟨z4, rfl, h⟩
          show vm_G 128 106 [some (vm_r 0), some (vm_i v1), some (vm_i v2), some (vm_i 0)] [vm_i z4] m4 _
          exact vm_gr (r := some (vm_i z4)) (i := (.ireturn, 1, 0, [])) (len := 1) (by decide +kernel) rfl rfl rfl ⟨_, rfl, h⟩
        · replace h := h.2 c4
          by_cases c5 : v2 = 2
          · replace h := h.1 c5
            refine vm_gj1 (i := (.tableswitch 0 0 0 #[], 217, 0, [(0, 88), (1, 98), (2, 107), (3, 116), (4, 126), (5, 136), (6, 146), (7, 170), (8, 198)])) (len := 52) (t := 107) (st1 := []) (by decide +kernel) rfl (by rw [c5]; rfl) ?_
            refine vm_gp [(.aload 0, 0, 0, []), (.getfield 2, 10, 12, [(77, 0)]), (.iload 1, 0, 0, [])] (pc1 := 112) (ls1 := [some (vm_r 0), some (vm_i v1), some (vm_i v2), some (vm_i 0)]) (st1 := [vm_i v1, vm_r 77]) (m1 := m3) (ob := ((true && vm_is 0 10) && true)) (by decide +kernel) rfl (vm_u (vm_u rfl (by decide +kernel)) rfl) ?_
            refine vm_gc (g := 41) (na := 2) (av := [vm_r 77, vm_i v1]) (rest := []) (i := (.invokevirtual 0, 41, 2, [])) (len := 3) (by decide +kernel) rfl rfl rfl (by decide +kernel) (by decide +kernel) rfl rfl (vm_u (vm_okh_v (c := 3) (by decide +kernel) (by decide +kernel)) (show vm_okn 41 2 0 0 0 2 = true by decide +kernel)) ?_
            refine vm_G.mono h ?_
            rintro _ m5 ⟨z5, rfl, h⟩
            show vm_G 128 115 [some (vm_r 0), some (vm_i v1), some (vm_i v2), some (vm_i 0)] [vm_i z5] m5 _
            exact vm_gr (r := some (vm_i z5)) (i := (.ireturn, 1, 0, [])) (len := 1) (by decide +kernel) rfl rfl rfl ⟨_, rfl, h⟩
          · replace h := h.2 c5
            by_cases c6 : v2 = 3
            · replace h := h.1 c6
              refine vm_gj1 (i := (.tableswitch 0 0 0 #[], 217, 0, [(0, 88), (1, 98), (2, 107), (3, 116), (4, 126), (5, 136), (6, 146), (7, 170), (8, 198)])) (len := 52) (t := 116) (st1 := []) (by decide +kernel) rfl (by rw [c6]; rfl) ?_
              obtain ⟨o12_0, h⟩ := h
              refine vm_gp [(.aload 0, 0, 0, []), (.getfield 2, 10, 12, [(77, 0)]), (.getfield 2, 3, 4, [(78, 0)]), (.iload 1, 0, 0, []), (.iaload, 12, 0, [])] (pc1 := 125) (ls1 := [some (vm_r 0), some (vm_i v1), some (vm_i v2), some (vm_i 0)]) (st1 := [vm_i (m3 78 v1)]) (m1 := m3) (ob := ((((((true && vm_is 0 10) && true) && vm_is 77 3) && true) && vm_ar 78 100 12) && decide (0 ≤ v1 ∧ v1 < 12))) (by decide +kernel) rfl (vm_t (vm_u (vm_u (vm_u (vm_u (vm_u rfl (by decide +kernel)) rfl) (by decide +kernel)) rfl) (by decide +kernel)) o12_0) ?_
              exact vm_gr (r := some (vm_i (m3 78 v1))) (i := (.ireturn, 1, 0, [])) (len := 1) (by decide +kernel) rfl rfl rfl ⟨_, rfl, h⟩
            · replace h := h.2 c6
              by_cases c7 : v2 = 4
              · replace h := h.1 c7
                refine vm_gj1 (i := (.tableswitch 0 0 0 #[], 217, 0, [(0, 88), (1, 98), (2, 107), (3, 116), (4, 126), (5, 136), (6, 146), (7, 170), (8, 198)])) (len := 52) (t := 126) (st1 := []) (by decide +kernel) rfl (by rw [c7]; rfl) ?_
                obtain ⟨o13_0, h⟩ := h
                refine vm_gp [(.aload 0, 0, 0, []), (.getfield 2, 10, 12, [(77, 0)]), (.getfield 2, 3, 5, [(79, 0)]), (.iload 1, 0, 0, []), (.iaload, 12, 0, [])] (pc1 := 135) (ls1 := [some (vm_r 0), some (vm_i v1), some (vm_i v2), some (vm_i 0)]) (st1 := [vm_i (m3 79 v1)]) (m1 := m3) (ob := ((((((true && vm_is 0 10) && true) && vm_is 77 3) && true) && vm_ar 79 100 12) && decide (0 ≤ v1 ∧ v1 < 12))) (by decide +kernel) rfl (vm_t (vm_u (vm_u (vm_u (vm_u (vm_u rfl (by decide +kernel)) rfl) (by decide +kernel)) rfl) (by decide +kernel)) o13_0) ?_
                exact vm_gr (r := some (vm_i (m3 79 v1))) (i := (.ireturn, 1, 0, [])) (len := 1) (by decide +kernel) rfl rfl rfl ⟨_, rfl, h⟩
              · replace h := h.2 c7
                by_cases c8 : v2 = 5
                · replace h := h.1 c8
                  refine vm_gj1 (i := (.tableswitch 0 0 0 #[], 217, 0, [(0, 88), (1, 98), (2, 107), (3, 116), (4, 126), (5, 136), (6, 146), (7, 170), (8, 198)])) (len := 52) (t := 136) (st1 := []) (by decide +kernel) rfl (by rw [c8]; rfl) ?_
                  obtain ⟨o14_0, h⟩ := h
                  refine vm_gp [(.aload 0, 0, 0, []), (.getfield 2, 10, 12, [(77, 0)]), (.getfield 2, 3, 6, [(80, 0)]), (.iload 1, 0, 0, []), (.iaload, 12, 0, [])] (pc1 := 145) (ls1 := [some (vm_r 0), some (vm_i v1), some (vm_i v2), some (vm_i 0)]) (st1 := [vm_i (m3 80 v1)]) (m1 := m3) (ob := ((((((true && vm_is 0 10) && true) && vm_is 77 3) && true) && vm_ar 80 100 12) && decide (0 ≤ v1 ∧ v1 < 12))) (by decide +kernel) rfl (vm_t (vm_u (vm_u (vm_u (vm_u (vm_u rfl (by decide +kernel)) rfl) (by decide +kernel)) rfl) (by decide +kernel)) o14_0) ?_
                  exact vm_gr (r := some (vm_i (m3 80 v1))) (i := (.ireturn, 1, 0, [])) (len := 1) (by decide +kernel) rfl rfl rfl ⟨_, rfl, h⟩
                · replace h := h.2 c8
                  by_cases c9 : v2 = 6
                  · replace h := h.1 c9
                    refine vm_gj1 (i := (.tableswitch 0 0 0 #[], 217, 0, [(0, 88), (1, 98), (2, 107), (3, 116), (4, 126), (5, 136), (6, 146), (7, 170), (8, 198)])) (len := 52) (t := 146) (st1 := []) (by decide +kernel) rfl (by rw [c9]; rfl) ?_
                    obtain ⟨⟨o15_0, o15_1⟩, h⟩ := h
                    refine vm_gp [(.iconst 0, 0, 0, []), (.aload 0, 0, 0, []), (.getfield 2, 10, 3, [(9, 0)]), (.getfield 2, 4, 0, [(1, 1)]), (.iconst 0, 0, 0, []), (.iaload, 6, 0, []), (.aload 0, 0, 0, []), (.getfield 2, 10, 12, [(77, 0)]), (.getfield 2, 3, 5, [(79, 0)]), (.iload 1, 0, 0, []), (.iaload, 12, 0, []), (.isub, 0, 0, []), (.invokestatic 0, 1000, 0, [])] (pc1 := 169) (ls1 := [some (vm_r 0), some (vm_i v1), some (vm_i v2), some (vm_i 0)]) (st1 := [vm_i (if 0 < ((m3 10 0) - (m3 79 v1)) then ((m3 10 0) - (m3 79 v1)) else 0)]) (m1 := m3) (ob := ((((((((((((((true && vm_is 0 10) && true) && vm_is 9 4) && true) && vm_ar 10 100 6) && decide ((0 : Int) ≤ 0 ∧ (0 : Int) < 6)) && vm_is 0 10) && true) && vm_is 77 3) && true) && vm_ar 79 100 12) && decide (0 ≤ v1 ∧ v1 < 12)) && decide (vm_32 ((m3 10 0) - (m3 79 v1)))) && decide (vm_cats [] ≤ 8))) (by decide +kernel) rfl (vm_t (vm_t (vm_t (vm_u (vm_u (vm_u (vm_u (vm_u (vm_t (vm_u (vm_u (vm_u (vm_u (vm_u rfl (by decide +kernel)) rfl) (by decide +kernel)) rfl) (by decide +kernel)) (by decide)) (by decide +kernel)) rfl) (by decide +kernel)) rfl) (by decide +kernel)) o15_0) o15_1) (by decide : (0 : Nat) ≤ 8)) ?_
                    exact vm_gr (r := some (vm_i (if 0 < ((m3 10 0) - (m3 79 v1)) then ((m3 10 0) - (m3 79 v1)) else 0))) (i := (.ireturn, 1, 0, [])) (len := 1) (by decide +kernel) rfl rfl rfl ⟨_, rfl, h⟩
                  · replace h := h.2 c9
                    by_cases c10 : v2 = 7
                    · replace h := h.1 c10
                      refine vm_gj1 (i := (.tableswitch 0 0 0 #[], 217, 0, [(0, 88), (1, 98), (2, 107), (3, 116), (4, 126), (5, 136), (6, 146), (7, 170), (8, 198)])) (len := 52) (t := 170) (st1 := []) (by decide +kernel) rfl (by rw [c10]; rfl) ?_
                      refine vm_gp [(.iload 3, 0, 0, [])] (pc1 := 171) (ls1 := [some (vm_r 0), some (vm_i v1), some (vm_i v2), some (vm_i 0)]) (st1 := [vm_i 0]) (m1 := m3) (ob := true) (by decide +kernel) rfl rfl ?_
                      refine vm_gj (c := 0 = 0) (t := 195) (e := 174) (i := (.ifCond .eq 0, 195, 0, [])) (len := 3) (st1 := []) (by decide +kernel) rfl rfl (fun c11 => ?_) (fun c11 => ?_)
                      · replace h := h.1 c11
                        refine vm_gp [(.iconst (-2), 0, 0, [])] (pc1 := 197) (ls1 := [some (vm_r 0), some (vm_i v1), some (vm_i v2), some (vm_i 0)]) (st1 := [vm_i (-2)]) (m1 := m3) (ob := true) (by decide +kernel) rfl rfl ?_
                        exact vm_gr (r := some (vm_i (-2))) (i := (.ireturn, 1, 0, [])) (len := 1) (by decide +kernel) rfl rfl rfl ⟨_, rfl, h⟩
                      · replace h := h.2 c11
                        refine vm_gp [(.aload 0, 0, 0, []), (.getfield 2, 10, 12, [(77, 0)]), (.iload 1, 0, 0, []), (.aload 0, 0, 0, []), (.getfield 2, 10, 10, [(67, 0)]), (.iload 1, 0, 0, [])] (pc1 := 184) (ls1 := [some (vm_r 0), some (vm_i v1), some (vm_i v2), some (vm_i 0)]) (st1 := [vm_i v1, vm_r 67, vm_i v1, vm_r 77]) (m1 := m3) (ob := ((((true && vm_is 0 10) && true) && vm_is 0 10) && true)) (by decide +kernel) rfl (vm_u (vm_u (vm_u (vm_u rfl (by decide +kernel)) rfl) (by decide +kernel)) rfl) ?_
                        refine vm_gc (g := 16) (na := 2) (av := [vm_r 67, vm_i v1]) (rest := [vm_i v1, vm_r 77]) (i := (.invokevirtual 0, 16, 2, [])) (len := 3) (by decide +kernel) rfl rfl rfl (by decide +kernel) (by decide +kernel) rfl rfl (vm_u (vm_okh_v (c := 1) (by decide +kernel) (by decide +kernel)) (show vm_okn 16 2 2 0 0 2 = true by decide +kernel)) ?_
                        refine vm_G.mono h ?_
                        rintro _ m6 ⟨z6, rfl, h⟩
                        show vm_G 128 187 [some (vm_r 0), some (vm_i v1), some (vm_i v2), some (vm_i 0)] [vm_i z6, vm_i v1, vm_r 77] m6 _
                        obtain ⟨o19_0, h⟩ := h
                        refine vm_gp [(.iconst 2, 0, 0, []), (.isub, 0, 0, [])] (pc1 := 189) (ls1 := [some (vm_r 0), some (vm_i v1), some (vm_i v2), some (vm_i 0)]) (st1 := [vm_i (z6 - 2), vm_i v1, vm_r 77]) (m1 := m6) (ob := (true && decide (vm_32 (z6 - 2)))) (by decide +kernel) rfl (vm_t rfl o19_0) ?_
                        refine vm_gc (g := 42) (na := 3) (av := [vm_r 77, vm_i v1, vm_i (z6 - 2)]) (rest := []) (i := (.invokevirtual 0, 42, 3, [])) (len := 3) (by decide +kernel) rfl rfl rfl (by decide +kernel) (by decide +kernel) rfl rfl (vm_u (vm_okh_v (c := 3) (by decide +kernel) (by decide +kernel)) (show vm_okn 42 3 0 0 0 3 = true by decide +kernel)) ?_
                        refine vm_G.mono h ?_
                        rintro _ m7 ⟨z7, rfl, h⟩
                        show vm_G 128 192 [some (vm_r 0), some (vm_i v1), some (vm_i v2), some (vm_i 0)] [vm_i z7] m7 _
                        refine vm_gp [(.goto 0, 197, 0, [])] (pc1 := 197) (ls1 := [some (vm_r 0), some (vm_i v1), some (vm_i v2), some (vm_i 0)]) (st1 := [vm_i z7]) (m1 := m7) (ob := true) (by decide +kernel) rfl rfl ?_
                        exact vm_gr (r := some (vm_i z7)) (i := (.ireturn, 1, 0, [])) (len := 1) (by decide +kernel) rfl rfl rfl ⟨_, rfl, h⟩
                    · replace h := h.2 c10
                      by_cases c12 : v2 = 8
                      · replace h := h.1 c12
                        refine vm_gj1 (i := (.tableswitch 0 0 0 #[], 217, 0, [(0, 88), (1, 98), (2, 107), (3, 116), (4, 126), (5, 136), (6, 146), (7, 170), (8, 198)])) (len := 52) (t := 198) (st1 := []) (by decide +kernel) rfl (by rw [c12]; rfl) ?_
                        refine vm_gp [(.iload 3, 0, 0, [])] (pc1 := 199) (ls1 := [some (vm_r 0), some (vm_i v1), some (vm_i v2), some (vm_i 0)]) (st1 := [vm_i 0]) (m1 := m3) (ob := true) (by decide +kernel) rfl rfl ?_
                        refine vm_gj (c := 0 = 0) (t := 214) (e := 202) (i := (.ifCond .eq 0, 214, 0, [])) (len := 3) (st1 := []) (by decide +kernel) rfl rfl (fun c13 => ?_) (fun c13 => ?_)
                        · replace h := h.1 c13
                          refine vm_gp [(.iconst (-2), 0, 0, [])] (pc1 := 216) (ls1 := [some (vm_r 0), some (vm_i v1), some (vm_i v2), some (vm_i 0)]) (st1 := [vm_i (-2)]) (m1 := m3) (ob := true) (by decide +kernel) rfl rfl ?_
                          exact vm_gr (r := some (vm_i (-2))) (i := (.ireturn, 1, 0, [])) (len := 1) (by decide +kernel) rfl rfl rfl ⟨_, rfl, h⟩
                        · replace h := h.2 c13
                          refine vm_gp [(.aload 0, 0, 0, []), (.getfield 2, 10, 12, [(77, 0)]), (.iload 1, 0, 0, []), (.iconst 0, 0, 0, [])] (pc1 := 208) (ls1 := [some (vm_r 0), some (vm_i v1), some (vm_i v2), some (vm_i 0)]) (st1 := [vm_i 0, vm_i v1, vm_r 77]) (m1 := m3) (ob := ((true && vm_is 0 10) && true)) (by decide +kernel) rfl (vm_u (vm_u rfl (by decide +kernel)) rfl) ?_
                          refine vm_gc (g := 42) (na := 3) (av := [vm_r 77, vm_i v1, vm_i 0]) (rest := []) (i := (.invokevirtual 0, 42, 3, [])) (len := 3) (by decide +kernel) rfl rfl rfl (by decide +kernel) (by decide +kernel) rfl rfl (vm_u (vm_okh_v (c := 3) (by decide +kernel) (by decide +kernel)) (show vm_okn 42 3 0 0 0 3 = true by decide +kernel)) ?_
                          refine vm_G.mono h ?_
                          rintro _ m8 ⟨z8, rfl, h⟩
                          show vm_G 128 211 [some (vm_r 0), some (vm_i v1), some (vm_i v2), some (vm_i 0)] [vm_i z8] m8 _
                          refine vm_gp [(.goto 0, 216, 0, [])] (pc1 := 216) (ls1 := [some (vm_r 0), some (vm_i v1), some (vm_i v2), some (vm_i 0)]) (st1 := [vm_i z8]) (m1 := m8) (ob := true) (by decide +kernel) rfl rfl ?_
                          exact vm_gr (r := some (vm_i z8)) (i := (.ireturn, 1, 0, [])) (len := 1) (by decide +kernel) rfl rfl rfl ⟨_, rfl, h⟩
                      · replace h := h.2 c12
                        refine vm_gj1 (i := (.tableswitch 0 0 0 #[], 217, 0, [(0, 88), (1, 98), (2, 107), (3, 116), (4, 126), (5, 136), (6, 146), (7, 170), (8, 198)])) (len := 52) (t := 217) (st1 := []) (by decide +kernel) rfl (by simp only [vm_jmp, vm_sw, cond, decide_eq_false c3, decide_eq_false c4, decide_eq_false c5, decide_eq_false c6, decide_eq_false c7, decide_eq_false c8, decide_eq_false c9, decide_eq_false c10, decide_eq_false c12]) ?_
                        refine vm_gp [(.iconst (-1), 0, 0, [])] (pc1 := 218) (ls1 := [some (vm_r 0), some (vm_i v1), some (vm_i v2), some (vm_i 0)]) (st1 := [vm_i (-1)]) (m1 := m3) (ob := true) (by decide +kernel) rfl rfl ?_
                        exact vm_gr (r := some (vm_i (-1))) (i := (.ireturn, 1, 0, [])) (len := 1) (by decide +kernel) rfl rfl rfl ⟨_, rfl, h⟩
    · replace h := h.2 c2
      refine vm_gp [(.iconst 1, 0, 0, []), (.goto 0, 34, 0, []), (.istore 3, 0, 0, []), (.iload 2, 0, 0, [])] (pc1 := 36) (ls1 := [some (vm_r 0), some (vm_i v1), some (vm_i v2), some (vm_i 1)]) (st1 := [vm_i v2]) (m1 := m3) (ob := true) (by decide +kernel) rfl rfl ?_
      by_cases c14 : v2 = 0
      · replace h := h.1 c14
        refine vm_gj1 (i := (.tableswitch 0 0 0 #[], 217, 0, [(0, 88), (1, 98), (2, 107), (3, 116), (4, 126), (5, 136), (6, 146), (7, 170), (8, 198)])) (len := 52) (t := 88) (st1 := []) (by decide +kernel) rfl (by rw [c14]; rfl) ?_
        obtain ⟨o27_0, h⟩ := h
        refine vm_gp [(.aload 0, 0, 0, []), (.getfield 2, 10, 10, [(67, 0)]), (.getfield 2, 1, 2, [(3, 1)]), (.iload 1, 0, 0, []), (.iaload, 13, 0, [])] (pc1 := 97) (ls1 := [some (vm_r 0), some (vm_i v1), some (vm_i v2), some (vm_i 1)]) (st1 := [vm_i (m3 70 v1)]) (m1 := m3) (ob := ((((((true && vm_is 0 10) && true) && vm_is 67 1) && true) && vm_ar 70 100 13) && decide (0 ≤ v1 ∧ v1 < 13))) (by decide +kernel) rfl (vm_t (vm_u (vm_u (vm_u (vm_u (vm_u rfl (by decide +kernel)) rfl) (by decide +kernel)) rfl) (by decide +kernel)) o27_0) ?_
        exact vm_gr (r := some (vm_i (m3 70 v1))) (i := (.ireturn, 1, 0, [])) (len := 1) (by decide +kernel) rfl rfl rfl ⟨_, rfl, h⟩
      · replace h := h.2 c14
        by_cases c15 : v2 = 1
        · replace h := h.1 c15
          refine vm_gj1 (i := (.tableswitch 0 0 0 #[], 217, 0, [(0, 88), (1, 98), (2, 107), (3, 116), (4, 126), (5, 136), (6, 146), (7, 170), (8, 198)])) (len := 52) (t := 98) (st1 := []) (by decide +kernel) rfl (by rw [c15]; rfl) ?_
          refine vm_gp [(.aload 0, 0, 0, []), (.getfield 2, 10, 10, [(67, 0)]), (.iload 1, 0, 0, [])] (pc1 := 103) (ls1 := [some (vm_r 0), some (vm_i v1), some (vm_i v2), some (vm_i 1)]) (st1 := [vm_i v1, vm_r 67]) (m1 := m3) (ob := ((true && vm_is 0 10) && true)) (by decide +kernel) rfl (vm_u (vm_u rfl (by decide +kernel)) rfl) ?_
          refine vm_gc (g := 16) (na := 2) (av := [vm_r 67, vm_i v1]) (rest := []) (i := (.invokevirtual 0, 16, 2, [])) (len := 3) (by decide +kernel) rfl rfl rfl (by decide +kernel) (by decide +kernel) rfl rfl (vm_u (vm_okh_v (c := 1) (by decide +kernel) (by decide +kernel)) (show vm_okn 16 2 0 0 0 2 = true by decide +kernel)) ?_
          refine vm_G.mono h ?_
          rintro _ m9 ⟨z9, rfl, h⟩
          show vm_G 128 106 [some (vm_r 0), some (vm_i v1), some (vm_i v2), some (vm_i 1)] [vm_i z9] m9 _
          exact vm_gr (r := some (vm_i z9)) (i := (.ireturn, 1, 0, [])) (len := 1) (by decide +kernel) rfl rfl rfl ⟨_, rfl, h⟩
        · replace h := h.2 c15
          by_cases c16 : v2 = 2
          · replace h := h.1 c16
            refine vm_gj1 (i := (.tableswitch 0 0 0 #[], 217, 0, [(0, 88), (1, 98), (2, 107), (3, 116), (4, 126), (5, 136), (6, 146), (7, 170), (8, 198)])) (len := 52) (t := 107) (st1 := []) (by decide +kernel) rfl (by rw [c16]; rfl) ?_
            refine vm_gp [(.aload 0, 0, 0, []), (.getfield 2, 10, 12, [(77, 0)]), (.iload 1, 0, 0, [])] (pc1 := 112) (ls1 := [some (vm_r 0), some (vm_i v1), some (vm_i v2), some (vm_i 1)]) (st1 := [vm_i v1, vm_r 77]) (m1 := m3) (ob := ((true && vm_is 0 10) && true)) (by decide +kernel) rfl (vm_u (vm_u rfl (by decide +kernel)) rfl) ?_
            refine vm_gc (g := 41) (na := 2) (av := [vm_r 77, vm_i v1]) (rest := []) (i := (.invokevirtual 0, 41, 2, [])) (len := 3) (by decide +kernel) rfl rfl rfl (by decide +kernel) (by decide +kernel) rfl rfl (vm_u (vm_okh_v (c := 3) (by decide +kernel) (by decide +kernel)) (show vm_okn 41 2 0 0 0 2 = true by decide +kernel)) ?_
            refine vm_G.mono h ?_
            rintro _ m10 ⟨z10, rfl, h⟩
            show vm_G 128 115 [some (vm_r 0), some (vm_i v1), some (vm_i v2), some (vm_i 1)] [vm_i z10] m10 _
            exact vm_gr (r := some (vm_i z10)) (i := (.ireturn, 1, 0, [])) (len := 1) (by decide +kernel) rfl rfl rfl ⟨_, rfl, h⟩
          · replace h := h.2 c16
            by_cases c17 : v2 = 3
            · replace h := h.1 c17
              refine vm_gj1 (i := (.tableswitch 0 0 0 #[], 217, 0, [(0, 88), (1, 98), (2, 107), (3, 116), (4, 126), (5, 136), (6, 146), (7, 170), (8, 198)])) (len := 52) (t := 116) (st1 := []) (by decide +kernel) rfl (by rw [c17]; rfl) ?_
              obtain ⟨o32_0, h⟩ := h
              refine vm_gp [(.aload 0, 0, 0, []), (.getfield 2, 10, 12, [(77, 0)]), (.getfield 2, 3, 4, [(78, 0)]), (.iload 1, 0, 0, []), (.iaload, 12, 0, [])] (pc1 := 125) (ls1 := [some (vm_r 0), some (vm_i v1), some (vm_i v2), some (vm_i 1)]) (st1 := [vm_i (m3 78 v1)]) (m1 := m3) (ob := ((((((true && vm_is 0 10) && true) && vm_is 77 3) && true) && vm_ar 78 100 12) && decide (0 ≤ v1 ∧ v1 < 12))) (by decide +kernel) rfl (vm_t (vm_u (vm_u (vm_u (vm_u (vm_u rfl (by decide +kernel)) rfl) (by decide +kernel)) rfl) (by decide +kernel)) o32_0) ?_
              exact vm_gr (r := some (vm_i (m3 78 v1))) (i := (.ireturn, 1, 0, [])) (len := 1) (by decide +kernel) rfl rfl rfl ⟨_, rfl, h⟩
            · replace h := h.2 c17
              by_cases c18 : v2 = 4
              · replace h := h.1 c18
                refine vm_gj1 (i := (.tableswitch 0 0 0 #[], 217, 0, [(0, 88), (1, 98), (2, 107), (3, 116), (4, 126), (5, 136), (6, 146), (7, 170), (8, 198)])) (len := 52) (t := 126) (st1 := []) (by decide +kernel) rfl (by rw [c18]; rfl) ?_
                obtain ⟨o33_0, h⟩ := h
                refine vm_gp [(.aload 0, 0, 0, []), (.getfield 2, 10, 12, [(77, 0)]), (.getfield 2, 3, 5, [(79, 0)]), (.iload 1, 0, 0, []), (.iaload, 12, 0, [])] (pc1 := 135) (ls1 := [some (vm_r 0), some (vm_i v1), some (vm_i v2), some (vm_i 1)]) (st1 := [vm_i (m3 79 v1)]) (m1 := m3) (ob := ((((((true && vm_is 0 10) && true) && vm_is 77 3) && true) && vm_ar 79 100 12) && decide (0 ≤ v1 ∧ v1 < 12))) (by decide +kernel) rfl (vm_t (vm_u (vm_u (vm_u (vm_u (vm_u rfl (by decide +kernel)) rfl) (by decide +kernel)) rfl) (by decide +kernel)) o33_0) ?_
                exact vm_gr (r := some (vm_i (m3 79 v1))) (i := (.ireturn, 1, 0, [])) (len := 1) (by decide +kernel) rfl rfl rfl ⟨_, rfl, h⟩
              · replace h := h.2 c18
                by_cases c19 : v2 = 5
                · replace h := h.1 c19
                  refine vm_gj1 (i := (.tableswitch 0 0 0 #[], 217, 0, [(0, 88), (1, 98), (2, 107), (3, 116), (4, 126), (5, 136), (6, 146), (7, 170), (8, 198)])) (len := 52) (t := 136) (st1 := []) (by decide +kernel) rfl (by rw [c19]; rfl) ?_
                  obtain ⟨o34_0, h⟩ := h
                  refine vm_gp [(.aload 0, 0, 0, []), (.getfield 2, 10, 12, [(77, 0)]), (.getfield 2, 3, 6, [(80, 0)]), (.iload 1, 0, 0, []), (.iaload, 12, 0, [])] (pc1 := 145) (ls1 := [some (vm_r 0), some (vm_i v1), some (vm_i v2), some (vm_i 1)]) (st1 := [vm_i (m3 80 v1)]) (m1 := m3) (ob := ((((((true && vm_is 0 10) && true) && vm_is 77 3) && true) && vm_ar 80 100 12) && decide (0 ≤ v1 ∧ v1 < 12))) (by decide +kernel) rfl (vm_t (vm_u (vm_u (vm_u (vm_u (vm_u rfl (by decide +kernel)) rfl) (by decide +kernel)) rfl) (by decide +kernel)) o34_0) ?_
                  exact vm_gr (r := some (vm_i (m3 80 v1))) (i := (.ireturn, 1, 0, [])) (len := 1) (by decide +kernel) rfl rfl rfl ⟨_, rfl, h⟩
                · replace h := h.2 c19
                  by_cases c20 : v2 = 6
                  · replace h := h.1 c20
                    refine vm_gj1 (i := (.tableswitch 0 0 0 #[], 217, 0, [(0, 88), (1, 98), (2, 107), (3, 116), (4, 126), (5, 136), (6, 146), (7, 170), (8, 198)])) (len := 52) (t := 146) (st1 := []) (by decide +kernel) rfl (by rw [c20]; rfl) ?_
                    obtain ⟨⟨o35_0, o35_1⟩, h⟩ := h
                    refine vm_gp [(.iconst 0, 0, 0, []), (.aload 0, 0, 0, []), (.getfield 2, 10, 3, [(9, 0)]), (.getfield 2, 4, 0, [(1, 1)]), (.iconst 0, 0, 0, []), (.iaload, 6, 0, []), (.aload 0, 0, 0, []), (.getfield 2, 10, 12, [(77, 0)]), (.getfield 2, 3, 5, [(79, 0)]), (.iload 1, 0, 0, []), (.iaload, 12, 0, []), (.isub, 0, 0, []), (.invokestatic 0, 1000, 0, [])] (pc1 := 169) (ls1 := [some (vm_r 0), some (vm_i v1), some (vm_i v2), some (vm_i 1)]) (st1 := [vm_i (if 0 < ((m3 10 0) - (m3 79 v1)) then ((m3 10 0) - (m3 79 v1)) else 0)]) (m1 := m3) (ob := ((((((((((((((true && vm_is 0 10) && true) && vm_is 9 4) && true) && vm_ar 10 100 6) && decide ((0 : Int) ≤ 0 ∧ (0 : Int) < 6)) && vm_is 0 10) && true) && vm_is 77 3) && true) && vm_ar 79 100 12) && decide (0 ≤ v1 ∧ v1 < 12)) && decide (vm_32 ((m3 10 0) - (m3 79 v1)))) && decide (vm_cats [] ≤ 8))) (by decide +kernel) rfl (vm_t (vm_t (vm_t (vm_u (vm_u (vm_u (vm_u (vm_u (vm_t (vm_u (vm_u (vm_u (vm_u (vm_u rfl (by decide +kernel)) rfl) (by decide +kernel)) rfl) (by decide +kernel)) (by decide)) (by decide +kernel)) rfl) (by decide +kernel)) rfl) (by decide +kernel)) o35_0) o35_1) (by decide : (0 : Nat) ≤ 8)) ?_
                    exact vm_gr (r := some (vm_i (if 0 < ((m3 10 0) - (m3 79 v1)) then ((m3 10 0) - (m3 79 v1)) else 0))) (i := (.ireturn, 1, 0, [])) (len := 1) (by decide +kernel) rfl rfl rfl ⟨_, rfl, h⟩
                  · replace h := h.2 c20
                    by_cases c21 : v2 = 7
                    · replace h := h.1 c21
                      refine vm_gj1 (i := (.tableswitch 0 0 0 #[], 217, 0, [(0, 88), (1, 98), (2, 107), (3, 116), (4, 126), (5, 136), (6, 146), (7, 170), (8, 198)])) (len := 52) (t := 170) (st1 := []) (by decide +kernel) rfl (by rw [c21]; rfl) ?_
                      refine vm_gp [(.iload 3, 0, 0, [])] (pc1 := 171) (ls1 := [some (vm_r 0), some (vm_i v1), some (vm_i v2), some (vm_i 1)]) (st1 := [vm_i 1]) (m1 := m3) (ob := true) (by decide +kernel) rfl rfl ?_
                      refine vm_gj (c := 1 = 0) (t := 195) (e := 174) (i := (.ifCond .eq 0, 195, 0, [])) (len := 3) (st1 := []) (by decide +kernel) rfl rfl (fun c22 => ?_) (fun c22 => ?_)
                      · replace h := h.1 c22
                        refine vm_gp [(.iconst (-2), 0, 0, [])] (pc1 := 197) (ls1 := [some (vm_r 0), some (vm_i v1), some (vm_i v2), some (vm_i 1)]) (st1 := [vm_i (-2)]) (m1 := m3) (ob := true) (by decide +kernel) rfl rfl ?_
                        exact vm_gr (r := some (vm_i (-2))) (i := (.ireturn, 1, 0, [])) (len := 1) (by decide +kernel) rfl rfl rfl ⟨_, rfl, h⟩
                      · replace h := h.2 c22
                        refine vm_gp [(.aload 0, 0, 0, []), (.getfield 2, 10, 12, [(77, 0)]), (.iload 1, 0, 0, []), (.aload 0, 0, 0, []), (.getfield 2, 10, 10, [(67, 0)]), (.iload 1, 0, 0, [])] (pc1 := 184) (ls1 := [some (vm_r 0), some (vm_i v1), some (vm_i v2), some (vm_i 1)]) (st1 := [vm_i v1, vm_r 67, vm_i v1, vm_r 77]) (m1 := m3) (ob := ((((true && vm_is 0 10) && true) && vm_is 0 10) && true)) (by decide +kernel) rfl (vm_u (vm_u (vm_u (vm_u rfl (by decide +kernel)) rfl) (by decide +kernel)) rfl) ?_
                        refine vm_gc (g := 16) (na := 2) (av := [vm_r 67, vm_i v1]) (rest := [vm_i v1, vm_r 77]) (i := (.invokevirtual 0, 16, 2, [])) (len := 3) (by decide +kernel) rfl rfl rfl (by decide +kernel) (by decide +kernel) rfl rfl (vm_u (vm_okh_v (c := 1) (by decide +kernel) (by decide +kernel)) (show vm_okn 16 2 2 0 0 2 = true by decide +kernel)) ?_
                        refine vm_G.mono h ?_
                        rintro _ m11 ⟨z11, rfl, h⟩
                        show vm_G 128 187 [some (vm_r 0), some (vm_i v1), some (vm_i v2), some (vm_i 1)] [vm_i z11, vm_i v1, vm_r 77] m11 _
                        obtain ⟨o39_0, h⟩ := h
                        refine vm_gp [(.iconst 2, 0, 0, []), (.isub, 0, 0, [])] (pc1 := 189) (ls1 := [some (vm_r 0), some (vm_i v1), some (vm_i v2), some (vm_i 1)]) (st1 := [vm_i (z11 - 2), vm_i v1, vm_r 77]) (m1 := m11) (ob := (true && decide (vm_32 (z11 - 2)))) (by decide +kernel) rfl (vm_t rfl o39_0) ?_
                        refine vm_gc (g := 42) (na := 3) (av := [vm_r 77, vm_i v1, vm_i (z11 - 2)]) (rest := []) (i := (.invokevirtual 0, 42, 3, [])) (len := 3) (by decide +kernel) rfl rfl rfl (by decide +kernel) (by decide +kernel) rfl rfl (vm_u (vm_okh_v (c := 3) (by decide +kernel) (by decide +kernel)) (show vm_okn 42 3 0 0 0 3 = true by decide +kernel)) ?_
                        refine vm_G.mono h ?_
                        rintro _ m12 ⟨z12, rfl, h⟩
                        show vm_G 128 192 [some (vm_r 0), some (vm_i v1), some (vm_i v2), some (vm_i 1)] [vm_i z12] m12 _
                        refine vm_gp [(.goto 0, 197, 0, [])] (pc1 := 197) (ls1 := [some (vm_r 0), some (vm_i v1), some (vm_i v2), some (vm_i 1)]) (st1 := [vm_i z12]) (m1 := m12) (ob := true) (by decide +kernel) rfl rfl ?_
                        exact vm_gr (r := some (vm_i z12)) (i := (.ireturn, 1, 0, [])) (len := 1) (by decide +kernel) rfl rfl rfl ⟨_, rfl, h⟩
                    · replace h := h.2 c21
                      by_cases c23 : v2 = 8
                      · replace h := h.1 c23
                        refine vm_gj1 (i := (.tableswitch 0 0 0 #[], 217, 0, [(0, 88), (1, 98), (2, 107), (3, 116), (4, 126), (5, 136), (6, 146), (7, 170), (8, 198)])) (len := 52) (t := 198) (st1 := []) (by decide +kernel) rfl (by rw [c23]; rfl) ?_
                        refine vm_gp [(.iload 3, 0, 0, [])] (pc1 := 199) (ls1 := [some (vm_r 0), some (vm_i v1), some (vm_i v2), some (vm_i 1)]) (st1 := [vm_i 1]) (m1 := m3) (ob := true) (by decide +kernel) rfl rfl ?_
                        refine vm_gj (c := 1 = 0) (t := 214) (e := 202) (i := (.ifCond .eq 0, 214, 0, [])) (len := 3) (st1 := []) (by decide +kernel) rfl rfl (fun c24 => ?_) (fun c24 => ?_)
                        · replace h := h.1 c24
                          refine vm_gp [(.iconst (-2), 0, 0, [])] (pc1 := 216) (ls1 := [some (vm_r 0), some (vm_i v1), some (vm_i v2), some (vm_i 1)]) (st1 := [vm_i (-2)]) (m1 := m3) (ob := true) (by decide +kernel) rfl rfl ?_
                          exact vm_gr (r := some (vm_i (-2))) (i := (.ireturn, 1, 0, [])) (len := 1) (by decide +kernel) rfl rfl rfl ⟨_, rfl, h⟩
                        · replace h := h.2 c24
                          refine vm_gp [(.aload 0, 0, 0, []), (.getfield 2, 10, 12, [(77, 0)]), (.iload 1, 0, 0, []), (.iconst 0, 0, 0, [])] (pc1 := 208) (ls1 := [some (vm_r 0), some (vm_i v1), some (vm_i v2), some (vm_i 1)]) (st1 := [vm_i 0, vm_i v1, vm_r 77]) (m1 := m3) (ob := ((true && vm_is 0 10) && true)) (by decide +kernel) rfl (vm_u (vm_u rfl (by decide +kernel)) rfl) ?_
                          refine vm_gc (g := 42) (na := 3) (av := [vm_r 77, vm_i v1, vm_i 0]) (rest := []) (i := (.invokevirtual 0, 42, 3, [])) (len := 3) (by decide +kernel) rfl rfl rfl (by decide +kernel) (by decide +kernel) rfl rfl (vm_u (vm_okh_v (c := 3) (by decide +kernel) (by decide +kernel)) (show vm_okn 42 3 0 0 0 3 = true by decide +kernel)) ?_
                          refine vm_G.mono h ?_
                          rintro _ m13 ⟨z13, rfl, h⟩
                          show vm_G 128 211 [some (vm_r 0), some (vm_i v1), some (vm_i v2), some (vm_i 1)] [vm_i z13] m13 _
                          refine vm_gp [(.goto 0, 216, 0, [])] (pc1 := 216) (ls1 := [some (vm_r 0), some (vm_i v1), some (vm_i v2), some (vm_i 1)]) (st1 := [vm_i z13]) (m1 := m13) (ob := true) (by decide +kernel) rfl rfl ?_
                          exact vm_gr (r := some (vm_i z13)) (i := (.ireturn, 1, 0, [])) (len := 1) (by decide +kernel) rfl rfl rfl ⟨_, rfl, h⟩
                      · replace h := h.2 c23
                        refine vm_gj1 (i := (.tableswitch 0 0 0 #[], 217, 0, [(0, 88), (1, 98), (2, 107), (3, 116), (4, 126), (5, 136), (6, 146), (7, 170), (8, 198)])) (len := 52) (t := 217) (st1 := []) (by decide +kernel) rfl (by simp only [vm_jmp, vm_sw, cond, decide_eq_false c14, decide_eq_false c15, decide_eq_false c16, decide_eq_false c17, decide_eq_false c18, decide_eq_false c19, decide_eq_false c20, decide_eq_false c21, decide_eq_false c23]) ?_
                        refine vm_gp [(.iconst (-1), 0, 0, [])] (pc1 := 218) (ls1 := [some (vm_r 0), some (vm_i v1), some (vm_i v2), some (vm_i 1)]) (st1 := [vm_i (-1)]) (m1 := m3) (ob := true) (by decide +kernel) rfl rfl ?_
                        exact vm_gr (r := some (vm_i (-1))) (i := (.ireturn, 1, 0, [])) (len := 1) (by decide +kernel) rfl rfl rfl ⟨_, rfl, h⟩
  · replace h := h.2 c1
    refine vm_gp [(.iconst (-1), 0, 0, [])] (pc1 := 16) (ls1 := [some (vm_r 0), some (vm_i v1), some (vm_i v2), none]) (st1 := [vm_i (-1)]) (m1 := m2) (ob := true) (by decide +kernel) rfl rfl ?_
    exact vm_gr (r := some (vm_i (-1))) (i := (.ireturn, 1, 0, [])) (len := 1) (by decide +kernel) rfl rfl rfl ⟨_, rfl, h⟩
abbrev ku10_letterAt_0 (v1 : Int) (v2 : Int) (m : vm_M) (Q : Int → vm_M → Prop) : Prop := vm_G 129 0 [some (vm_r 0), some (vm_i v1), some (vm_i v2), none] [] m (vm_qi Q)
set_option maxRecDepth 20000 in
theorem ru10_letterAt_0 {v1 : Int} {v2 : Int} {m : vm_M} {Q : Int → vm_M → Prop}  (h :
    (vm_C 137 [vm_r 0] m (vm_qv (fun m1 =>
      (vm_C 15 [vm_r 67, vm_i v1] m1 (vm_qi (fun z2 m2 =>
        ((z2 = 0 →
          Q (-1) m2) ∧ (¬ z2 = 0 →
          ((0 ≤ v2 →
            (vm_C 43 [vm_r 77, vm_i v1, vm_i v2] m2 (vm_qi (fun z3 m3 =>
              ((¬ z3 = (-1) →
                ((0 ≤ z3 ∧ z3 < 360)) ∧
                Q (m3 13 z3) m3) ∧ (¬ ¬ z3 = (-1) →
                Q (-2) m3)))))) ∧ (¬ 0 ≤ v2 →
            Q (-1) m2))))))))))) : vm_C 129 [vm_r 0, vm_i v1, vm_i v2] m (vm_qi Q) := by
  show vm_G 129 0 [some (vm_r 0), some (vm_i v1), some (vm_i v2), none] [] m (vm_qi Q)
  refine vm_gp [(.aload 0, 0, 0, [])] (pc1 := 1) (ls1 := [some (vm_r 0), some (vm_i v1), some (vm_i v2), none]) (st1 := [vm_r 0]) (m1 := m) (ob := true) (by decide +kernel) rfl rfl ?_
  refine vm_gc (g := 137) (na := 1) (av := [vm_r 0]) (rest := []) (i := (.invokevirtual 0, 137, 1, [])) (len := 3) (by decide +kernel) rfl rfl rfl (by decide +kernel) (by decide +kernel) rfl rfl (vm_u (vm_okh_v (c := 10) (by decide +kernel) (by decide +kernel)) (show vm_okn 137 1 0 0 0 1 = true by decide +kernel)) ?_
  refine vm_G.mono h ?_
  rintro _ m1 ⟨rfl, h⟩
  show vm_G 129 4 [some (vm_r 0), some (vm_i v1), some (vm_i v2), none] [] m1 _
  refine vm_gp [(.aload 0, 0, 0, []), (.getfield 2, 10, 10, [(67, 0)]), (.iload 1, 0, 0, [])] (pc1 := 9) (ls1 := [some (vm_r 0), some (vm_i v1), some (vm_i v2), none]) (st1 := [vm_i v1, vm_r 67]) (m1 := m1) (ob := ((true && vm_is 0 10) && true)) (by decide +kernel) rfl (vm_u (vm_u rfl (by decide +kernel)) rfl) ?_
  refine vm_gc (g := 15) (na := 2) (av := [vm_r 67, vm_i v1]) (rest := []) (i := (.invokevirtual 0, 15, 2, [])) (len := 3) (by decide +kernel) rfl rfl rfl (by decide +kernel) (by decide +kernel) rfl rfl (vm_u (vm_okh_v (c := 1) (by decide +kernel) (by decide +kernel)) (show vm_okn 15 2 0 0 0 2 = true by decide +kernel)) ?_
  refine vm_G.mono h ?_
  rintro _ m2 ⟨z2, rfl, h⟩
  show vm_G 129 12 [some (vm_r 0), some (vm_i v1), some (vm_i v2), none] [vm_i z2] m2 _
  refine vm_gj (c := z2 = 0) (t := 19) (e := 15) (i := (.ifCond .eq 0, 19, 0, [])) (len := 3) (st1 := []) (by decide +kernel) rfl rfl (fun c1 => ?_) (fun c1 => ?_)
  · replace h := h.1 c1
    refine vm_gp [(.iconst (-1), 0, 0, [])] (pc1 := 20) (ls1 := [some (vm_r 0), some (vm_i v1), some (vm_i v2), none]) (st1 := [vm_i (-1)]) (m1 := m2) (ob := true) (by decide +kernel) rfl rfl ?_
    exact vm_gr (r := some (vm_i (-1))) (i := (.ireturn, 1, 0, [])) (len := 1) (by decide +kernel) rfl rfl rfl ⟨_, rfl, h⟩
  · replace h := h.2 c1
    refine vm_gp [(.iload 2, 0, 0, [])] (pc1 := 16) (ls1 := [some (vm_r 0), some (vm_i v1), some (vm_i v2), none]) (st1 := [vm_i v2]) (m1 := m2) (ob := true) (by decide +kernel) rfl rfl ?_
    refine vm_gj (c := 0 ≤ v2) (t := 21) (e := 19) (i := (.ifCond .ge 0, 21, 0, [])) (len := 3) (st1 := []) (by decide +kernel) rfl rfl (fun c2 => ?_) (fun c2 => ?_)
    · replace h := h.1 c2
      refine vm_gp [(.aload 0, 0, 0, []), (.getfield 2, 10, 12, [(77, 0)]), (.iload 1, 0, 0, []), (.iload 2, 0, 0, [])] (pc1 := 27) (ls1 := [some (vm_r 0), some (vm_i v1), some (vm_i v2), none]) (st1 := [vm_i v2, vm_i v1, vm_r 77]) (m1 := m2) (ob := ((true && vm_is 0 10) && true)) (by decide +kernel) rfl (vm_u (vm_u rfl (by decide +kernel)) rfl) ?_
      refine vm_gc (g := 43) (na := 3) (av := [vm_r 77, vm_i v1, vm_i v2]) (rest := []) (i := (.invokevirtual 0, 43, 3, [])) (len := 3) (by decide +kernel) rfl rfl rfl (by decide +kernel) (by decide +kernel) rfl rfl (vm_u (vm_okh_v (c := 3) (by decide +kernel) (by decide +kernel)) (show vm_okn 43 3 0 0 0 3 = true by decide +kernel)) ?_
      refine vm_G.mono h ?_
      rintro _ m3 ⟨z3, rfl, h⟩
      show vm_G 129 30 [some (vm_r 0), some (vm_i v1), some (vm_i v2), none] [vm_i z3] m3 _
      refine vm_gp [(.istore 3, 0, 0, []), (.iload 3, 0, 0, []), (.iconst (-1), 0, 0, [])] (pc1 := 33) (ls1 := [some (vm_r 0), some (vm_i v1), some (vm_i v2), some (vm_i z3)]) (st1 := [vm_i (-1), vm_i z3]) (m1 := m3) (ob := true) (by decide +kernel) rfl rfl ?_
      refine vm_gj (c := ¬ z3 = (-1)) (t := 41) (e := 36) (i := (.if_icmp .ne 0, 41, 0, [])) (len := 3) (st1 := []) (by decide +kernel) rfl rfl (fun c3 => ?_) (fun c3 => ?_)
      · replace h := h.1 c3
        obtain ⟨o8_0, h⟩ := h
        refine vm_gp [(.aload 0, 0, 0, []), (.getfield 2, 10, 3, [(9, 0)]), (.getfield 2, 4, 3, [(4, 1)]), (.iload 3, 0, 0, []), (.iaload, 360, 0, [])] (pc1 := 50) (ls1 := [some (vm_r 0), some (vm_i v1), some (vm_i v2), some (vm_i z3)]) (st1 := [vm_i (m3 13 z3)]) (m1 := m3) (ob := ((((((true && vm_is 0 10) && true) && vm_is 9 4) && true) && vm_ar 13 100 360) && decide (0 ≤ z3 ∧ z3 < 360))) (by decide +kernel) rfl (vm_t (vm_u (vm_u (vm_u (vm_u (vm_u rfl (by decide +kernel)) rfl) (by decide +kernel)) rfl) (by decide +kernel)) o8_0) ?_
        exact vm_gr (r := some (vm_i (m3 13 z3))) (i := (.ireturn, 1, 0, [])) (len := 1) (by decide +kernel) rfl rfl rfl ⟨_, rfl, h⟩
      · replace h := h.2 c3
        refine vm_gp [(.iconst (-2), 0, 0, []), (.goto 0, 50, 0, [])] (pc1 := 50) (ls1 := [some (vm_r 0), some (vm_i v1), some (vm_i v2), some (vm_i z3)]) (st1 := [vm_i (-2)]) (m1 := m3) (ob := true) (by decide +kernel) rfl rfl ?_
        exact vm_gr (r := some (vm_i (-2))) (i := (.ireturn, 1, 0, [])) (len := 1) (by decide +kernel) rfl rfl rfl ⟨_, rfl, h⟩
    · replace h := h.2 c2
      refine vm_gp [(.iconst (-1), 0, 0, [])] (pc1 := 20) (ls1 := [some (vm_r 0), some (vm_i v1), some (vm_i v2), none]) (st1 := [vm_i (-1)]) (m1 := m2) (ob := true) (by decide +kernel) rfl rfl ?_
      exact vm_gr (r := some (vm_i (-1))) (i := (.ireturn, 1, 0, [])) (len := 1) (by decide +kernel) rfl rfl rfl ⟨_, rfl, h⟩
abbrev ku10_place_0 (v1 : Int) (v2 : Int) (m : vm_M) (Q : Int → vm_M → Prop) : Prop := vm_G 130 0 [some (vm_r 0), some (vm_i v1), some (vm_i v2), none] [] m (vm_qi Q)
set_option maxRecDepth 20000 in
theorem ru10_place_0 {v1 : Int} {v2 : Int} {m : vm_M} {Q : Int → vm_M → Prop}  (h :
    (vm_C 137 [vm_r 0] m (vm_qv (fun m1 =>
      (vm_C 15 [vm_r 67, vm_i v1] m1 (vm_qi (fun z2 m2 =>
        ((z2 = 0 →
          Q (-1) m2) ∧ (¬ z2 = 0 →
          ((0 ≤ v2 →
            (vm_C 43 [vm_r 77, vm_i v1, vm_i v2] m2 (vm_qi (fun z3 m3 =>
              ((¬ z3 = (-1) →
                ((0 ≤ z3 ∧ z3 < 360) ∧ (vm_32 ((m3 83 z3) + 1000))) ∧
                Q ((m3 83 z3) + 1000) m3) ∧ (¬ ¬ z3 = (-1) →
                Q (-2) m3)))))) ∧ (¬ 0 ≤ v2 →
            Q (-1) m2))))))))))) : vm_C 130 [vm_r 0, vm_i v1, vm_i v2] m (vm_qi Q) := by
  show vm_G 130 0 [some (vm_r 0), some (vm_i v1), some (vm_i v2), none] [] m (vm_qi Q)
  refine vm_gp [(.aload 0, 0, 0, [])] (pc1 := 1) (ls1 := [some (vm_r 0), some (vm_i v1), some (vm_i v2), none]) (st1 := [vm_r 0]) (m1 := m) (ob := true) (by decide +kernel) rfl rfl ?_
  refine vm_gc (g := 137) (na := 1) (av := [vm_r 0]) (rest := []) (i := (.invokevirtual 0, 137, 1, [])) (len := 3) (by decide +kernel) rfl rfl rfl (by decide +kernel) (by decide +kernel) rfl rfl (vm_u (vm_okh_v (c := 10) (by decide +kernel) (by decide +kernel)) (show vm_okn 137 1 0 0 0 1 = true by decide +kernel)) ?_
  refine vm_G.mono h ?_
  rintro _ m1 ⟨rfl, h⟩
  show vm_G 130 4 [some (vm_r 0), some (vm_i v1), some (vm_i v2), none] [] m1 _
  refine vm_gp [(.aload 0, 0, 0, []), (.getfield 2, 10, 10, [(67, 0)]), (.iload 1, 0, 0, [])] (pc1 := 9) (ls1 := [some (vm_r 0), some (vm_i v1), some (vm_i v2), none]) (st1 := [vm_i v1, vm_r 67]) (m1 := m1) (ob := ((true && vm_is 0 10) && true)) (by decide +kernel) rfl (vm_u (vm_u rfl (by decide +kernel)) rfl) ?_
  refine vm_gc (g := 15) (na := 2) (av := [vm_r 67, vm_i v1]) (rest := []) (i := (.invokevirtual 0, 15, 2, [])) (len := 3) (by decide +kernel) rfl rfl rfl (by decide +kernel) (by decide +kernel) rfl rfl (vm_u (vm_okh_v (c := 1) (by decide +kernel) (by decide +kernel)) (show vm_okn 15 2 0 0 0 2 = true by decide +kernel)) ?_
  refine vm_G.mono h ?_
  rintro _ m2 ⟨z2, rfl, h⟩
  show vm_G 130 12 [some (vm_r 0), some (vm_i v1), some (vm_i v2), none] [vm_i z2] m2 _
  refine vm_gj (c := z2 = 0) (t := 19) (e := 15) (i := (.ifCond .eq 0, 19, 0, [])) (len := 3) (st1 := []) (by decide +kernel) rfl rfl (fun c1 => ?_) (fun c1 => ?_)
  · replace h := h.1 c1
    refine vm_gp [(.iconst (-1), 0, 0, [])] (pc1 := 20) (ls1 := [some (vm_r 0), some (vm_i v1), some (vm_i v2), none]) (st1 := [vm_i (-1)]) (m1 := m2) (ob := true) (by decide +kernel) rfl rfl ?_
    exact vm_gr (r := some (vm_i (-1))) (i := (.ireturn, 1, 0, [])) (len := 1) (by decide +kernel) rfl rfl rfl ⟨_, rfl, h⟩
  · replace h := h.2 c1
    refine vm_gp [(.iload 2, 0, 0, [])] (pc1 := 16) (ls1 := [some (vm_r 0), some (vm_i v1), some (vm_i v2), none]) (st1 := [vm_i v2]) (m1 := m2) (ob := true) (by decide +kernel) rfl rfl ?_
    refine vm_gj (c := 0 ≤ v2) (t := 21) (e := 19) (i := (.ifCond .ge 0, 21, 0, [])) (len := 3) (st1 := []) (by decide +kernel) rfl rfl (fun c2 => ?_) (fun c2 => ?_)
    · replace h := h.1 c2
      refine vm_gp [(.aload 0, 0, 0, []), (.getfield 2, 10, 12, [(77, 0)]), (.iload 1, 0, 0, []), (.iload 2, 0, 0, [])] (pc1 := 27) (ls1 := [some (vm_r 0), some (vm_i v1), some (vm_i v2), none]) (st1 := [vm_i v2, vm_i v1, vm_r 77]) (m1 := m2) (ob := ((true && vm_is 0 10) && true)) (by decide +kernel) rfl (vm_u (vm_u rfl (by decide +kernel)) rfl) ?_
      refine vm_gc (g := 43) (na := 3) (av := [vm_r 77, vm_i v1, vm_i v2]) (rest := []) (i := (.invokevirtual 0, 43, 3, [])) (len := 3) (by decide +kernel) rfl rfl rfl (by decide +kernel) (by decide +kernel) rfl rfl (vm_u (vm_okh_v (c := 3) (by decide +kernel) (by decide +kernel)) (show vm_okn 43 3 0 0 0 3 = true by decide +kernel)) ?_
      refine vm_G.mono h ?_
      rintro _ m3 ⟨z3, rfl, h⟩
      show vm_G 130 30 [some (vm_r 0), some (vm_i v1), some (vm_i v2), none] [vm_i z3] m3 _
      refine vm_gp [(.istore 3, 0, 0, []), (.iload 3, 0, 0, []), (.iconst (-1), 0, 0, [])] (pc1 := 33) (ls1 := [some (vm_r 0), some (vm_i v1), some (vm_i v2), some (vm_i z3)]) (st1 := [vm_i (-1), vm_i z3]) (m1 := m3) (ob := true) (by decide +kernel) rfl rfl ?_
      refine vm_gj (c := ¬ z3 = (-1)) (t := 41) (e := 36) (i := (.if_icmp .ne 0, 41, 0, [])) (len := 3) (st1 := []) (by decide +kernel) rfl rfl (fun c3 => ?_) (fun c3 => ?_)
      · replace h := h.1 c3
        obtain ⟨⟨o8_0, o8_1⟩, h⟩ := h
        refine vm_gp [(.aload 0, 0, 0, []), (.getfield 2, 10, 12, [(77, 0)]), (.getfield 2, 3, 9, [(83, 0)]), (.iload 3, 0, 0, []), (.iaload, 360, 0, []), (.iconst 1000, 0, 0, []), (.iadd, 0, 0, [])] (pc1 := 54) (ls1 := [some (vm_r 0), some (vm_i v1), some (vm_i v2), some (vm_i z3)]) (st1 := [vm_i ((m3 83 z3) + 1000)]) (m1 := m3) (ob := (((((((true && vm_is 0 10) && true) && vm_is 77 3) && true) && vm_ar 83 100 360) && decide (0 ≤ z3 ∧ z3 < 360)) && decide (vm_32 ((m3 83 z3) + 1000)))) (by decide +kernel) rfl (vm_t (vm_t (vm_u (vm_u (vm_u (vm_u (vm_u rfl (by decide +kernel)) rfl) (by decide +kernel)) rfl) (by decide +kernel)) o8_0) o8_1) ?_
        exact vm_gr (r := some (vm_i ((m3 83 z3) + 1000))) (i := (.ireturn, 1, 0, [])) (len := 1) (by decide +kernel) rfl rfl rfl ⟨_, rfl, h⟩
      · replace h := h.2 c3
        refine vm_gp [(.iconst (-2), 0, 0, []), (.goto 0, 54, 0, [])] (pc1 := 54) (ls1 := [some (vm_r 0), some (vm_i v1), some (vm_i v2), some (vm_i z3)]) (st1 := [vm_i (-2)]) (m1 := m3) (ob := true) (by decide +kernel) rfl rfl ?_
        exact vm_gr (r := some (vm_i (-2))) (i := (.ireturn, 1, 0, [])) (len := 1) (by decide +kernel) rfl rfl rfl ⟨_, rfl, h⟩
    · replace h := h.2 c2
      refine vm_gp [(.iconst (-1), 0, 0, [])] (pc1 := 20) (ls1 := [some (vm_r 0), some (vm_i v1), some (vm_i v2), none]) (st1 := [vm_i (-1)]) (m1 := m2) (ob := true) (by decide +kernel) rfl rfl ?_
      exact vm_gr (r := some (vm_i (-1))) (i := (.ireturn, 1, 0, [])) (len := 1) (by decide +kernel) rfl rfl rfl ⟨_, rfl, h⟩
abbrev ku10_gap_0 (v1 : Int) (v2 : Int) (m : vm_M) (Q : Int → vm_M → Prop) : Prop := vm_G 131 0 [some (vm_r 0), some (vm_i v1), some (vm_i v2)] [] m (vm_qi Q)
set_option maxRecDepth 20000 in
theorem ru10_gap_0 {v1 : Int} {v2 : Int} {m : vm_M} {Q : Int → vm_M → Prop}  (h :
    (vm_C 137 [vm_r 0] m (vm_qv (fun m1 =>
      (vm_C 15 [vm_r 67, vm_i v1] m1 (vm_qi (fun z2 m2 =>
        ((z2 = 0 →
          Q (-1) m2) ∧ (¬ z2 = 0 →
          ((0 ≤ v2 →
            (vm_C 45 [vm_r 77, vm_i v1, vm_i v2] m2 (vm_qi (fun z3 m3 =>
              Q z3 m3)))) ∧ (¬ 0 ≤ v2 →
            Q (-1) m2))))))))))) : vm_C 131 [vm_r 0, vm_i v1, vm_i v2] m (vm_qi Q) := by
  show vm_G 131 0 [some (vm_r 0), some (vm_i v1), some (vm_i v2)] [] m (vm_qi Q)
  refine vm_gp [(.aload 0, 0, 0, [])] (pc1 := 1) (ls1 := [some (vm_r 0), some (vm_i v1), some (vm_i v2)]) (st1 := [vm_r 0]) (m1 := m) (ob := true) (by decide +kernel) rfl rfl ?_
  refine vm_gc (g := 137) (na := 1) (av := [vm_r 0]) (rest := []) (i := (.invokevirtual 0, 137, 1, [])) (len := 3) (by decide +kernel) rfl rfl rfl (by decide +kernel) (by decide +kernel) rfl rfl (vm_u (vm_okh_v (c := 10) (by decide +kernel) (by decide +kernel)) (show vm_okn 137 1 0 0 0 1 = true by decide +kernel)) ?_
  refine vm_G.mono h ?_
  rintro _ m1 ⟨rfl, h⟩
  show vm_G 131 4 [some (vm_r 0), some (vm_i v1), some (vm_i v2)] [] m1 _
  refine vm_gp [(.aload 0, 0, 0, []), (.getfield 2, 10, 10, [(67, 0)]), (.iload 1, 0, 0, [])] (pc1 := 9) (ls1 := [some (vm_r 0), some (vm_i v1), some (vm_i v2)]) (st1 := [vm_i v1, vm_r 67]) (m1 := m1) (ob := ((true && vm_is 0 10) && true)) (by decide +kernel) rfl (vm_u (vm_u rfl (by decide +kernel)) rfl) ?_
  refine vm_gc (g := 15) (na := 2) (av := [vm_r 67, vm_i v1]) (rest := []) (i := (.invokevirtual 0, 15, 2, [])) (len := 3) (by decide +kernel) rfl rfl rfl (by decide +kernel) (by decide +kernel) rfl rfl (vm_u (vm_okh_v (c := 1) (by decide +kernel) (by decide +kernel)) (show vm_okn 15 2 0 0 0 2 = true by decide +kernel)) ?_
  refine vm_G.mono h ?_
  rintro _ m2 ⟨z2, rfl, h⟩
  show vm_G 131 12 [some (vm_r 0), some (vm_i v1), some (vm_i v2)] [vm_i z2] m2 _
  refine vm_gj (c := z2 = 0) (t := 19) (e := 15) (i := (.ifCond .eq 0, 19, 0, [])) (len := 3) (st1 := []) (by decide +kernel) rfl rfl (fun c1 => ?_) (fun c1 => ?_)
  · replace h := h.1 c1
    refine vm_gp [(.iconst (-1), 0, 0, [])] (pc1 := 20) (ls1 := [some (vm_r 0), some (vm_i v1), some (vm_i v2)]) (st1 := [vm_i (-1)]) (m1 := m2) (ob := true) (by decide +kernel) rfl rfl ?_
    exact vm_gr (r := some (vm_i (-1))) (i := (.ireturn, 1, 0, [])) (len := 1) (by decide +kernel) rfl rfl rfl ⟨_, rfl, h⟩
  · replace h := h.2 c1
    refine vm_gp [(.iload 2, 0, 0, [])] (pc1 := 16) (ls1 := [some (vm_r 0), some (vm_i v1), some (vm_i v2)]) (st1 := [vm_i v2]) (m1 := m2) (ob := true) (by decide +kernel) rfl rfl ?_
    refine vm_gj (c := 0 ≤ v2) (t := 21) (e := 19) (i := (.ifCond .ge 0, 21, 0, [])) (len := 3) (st1 := []) (by decide +kernel) rfl rfl (fun c2 => ?_) (fun c2 => ?_)
    · replace h := h.1 c2
      refine vm_gp [(.aload 0, 0, 0, []), (.getfield 2, 10, 12, [(77, 0)]), (.iload 1, 0, 0, []), (.iload 2, 0, 0, [])] (pc1 := 27) (ls1 := [some (vm_r 0), some (vm_i v1), some (vm_i v2)]) (st1 := [vm_i v2, vm_i v1, vm_r 77]) (m1 := m2) (ob := ((true && vm_is 0 10) && true)) (by decide +kernel) rfl (vm_u (vm_u rfl (by decide +kernel)) rfl) ?_
      refine vm_gc (g := 45) (na := 3) (av := [vm_r 77, vm_i v1, vm_i v2]) (rest := []) (i := (.invokevirtual 0, 45, 3, [])) (len := 3) (by decide +kernel) rfl rfl rfl (by decide +kernel) (by decide +kernel) rfl rfl (vm_u (vm_okh_v (c := 3) (by decide +kernel) (by decide +kernel)) (show vm_okn 45 3 0 0 0 3 = true by decide +kernel)) ?_
      refine vm_G.mono h ?_
      rintro _ m3 ⟨z3, rfl, h⟩
      show vm_G 131 30 [some (vm_r 0), some (vm_i v1), some (vm_i v2)] [vm_i z3] m3 _
      exact vm_gr (r := some (vm_i z3)) (i := (.ireturn, 1, 0, [])) (len := 1) (by decide +kernel) rfl rfl rfl ⟨_, rfl, h⟩
    · replace h := h.2 c2
      refine vm_gp [(.iconst (-1), 0, 0, [])] (pc1 := 20) (ls1 := [some (vm_r 0), some (vm_i v1), some (vm_i v2)]) (st1 := [vm_i (-1)]) (m1 := m2) (ob := true) (by decide +kernel) rfl rfl ?_
      exact vm_gr (r := some (vm_i (-1))) (i := (.ireturn, 1, 0, [])) (len := 1) (by decide +kernel) rfl rfl rfl ⟨_, rfl, h⟩
abbrev ku10_uneven_0 (v1 : Int) (m : vm_M) (Q : Int → vm_M → Prop) : Prop := vm_G 132 0 [some (vm_r 0), some (vm_i v1), none, none, none, none, none] [] m (vm_qi Q)
abbrev ku10_uneven_36 (v1 : Int) (v2 : Int) (v3 : Int) (v4 : Int) (v5 : Int) (w6 : Option vm_V) (m : vm_M) (Q : Int → vm_M → Prop) : Prop := vm_G 132 36 [some (vm_r 0), some (vm_i v1), some (vm_i v2), some (vm_i v3), some (vm_i v4), some (vm_i v5), w6] [] m (vm_qi Q)
set_option maxRecDepth 20000 in
theorem ru10_uneven_0 {v1 : Int} {m : vm_M} {Q : Int → vm_M → Prop}  (h :
    (vm_C 137 [vm_r 0] m (vm_qv (fun m1 =>
      (vm_C 15 [vm_r 67, vm_i v1] m1 (vm_qi (fun z2 m2 =>
        ((¬ z2 = 0 →
          (vm_C 41 [vm_r 77, vm_i v1] m2 (vm_qi (fun z3 m3 =>
            ku10_uneven_36 v1 (-2) (-2) z3 0 none m3 Q)))) ∧ (¬ ¬ z2 = 0 →
          Q (-1) m2))))))))) : vm_C 132 [vm_r 0, vm_i v1] m (vm_qi Q) := by
  show vm_G 132 0 [some (vm_r 0), some (vm_i v1), none, none, none, none, none] [] m (vm_qi Q)
  refine vm_gp [(.aload 0, 0, 0, [])] (pc1 := 1) (ls1 := [some (vm_r 0), some (vm_i v1), none, none, none, none, none]) (st1 := [vm_r 0]) (m1 := m) (ob := true) (by decide +kernel) rfl rfl ?_
  refine vm_gc (g := 137) (na := 1) (av := [vm_r 0]) (rest := []) (i := (.invokevirtual 0, 137, 1, [])) (len := 3) (by decide +kernel) rfl rfl rfl (by decide +kernel) (by decide +kernel) rfl rfl (vm_u (vm_okh_v (c := 10) (by decide +kernel) (by decide +kernel)) (show vm_okn 137 1 0 0 0 1 = true by decide +kernel)) ?_
  refine vm_G.mono h ?_
  rintro _ m1 ⟨rfl, h⟩
  show vm_G 132 4 [some (vm_r 0), some (vm_i v1), none, none, none, none, none] [] m1 _
  refine vm_gp [(.aload 0, 0, 0, []), (.getfield 2, 10, 10, [(67, 0)]), (.iload 1, 0, 0, [])] (pc1 := 9) (ls1 := [some (vm_r 0), some (vm_i v1), none, none, none, none, none]) (st1 := [vm_i v1, vm_r 67]) (m1 := m1) (ob := ((true && vm_is 0 10) && true)) (by decide +kernel) rfl (vm_u (vm_u rfl (by decide +kernel)) rfl) ?_
  refine vm_gc (g := 15) (na := 2) (av := [vm_r 67, vm_i v1]) (rest := []) (i := (.invokevirtual 0, 15, 2, [])) (len := 3) (by decide +kernel) rfl rfl rfl (by decide +kernel) (by decide +kernel) rfl rfl (vm_u (vm_okh_v (c := 1) (by decide +kernel) (by decide +kernel)) (show vm_okn 15 2 0 0 0 2 = true by decide +kernel)) ?_
  refine vm_G.mono h ?_
  rintro _ m2 ⟨z2, rfl, h⟩
  show vm_G 132 12 [some (vm_r 0), some (vm_i v1), none, none, none, none, none] [vm_i z2] m2 _
  refine vm_gj (c := ¬ z2 = 0) (t := 17) (e := 15) (i := (.ifCond .ne 0, 17, 0, [])) (len := 3) (st1 := []) (by decide +kernel) rfl rfl (fun c1 => ?_) (fun c1 => ?_)
  · replace h := h.1 c1
    refine vm_gp [(.iconst (-2), 0, 0, []), (.istore 2, 0, 0, []), (.iconst (-2), 0, 0, []), (.istore 3, 0, 0, []), (.aload 0, 0, 0, []), (.getfield 2, 10, 12, [(77, 0)]), (.iload 1, 0, 0, [])] (pc1 := 28) (ls1 := [some (vm_r 0), some (vm_i v1), some (vm_i (-2)), some (vm_i (-2)), none, none, none]) (st1 := [vm_i v1, vm_r 77]) (m1 := m2) (ob := ((true && vm_is 0 10) && true)) (by decide +kernel) rfl (vm_u (vm_u rfl (by decide +kernel)) rfl) ?_
    refine vm_gc (g := 41) (na := 2) (av := [vm_r 77, vm_i v1]) (rest := []) (i := (.invokevirtual 0, 41, 2, [])) (len := 3) (by decide +kernel) rfl rfl rfl (by decide +kernel) (by decide +kernel) rfl rfl (vm_u (vm_okh_v (c := 3) (by decide +kernel) (by decide +kernel)) (show vm_okn 41 2 0 0 0 2 = true by decide +kernel)) ?_
    refine vm_G.mono h ?_
    rintro _ m3 ⟨z3, rfl, h⟩
    show vm_G 132 31 [some (vm_r 0), some (vm_i v1), some (vm_i (-2)), some (vm_i (-2)), none, none, none] [vm_i z3] m3 _
    refine vm_gp [(.istore 4, 0, 0, []), (.iconst 0, 0, 0, []), (.istore 5, 0, 0, [])] (pc1 := 36) (ls1 := [some (vm_r 0), some (vm_i v1), some (vm_i (-2)), some (vm_i (-2)), some (vm_i z3), some (vm_i 0), none]) (st1 := []) (m1 := m3) (ob := true) (by decide +kernel) rfl rfl ?_
    exact h
  · replace h := h.2 c1
    refine vm_gp [(.iconst (-1), 0, 0, [])] (pc1 := 16) (ls1 := [some (vm_r 0), some (vm_i v1), none, none, none, none, none]) (st1 := [vm_i (-1)]) (m1 := m2) (ob := true) (by decide +kernel) rfl rfl ?_
    exact vm_gr (r := some (vm_i (-1))) (i := (.ireturn, 1, 0, [])) (len := 1) (by decide +kernel) rfl rfl rfl ⟨_, rfl, h⟩
set_option maxRecDepth 20000 in
theorem ru10_uneven_36 {v1 : Int} {v2 : Int} {v3 : Int} {v4 : Int} {v5 : Int} {w6 : Option vm_V} {m : vm_M} {Q : Int → vm_M → Prop}  (h :
    ((v4 ≤ v5 →
      ((¬ v2 = (-2) →
        ((vm_32 (v3 - v2))) ∧
        Q (v3 - v2) m) ∧ (¬ ¬ v2 = (-2) →
        Q (-2) m))) ∧ (¬ v4 ≤ v5 →
      (vm_C 45 [vm_r 77, vm_i v1, vm_i v5] m (vm_qi (fun z1 m1 =>
        ((z1 = (-2) →
          ((vm_32 (v5 + 1))) ∧
          ku10_uneven_36 v1 v2 v3 v4 (v5 + 1) (some (vm_i z1)) m1 Q) ∧ (¬ z1 = (-2) →
          ((¬ v2 = (-2) →
            ((vm_32 (v5 + 1))) ∧
            ku10_uneven_36 v1 (if z1 < v2 then z1 else v2) (if v3 < z1 then z1 else v3) v4 (v5 + 1) (some (vm_i z1)) m1 Q) ∧ (¬ ¬ v2 = (-2) →
            ((vm_32 (v5 + 1))) ∧
            ku10_uneven_36 v1 z1 (if v3 < z1 then z1 else v3) v4 (v5 + 1) (some (vm_i z1)) m1 Q)))))))))) : ku10_uneven_36 v1 v2 v3 v4 v5 w6 m Q := by
  show vm_G 132 36 [some (vm_r 0), some (vm_i v1), some (vm_i v2), some (vm_i v3), some (vm_i v4), some (vm_i v5), w6] [] m (vm_qi Q)
  refine vm_gp [(.iload 5, 0, 0, []), (.iload 4, 0, 0, [])] (pc1 := 40) (ls1 := [some (vm_r 0), some (vm_i v1), some (vm_i v2), some (vm_i v3), some (vm_i v4), some (vm_i v5), w6]) (st1 := [vm_i v4, vm_i v5]) (m1 := m) (ob := true) (by decide +kernel) rfl rfl ?_
  refine vm_gj (c := v4 ≤ v5) (t := 93) (e := 43) (i := (.if_icmp .ge 0, 93, 0, [])) (len := 3) (st1 := []) (by decide +kernel) rfl rfl (fun c1 => ?_) (fun c1 => ?_)
  · replace h := h.1 c1
    refine vm_gp [(.iload 2, 0, 0, []), (.iconst (-2), 0, 0, [])] (pc1 := 96) (ls1 := [some (vm_r 0), some (vm_i v1), some (vm_i v2), some (vm_i v3), some (vm_i v4), some (vm_i v5), w6]) (st1 := [vm_i (-2), vm_i v2]) (m1 := m) (ob := true) (by decide +kernel) rfl rfl ?_
    refine vm_gj (c := ¬ v2 = (-2)) (t := 104) (e := 99) (i := (.if_icmp .ne 0, 104, 0, [])) (len := 3) (st1 := []) (by decide +kernel) rfl rfl (fun c2 => ?_) (fun c2 => ?_)
    · replace h := h.1 c2
      obtain ⟨o3_0, h⟩ := h
      refine vm_gp [(.iload 3, 0, 0, []), (.iload 2, 0, 0, []), (.isub, 0, 0, [])] (pc1 := 107) (ls1 := [some (vm_r 0), some (vm_i v1), some (vm_i v2), some (vm_i v3), some (vm_i v4), some (vm_i v5), w6]) (st1 := [vm_i (v3 - v2)]) (m1 := m) (ob := (true && decide (vm_32 (v3 - v2)))) (by decide +kernel) rfl (vm_t rfl o3_0) ?_
      exact vm_gr (r := some (vm_i (v3 - v2))) (i := (.ireturn, 1, 0, [])) (len := 1) (by decide +kernel) rfl rfl rfl ⟨_, rfl, h⟩
    · replace h := h.2 c2
      refine vm_gp [(.iconst (-2), 0, 0, []), (.goto 0, 107, 0, [])] (pc1 := 107) (ls1 := [some (vm_r 0), some (vm_i v1), some (vm_i v2), some (vm_i v3), some (vm_i v4), some (vm_i v5), w6]) (st1 := [vm_i (-2)]) (m1 := m) (ob := true) (by decide +kernel) rfl rfl ?_
      exact vm_gr (r := some (vm_i (-2))) (i := (.ireturn, 1, 0, [])) (len := 1) (by decide +kernel) rfl rfl rfl ⟨_, rfl, h⟩
  · replace h := h.2 c1
    refine vm_gp [(.aload 0, 0, 0, []), (.getfield 2, 10, 12, [(77, 0)]), (.iload 1, 0, 0, []), (.iload 5, 0, 0, [])] (pc1 := 50) (ls1 := [some (vm_r 0), some (vm_i v1), some (vm_i v2), some (vm_i v3), some (vm_i v4), some (vm_i v5), w6]) (st1 := [vm_i v5, vm_i v1, vm_r 77]) (m1 := m) (ob := ((true && vm_is 0 10) && true)) (by decide +kernel) rfl (vm_u (vm_u rfl (by decide +kernel)) rfl) ?_
    refine vm_gc (g := 45) (na := 3) (av := [vm_r 77, vm_i v1, vm_i v5]) (rest := []) (i := (.invokevirtual 0, 45, 3, [])) (len := 3) (by decide +kernel) rfl rfl rfl (by decide +kernel) (by decide +kernel) rfl rfl (vm_u (vm_okh_v (c := 3) (by decide +kernel) (by decide +kernel)) (show vm_okn 45 3 0 0 0 3 = true by decide +kernel)) ?_
    refine vm_G.mono h ?_
    rintro _ m1 ⟨z1, rfl, h⟩
    show vm_G 132 53 [some (vm_r 0), some (vm_i v1), some (vm_i v2), some (vm_i v3), some (vm_i v4), some (vm_i v5), w6] [vm_i z1] m1 _
    refine vm_gp [(.istore 6, 0, 0, []), (.iload 6, 0, 0, []), (.iconst (-2), 0, 0, [])] (pc1 := 59) (ls1 := [some (vm_r 0), some (vm_i v1), some (vm_i v2), some (vm_i v3), some (vm_i v4), some (vm_i v5), some (vm_i z1)]) (st1 := [vm_i (-2), vm_i z1]) (m1 := m1) (ob := true) (by decide +kernel) rfl rfl ?_
    refine vm_gj (c := z1 = (-2)) (t := 87) (e := 62) (i := (.if_icmp .eq 0, 87, 0, [])) (len := 3) (st1 := []) (by decide +kernel) rfl rfl (fun c3 => ?_) (fun c3 => ?_)
    · replace h := h.1 c3
      obtain ⟨o7_0, h⟩ := h
      refine vm_gp [(.iinc 5 1, 0, 0, []), (.goto 0, 36, 0, [])] (pc1 := 36) (ls1 := [some (vm_r 0), some (vm_i v1), some (vm_i v2), some (vm_i v3), some (vm_i v4), some (vm_i (v5 + 1)), some (vm_i z1)]) (st1 := []) (m1 := m1) (ob := (true && decide (vm_32 (v5 + 1)))) (by decide +kernel) rfl (vm_t rfl o7_0) ?_
      exact h
    · replace h := h.2 c3
      refine vm_gp [(.iload 2, 0, 0, []), (.iconst (-2), 0, 0, [])] (pc1 := 65) (ls1 := [some (vm_r 0), some (vm_i v1), some (vm_i v2), some (vm_i v3), some (vm_i v4), some (vm_i v5), some (vm_i z1)]) (st1 := [vm_i (-2), vm_i v2]) (m1 := m1) (ob := true) (by decide +kernel) rfl rfl ?_
      refine vm_gj (c := ¬ v2 = (-2)) (t := 73) (e := 68) (i := (.if_icmp .ne 0, 73, 0, [])) (len := 3) (st1 := []) (by decide +kernel) rfl rfl (fun c4 => ?_) (fun c4 => ?_)
      · replace h := h.1 c4
        obtain ⟨o9_0, h⟩ := h
        refine vm_gp [(.iload 2, 0, 0, []), (.iload 6, 0, 0, []), (.invokestatic 0, 1001, 0, []), (.istore 2, 0, 0, []), (.iload 3, 0, 0, []), (.iload 6, 0, 0, []), (.invokestatic 0, 1000, 0, []), (.istore 3, 0, 0, []), (.iinc 5 1, 0, 0, []), (.goto 0, 36, 0, [])] (pc1 := 36) (ls1 := [some (vm_r 0), some (vm_i v1), some (vm_i (if z1 < v2 then z1 else v2)), some (vm_i (if v3 < z1 then z1 else v3)), some (vm_i v4), some (vm_i (v5 + 1)), some (vm_i z1)]) (st1 := []) (m1 := m1) (ob := (((true && decide (vm_cats [] ≤ 8)) && decide (vm_cats [] ≤ 8)) && decide (vm_32 (v5 + 1)))) (by decide +kernel) rfl (vm_t (vm_t (vm_t rfl (by decide : (0 : Nat) ≤ 8)) (by decide : (0 : Nat) ≤ 8)) o9_0) ?_
        exact h
      · replace h := h.2 c4
        obtain ⟨o10_0, h⟩ := h
        refine vm_gp [(.iload 6, 0, 0, []), (.goto 0, 79, 0, []), (.istore 2, 0, 0, []), (.iload 3, 0, 0, []), (.iload 6, 0, 0, []), (.invokestatic 0, 1000, 0, []), (.istore 3, 0, 0, []), (.iinc 5 1, 0, 0, []), (.goto 0, 36, 0, [])] (pc1 := 36) (ls1 := [some (vm_r 0), some (vm_i v1), some (vm_i z1), some (vm_i (if v3 < z1 then z1 else v3)), some (vm_i v4), some (vm_i (v5 + 1)), some (vm_i z1)]) (st1 := []) (m1 := m1) (ob := ((true && decide (vm_cats [] ≤ 8)) && decide (vm_32 (v5 + 1)))) (by decide +kernel) rfl (vm_t (vm_t rfl (by decide : (0 : Nat) ≤ 8)) o10_0) ?_
        exact h
abbrev ku10_layOut_0  (m : vm_M) (Q : vm_M → Prop) : Prop := vm_G 137 0 [some (vm_r 0)] [] m (vm_qv Q)
set_option maxRecDepth 20000 in
theorem ru10_layOut_0  {m : vm_M} {Q : vm_M → Prop}  (h :
    ((¬ (m 0 15) = 0 →
      Q m) ∧ (¬ ¬ (m 0 15) = 0 →
      (vm_C 97 [vm_r 65] m (vm_qv (fun m1 =>
        (vm_C 13 [vm_r 67, vm_r 9, vm_r 65, vm_i (m1 10 3), vm_i (m1 10 5)] m1 (vm_qv (fun m2 =>
          (vm_C 14 [vm_r 67, vm_i (m2 9 4)] m2 (vm_qv (fun m3 =>
            (vm_C 39 [vm_r 77] m3 (vm_qv (fun m4 =>
              Q (vm_st m4 0 15 1)))))))))))))))) : vm_C 137 [vm_r 0] m (vm_qv Q) := by
  show vm_G 137 0 [some (vm_r 0)] [] m (vm_qv Q)
  refine vm_gp [(.aload 0, 0, 0, []), (.getfield 0, 10, 15, [])] (pc1 := 4) (ls1 := [some (vm_r 0)]) (st1 := [vm_i (m 0 15)]) (m1 := m) (ob := (true && vm_is 0 10)) (by decide +kernel) rfl (vm_u rfl (by decide +kernel)) ?_
  refine vm_gj (c := ¬ (m 0 15) = 0) (t := 73) (e := 7) (i := (.ifCond .ne 0, 73, 0, [])) (len := 3) (st1 := []) (by decide +kernel) rfl rfl (fun c1 => ?_) (fun c1 => ?_)
  · replace h := h.1 c1
    exact vm_gr (r := none) (i := (.return_, 0, 0, [])) (len := 1) (by decide +kernel) rfl rfl rfl ⟨rfl, h⟩
  · replace h := h.2 c1
    refine vm_gp [(.aload 0, 0, 0, []), (.getfield 2, 10, 9, [(65, 0)])] (pc1 := 11) (ls1 := [some (vm_r 0)]) (st1 := [vm_r 65]) (m1 := m) (ob := ((true && vm_is 0 10) && true)) (by decide +kernel) rfl (vm_u (vm_u rfl (by decide +kernel)) rfl) ?_
    refine vm_gc (g := 97) (na := 1) (av := [vm_r 65]) (rest := []) (i := (.invokevirtual 0, 97, 1, [])) (len := 3) (by decide +kernel) rfl rfl rfl (by decide +kernel) (by decide +kernel) rfl rfl (vm_u (vm_okh_v (c := 9) (by decide +kernel) (by decide +kernel)) (show vm_okn 97 1 0 0 0 1 = true by decide +kernel)) ?_
    refine vm_G.mono h ?_
    rintro _ m1 ⟨rfl, h⟩
    show vm_G 137 14 [some (vm_r 0)] [] m1 _
    refine vm_gp [(.aload 0, 0, 0, []), (.getfield 2, 10, 10, [(67, 0)]), (.aload 0, 0, 0, []), (.getfield 2, 10, 3, [(9, 0)]), (.aload 0, 0, 0, []), (.getfield 2, 10, 9, [(65, 0)]), (.aload 0, 0, 0, []), (.getfield 2, 10, 3, [(9, 0)]), (.getfield 2, 4, 0, [(1, 1)]), (.iconst 3, 0, 0, []), (.iaload, 6, 0, []), (.aload 0, 0, 0, []), (.getfield 2, 10, 3, [(9, 0)]), (.getfield 2, 4, 0, [(1, 1)]), (.iconst 5, 0, 0, []), (.iaload, 6, 0, [])] (pc1 := 44) (ls1 := [some (vm_r 0)]) (st1 := [vm_i (m1 10 5), vm_i (m1 10 3), vm_r 65, vm_r 9, vm_r 67]) (m1 := m1) (ob := ((((((((((((((((((true && vm_is 0 10) && true) && vm_is 0 10) && true) && vm_is 0 10) && true) && vm_is 0 10) && true) && vm_is 9 4) && true) && vm_ar 10 100 6) && decide ((0 : Int) ≤ 3 ∧ (3 : Int) < 6)) && vm_is 0 10) && true) && vm_is 9 4) && true) && vm_ar 10 100 6) && decide ((0 : Int) ≤ 5 ∧ (5 : Int) < 6))) (by decide +kernel) rfl (vm_t (vm_u (vm_u (vm_u (vm_u (vm_u (vm_t (vm_u (vm_u (vm_u (vm_u (vm_u (vm_u (vm_u (vm_u (vm_u (vm_u (vm_u rfl (by decide +kernel)) rfl) (by decide +kernel)) rfl) (by decide +kernel)) rfl) (by decide +kernel)) rfl) (by decide +kernel)) rfl) (by decide +kernel)) (by decide)) (by decide +kernel)) rfl) (by decide +kernel)) rfl) (by decide +kernel)) (by decide)) ?_
    refine vm_gc (g := 13) (na := 5) (av := [vm_r 67, vm_r 9, vm_r 65, vm_i (m1 10 3), vm_i (m1 10 5)]) (rest := []) (i := (.invokevirtual 0, 13, 5, [])) (len := 3) (by decide +kernel) rfl rfl rfl (by decide +kernel) (by decide +kernel) rfl rfl (vm_u (vm_okh_v (c := 1) (by decide +kernel) (by decide +kernel)) (show vm_okn 13 5 0 0 0 5 = true by decide +kernel)) ?_
    refine vm_G.mono h ?_
    rintro _ m2 ⟨rfl, h⟩
    show vm_G 137 47 [some (vm_r 0)] [] m2 _
    refine vm_gp [(.aload 0, 0, 0, []), (.getfield 2, 10, 10, [(67, 0)]), (.aload 0, 0, 0, []), (.getfield 2, 10, 3, [(9, 0)]), (.getfield 0, 4, 4, [])] (pc1 := 58) (ls1 := [some (vm_r 0)]) (st1 := [vm_i (m2 9 4), vm_r 67]) (m1 := m2) (ob := (((((true && vm_is 0 10) && true) && vm_is 0 10) && true) && vm_is 9 4)) (by decide +kernel) rfl (vm_u (vm_u (vm_u (vm_u (vm_u rfl (by decide +kernel)) rfl) (by decide +kernel)) rfl) (by decide +kernel)) ?_
    refine vm_gc (g := 14) (na := 2) (av := [vm_r 67, vm_i (m2 9 4)]) (rest := []) (i := (.invokevirtual 0, 14, 2, [])) (len := 3) (by decide +kernel) rfl rfl rfl (by decide +kernel) (by decide +kernel) rfl rfl (vm_u (vm_okh_v (c := 1) (by decide +kernel) (by decide +kernel)) (show vm_okn 14 2 0 0 0 2 = true by decide +kernel)) ?_
    refine vm_G.mono h ?_
    rintro _ m3 ⟨rfl, h⟩
    show vm_G 137 61 [some (vm_r 0)] [] m3 _
    refine vm_gp [(.aload 0, 0, 0, []), (.getfield 2, 10, 12, [(77, 0)])] (pc1 := 65) (ls1 := [some (vm_r 0)]) (st1 := [vm_r 77]) (m1 := m3) (ob := ((true && vm_is 0 10) && true)) (by decide +kernel) rfl (vm_u (vm_u rfl (by decide +kernel)) rfl) ?_
    refine vm_gc (g := 39) (na := 1) (av := [vm_r 77]) (rest := []) (i := (.invokevirtual 0, 39, 1, [])) (len := 3) (by decide +kernel) rfl rfl rfl (by decide +kernel) (by decide +kernel) rfl rfl (vm_u (vm_okh_v (c := 3) (by decide +kernel) (by decide +kernel)) (show vm_okn 39 1 0 0 0 1 = true by decide +kernel)) ?_
    refine vm_G.mono h ?_
    rintro _ m4 ⟨rfl, h⟩
    show vm_G 137 68 [some (vm_r 0)] [] m4 _
    refine vm_gp [(.aload 0, 0, 0, []), (.iconst 1, 0, 0, []), (.putfield 3, 10, 15, [])] (pc1 := 73) (ls1 := [some (vm_r 0)]) (st1 := []) (m1 := (vm_st m4 0 15 1)) (ob := ((true && vm_is 0 10) && decide ((1 : Int) = 0 ∨ (1 : Int) = 1))) (by decide +kernel) rfl (vm_t (vm_u rfl (by decide +kernel)) (by decide)) ?_
    exact vm_gr (r := none) (i := (.return_, 0, 0, [])) (len := 1) (by decide +kernel) rfl rfl rfl ⟨rfl, h⟩
abbrev ku10_fits_0  (m : vm_M) (Q : Int → vm_M → Prop) : Prop := vm_G 138 0 [some (vm_r 0)] [] m (vm_qi Q)
set_option maxRecDepth 20000 in
theorem ru10_fits_0  {m : vm_M} {Q : Int → vm_M → Prop}  (h :
    (vm_C 137 [vm_r 0] m (vm_qv (fun m1 =>
      (vm_C 19 [vm_r 67, vm_i (m1 10 2), vm_i (m1 10 1)] m1 (vm_qi (fun z2 m2 =>
        ((z2 = 0 ∨ z2 = 1)) ∧
        Q z2 m2))))))) : vm_C 138 [vm_r 0] m (vm_qi Q) := by
  show vm_G 138 0 [some (vm_r 0)] [] m (vm_qi Q)
  refine vm_gp [(.aload 0, 0, 0, [])] (pc1 := 1) (ls1 := [some (vm_r 0)]) (st1 := [vm_r 0]) (m1 := m) (ob := true) (by decide +kernel) rfl rfl ?_
  refine vm_gc (g := 137) (na := 1) (av := [vm_r 0]) (rest := []) (i := (.invokevirtual 0, 137, 1, [])) (len := 3) (by decide +kernel) rfl rfl rfl (by decide +kernel) (by decide +kernel) rfl rfl (vm_u (vm_okh_v (c := 10) (by decide +kernel) (by decide +kernel)) (show vm_okn 137 1 0 0 0 1 = true by decide +kernel)) ?_
  refine vm_G.mono h ?_
  rintro _ m1 ⟨rfl, h⟩
  show vm_G 138 4 [some (vm_r 0)] [] m1 _
  refine vm_gp [(.aload 0, 0, 0, []), (.getfield 2, 10, 10, [(67, 0)]), (.aload 0, 0, 0, []), (.getfield 2, 10, 3, [(9, 0)]), (.getfield 2, 4, 0, [(1, 1)]), (.iconst 2, 0, 0, []), (.iaload, 6, 0, []), (.aload 0, 0, 0, []), (.getfield 2, 10, 3, [(9, 0)]), (.getfield 2, 4, 0, [(1, 1)]), (.iconst 1, 0, 0, []), (.iaload, 6, 0, [])] (pc1 := 26) (ls1 := [some (vm_r 0)]) (st1 := [vm_i (m1 10 1), vm_i (m1 10 2), vm_r 67]) (m1 := m1) (ob := ((((((((((((((true && vm_is 0 10) && true) && vm_is 0 10) && true) && vm_is 9 4) && true) && vm_ar 10 100 6) && decide ((0 : Int) ≤ 2 ∧ (2 : Int) < 6)) && vm_is 0 10) && true) && vm_is 9 4) && true) && vm_ar 10 100 6) && decide ((0 : Int) ≤ 1 ∧ (1 : Int) < 6))) (by decide +kernel) rfl (vm_t (vm_u (vm_u (vm_u (vm_u (vm_u (vm_t (vm_u (vm_u (vm_u (vm_u (vm_u (vm_u (vm_u rfl (by decide +kernel)) rfl) (by decide +kernel)) rfl) (by decide +kernel)) rfl) (by decide +kernel)) (by decide)) (by decide +kernel)) rfl) (by decide +kernel)) rfl) (by decide +kernel)) (by decide)) ?_
  refine vm_gc (g := 19) (na := 3) (av := [vm_r 67, vm_i (m1 10 2), vm_i (m1 10 1)]) (rest := []) (i := (.invokevirtual 0, 19, 3, [])) (len := 3) (by decide +kernel) rfl rfl rfl (by decide +kernel) (by decide +kernel) rfl rfl (vm_u (vm_okh_v (c := 1) (by decide +kernel) (by decide +kernel)) (show vm_okn 19 3 0 0 0 3 = true by decide +kernel)) ?_
  refine vm_G.mono h ?_
  rintro _ m2 ⟨z2, rfl, h⟩
  show vm_G 138 29 [some (vm_r 0)] [vm_i z2] m2 _
  exact vm_gr (r := some (vm_i z2)) (i := (.ireturn, 2, 0, [])) (len := 1) (by decide +kernel) rfl rfl (decide_eq_true h.1) ⟨_, rfl, h.2⟩
abbrev ku10_bestSize_0  (m : vm_M) (Q : Int → vm_M → Prop) : Prop := vm_G 139 0 [some (vm_r 0), none] [] m (vm_qi Q)
abbrev ku10_bestSize_10 (v1 : Int) (m : vm_M) (Q : Int → vm_M → Prop) : Prop := vm_G 139 10 [some (vm_r 0), some (vm_i v1)] [] m (vm_qi Q)
set_option maxRecDepth 20000 in
theorem ru10_bestSize_0  {m : vm_M} {Q : Int → vm_M → Prop}  (h :
    (vm_C 137 [vm_r 0] m (vm_qv (fun m1 =>
      ku10_bestSize_10 (m1 901 5) m1 Q)))) : vm_C 139 [vm_r 0] m (vm_qi Q) := by
  show vm_G 139 0 [some (vm_r 0), none] [] m (vm_qi Q)
  refine vm_gp [(.aload 0, 0, 0, [])] (pc1 := 1) (ls1 := [some (vm_r 0), none]) (st1 := [vm_r 0]) (m1 := m) (ob := true) (by decide +kernel) rfl rfl ?_
  refine vm_gc (g := 137) (na := 1) (av := [vm_r 0]) (rest := []) (i := (.invokevirtual 0, 137, 1, [])) (len := 3) (by decide +kernel) rfl rfl rfl (by decide +kernel) (by decide +kernel) rfl rfl (vm_u (vm_okh_v (c := 10) (by decide +kernel) (by decide +kernel)) (show vm_okn 137 1 0 0 0 1 = true by decide +kernel)) ?_
  refine vm_G.mono h ?_
  rintro _ m1 ⟨rfl, h⟩
  show vm_G 139 4 [some (vm_r 0), none] [] m1 _
  refine vm_gp [(.getstatic 0, 901, 0, []), (.iconst 5, 0, 0, []), (.iaload, 6, 1, []), (.istore 1, 0, 0, [])] (pc1 := 10) (ls1 := [some (vm_r 0), some (vm_i (m1 901 5))]) (st1 := []) (m1 := m1) (ob := ((true && decide (901 = 900 ∨ 901 = 901)) && decide ((0 : Int) ≤ 5 ∧ (5 : Int) < 6))) (by decide +kernel) rfl (vm_t (vm_t rfl (by decide)) (by decide)) ?_
  exact h
set_option maxRecDepth 20000 in
theorem ru10_bestSize_10 {v1 : Int} {m : vm_M} {Q : Int → vm_M → Prop}  (h :
    ((v1 < (m 900 5) →
      Q (-2) m) ∧ (¬ v1 < (m 900 5) →
      (vm_C 148 [vm_r 0, vm_i (m 10 3), vm_i v1] m (vm_qi (fun z1 m1 =>
        ((z1 = 0 →
          ((vm_32 (v1 + (-1)))) ∧
          ku10_bestSize_10 (v1 + (-1)) m1 Q) ∧ (¬ z1 = 0 →
          Q v1 m1)))))))) : ku10_bestSize_10 v1 m Q := by
  show vm_G 139 10 [some (vm_r 0), some (vm_i v1)] [] m (vm_qi Q)
  refine vm_gp [(.iload 1, 0, 0, []), (.getstatic 0, 900, 0, []), (.iconst 5, 0, 0, []), (.iaload, 6, 1, [])] (pc1 := 16) (ls1 := [some (vm_r 0), some (vm_i v1)]) (st1 := [vm_i (m 900 5), vm_i v1]) (m1 := m) (ob := ((true && decide (900 = 900 ∨ 900 = 901)) && decide ((0 : Int) ≤ 5 ∧ (5 : Int) < 6))) (by decide +kernel) rfl (vm_t (vm_t rfl (by decide)) (by decide)) ?_
  refine vm_gj (c := v1 < (m 900 5)) (t := 44) (e := 19) (i := (.if_icmp .lt 0, 44, 0, [])) (len := 3) (st1 := []) (by decide +kernel) rfl rfl (fun c1 => ?_) (fun c1 => ?_)
  · replace h := h.1 c1
    refine vm_gp [(.iconst (-2), 0, 0, [])] (pc1 := 46) (ls1 := [some (vm_r 0), some (vm_i v1)]) (st1 := [vm_i (-2)]) (m1 := m) (ob := true) (by decide +kernel) rfl rfl ?_
    exact vm_gr (r := some (vm_i (-2))) (i := (.ireturn, 1, 0, [])) (len := 1) (by decide +kernel) rfl rfl rfl ⟨_, rfl, h⟩
  · replace h := h.2 c1
    refine vm_gp [(.aload 0, 0, 0, []), (.aload 0, 0, 0, []), (.getfield 2, 10, 3, [(9, 0)]), (.getfield 2, 4, 0, [(1, 1)]), (.iconst 3, 0, 0, []), (.iaload, 6, 0, []), (.iload 1, 0, 0, [])] (pc1 := 30) (ls1 := [some (vm_r 0), some (vm_i v1)]) (st1 := [vm_i v1, vm_i (m 10 3), vm_r 0]) (m1 := m) (ob := ((((((true && vm_is 0 10) && true) && vm_is 9 4) && true) && vm_ar 10 100 6) && decide ((0 : Int) ≤ 3 ∧ (3 : Int) < 6))) (by decide +kernel) rfl (vm_t (vm_u (vm_u (vm_u (vm_u (vm_u rfl (by decide +kernel)) rfl) (by decide +kernel)) rfl) (by decide +kernel)) (by decide)) ?_
    refine vm_gc (g := 148) (na := 3) (av := [vm_r 0, vm_i (m 10 3), vm_i v1]) (rest := []) (i := (.invokevirtual 0, 148, 3, [])) (len := 3) (by decide +kernel) rfl rfl rfl (by decide +kernel) (by decide +kernel) rfl rfl (vm_u (vm_okh_v (c := 10) (by decide +kernel) (by decide +kernel)) (show vm_okn 148 3 0 0 0 3 = true by decide +kernel)) ?_
    refine vm_G.mono h ?_
    rintro _ m1 ⟨z1, rfl, h⟩
    show vm_G 139 33 [some (vm_r 0), some (vm_i v1)] [vm_i z1] m1 _
    refine vm_gj (c := z1 = 0) (t := 38) (e := 36) (i := (.ifCond .eq 0, 38, 0, [])) (len := 3) (st1 := []) (by decide +kernel) rfl rfl (fun c2 => ?_) (fun c2 => ?_)
    · replace h := h.1 c2
      obtain ⟨o5_0, h⟩ := h
      refine vm_gp [(.iinc 1 (-1), 0, 0, []), (.goto 0, 10, 0, [])] (pc1 := 10) (ls1 := [some (vm_r 0), some (vm_i (v1 + (-1)))]) (st1 := []) (m1 := m1) (ob := (true && decide (vm_32 (v1 + (-1))))) (by decide +kernel) rfl (vm_t rfl o5_0) ?_
      exact h
    · replace h := h.2 c2
      refine vm_gp [(.iload 1, 0, 0, [])] (pc1 := 37) (ls1 := [some (vm_r 0), some (vm_i v1)]) (st1 := [vm_i v1]) (m1 := m1) (ob := true) (by decide +kernel) rfl rfl ?_
      exact vm_gr (r := some (vm_i v1)) (i := (.ireturn, 1, 0, [])) (len := 1) (by decide +kernel) rfl rfl rfl ⟨_, rfl, h⟩
abbrev ku10_bestGap_0  (m : vm_M) (Q : Int → vm_M → Prop) : Prop := vm_G 140 0 [some (vm_r 0), none] [] m (vm_qi Q)
abbrev ku10_bestGap_12 (v1 : Int) (m : vm_M) (Q : Int → vm_M → Prop) : Prop := vm_G 140 12 [some (vm_r 0), some (vm_i v1)] [] m (vm_qi Q)
set_option maxRecDepth 20000 in
theorem ru10_bestGap_0  {m : vm_M} {Q : Int → vm_M → Prop}  (h :
    (vm_C 137 [vm_r 0] m (vm_qv (fun m1 =>
      ku10_bestGap_12 (m1 3 2) m1 Q)))) : vm_C 140 [vm_r 0] m (vm_qi Q) := by
  show vm_G 140 0 [some (vm_r 0), none] [] m (vm_qi Q)
  refine vm_gp [(.aload 0, 0, 0, [])] (pc1 := 1) (ls1 := [some (vm_r 0), none]) (st1 := [vm_r 0]) (m1 := m) (ob := true) (by decide +kernel) rfl rfl ?_
  refine vm_gc (g := 137) (na := 1) (av := [vm_r 0]) (rest := []) (i := (.invokevirtual 0, 137, 1, [])) (len := 3) (by decide +kernel) rfl rfl rfl (by decide +kernel) (by decide +kernel) rfl rfl (vm_u (vm_okh_v (c := 10) (by decide +kernel) (by decide +kernel)) (show vm_okn 137 1 0 0 0 1 = true by decide +kernel)) ?_
  refine vm_G.mono h ?_
  rintro _ m1 ⟨rfl, h⟩
  show vm_G 140 4 [some (vm_r 0), none] [] m1 _
  refine vm_gp [(.aload 0, 0, 0, []), (.getfield 2, 10, 1, [(3, 0)]), (.getfield 0, 0, 2, []), (.istore 1, 0, 0, [])] (pc1 := 12) (ls1 := [some (vm_r 0), some (vm_i (m1 3 2))]) (st1 := []) (m1 := m1) (ob := (((true && vm_is 0 10) && true) && vm_is 3 0)) (by decide +kernel) rfl (vm_u (vm_u (vm_u rfl (by decide +kernel)) rfl) (by decide +kernel)) ?_
  exact h
set_option maxRecDepth 20000 in
theorem ru10_bestGap_12 {v1 : Int} {m : vm_M} {Q : Int → vm_M → Prop}  (h :
    ((v1 < 0 →
      Q (-2) m) ∧ (¬ v1 < 0 →
      (vm_C 148 [vm_r 0, vm_i v1, vm_i (m 10 5)] m (vm_qi (fun z1 m1 =>
        ((z1 = 0 →
          ((vm_32 (v1 + (-1)))) ∧
          ku10_bestGap_12 (v1 + (-1)) m1 Q) ∧ (¬ z1 = 0 →
          Q v1 m1)))))))) : ku10_bestGap_12 v1 m Q := by
  show vm_G 140 12 [some (vm_r 0), some (vm_i v1)] [] m (vm_qi Q)
  refine vm_gp [(.iload 1, 0, 0, [])] (pc1 := 13) (ls1 := [some (vm_r 0), some (vm_i v1)]) (st1 := [vm_i v1]) (m1 := m) (ob := true) (by decide +kernel) rfl rfl ?_
  refine vm_gj (c := v1 < 0) (t := 41) (e := 16) (i := (.ifCond .lt 0, 41, 0, [])) (len := 3) (st1 := []) (by decide +kernel) rfl rfl (fun c1 => ?_) (fun c1 => ?_)
  · replace h := h.1 c1
    refine vm_gp [(.iconst (-2), 0, 0, [])] (pc1 := 43) (ls1 := [some (vm_r 0), some (vm_i v1)]) (st1 := [vm_i (-2)]) (m1 := m) (ob := true) (by decide +kernel) rfl rfl ?_
    exact vm_gr (r := some (vm_i (-2))) (i := (.ireturn, 1, 0, [])) (len := 1) (by decide +kernel) rfl rfl rfl ⟨_, rfl, h⟩
  · replace h := h.2 c1
    refine vm_gp [(.aload 0, 0, 0, []), (.iload 1, 0, 0, []), (.aload 0, 0, 0, []), (.getfield 2, 10, 3, [(9, 0)]), (.getfield 2, 4, 0, [(1, 1)]), (.iconst 5, 0, 0, []), (.iaload, 6, 0, [])] (pc1 := 27) (ls1 := [some (vm_r 0), some (vm_i v1)]) (st1 := [vm_i (m 10 5), vm_i v1, vm_r 0]) (m1 := m) (ob := ((((((true && vm_is 0 10) && true) && vm_is 9 4) && true) && vm_ar 10 100 6) && decide ((0 : Int) ≤ 5 ∧ (5 : Int) < 6))) (by decide +kernel) rfl (vm_t (vm_u (vm_u (vm_u (vm_u (vm_u rfl (by decide +kernel)) rfl) (by decide +kernel)) rfl) (by decide +kernel)) (by decide)) ?_
    refine vm_gc (g := 148) (na := 3) (av := [vm_r 0, vm_i v1, vm_i (m 10 5)]) (rest := []) (i := (.invokevirtual 0, 148, 3, [])) (len := 3) (by decide +kernel) rfl rfl rfl (by decide +kernel) (by decide +kernel) rfl rfl (vm_u (vm_okh_v (c := 10) (by decide +kernel) (by decide +kernel)) (show vm_okn 148 3 0 0 0 3 = true by decide +kernel)) ?_
    refine vm_G.mono h ?_
    rintro _ m1 ⟨z1, rfl, h⟩
    show vm_G 140 30 [some (vm_r 0), some (vm_i v1)] [vm_i z1] m1 _
    refine vm_gj (c := z1 = 0) (t := 35) (e := 33) (i := (.ifCond .eq 0, 35, 0, [])) (len := 3) (st1 := []) (by decide +kernel) rfl rfl (fun c2 => ?_) (fun c2 => ?_)
    · replace h := h.1 c2
      obtain ⟨o5_0, h⟩ := h
      refine vm_gp [(.iinc 1 (-1), 0, 0, []), (.goto 0, 12, 0, [])] (pc1 := 12) (ls1 := [some (vm_r 0), some (vm_i (v1 + (-1)))]) (st1 := []) (m1 := m1) (ob := (true && decide (vm_32 (v1 + (-1))))) (by decide +kernel) rfl (vm_t rfl o5_0) ?_
      exact h
    · replace h := h.2 c2
      refine vm_gp [(.iload 1, 0, 0, [])] (pc1 := 34) (ls1 := [some (vm_r 0), some (vm_i v1)]) (st1 := [vm_i v1]) (m1 := m1) (ob := true) (by decide +kernel) rfl rfl ?_
      exact vm_gr (r := some (vm_i v1)) (i := (.ireturn, 1, 0, [])) (len := 1) (by decide +kernel) rfl rfl rfl ⟨_, rfl, h⟩
abbrev ku10_leastInner_0 (v1 : Int) (m : vm_M) (Q : Int → vm_M → Prop) : Prop := vm_G 141 0 [some (vm_r 0), some (vm_i v1), none, none, none, none] [] m (vm_qi Q)
abbrev ku10_leastInner_61 (v1 : Int) (v2 : Int) (v3 : Int) (v4 : Int) (w5 : Option vm_V) (m : vm_M) (Q : Int → vm_M → Prop) : Prop := vm_G 141 61 [some (vm_r 0), some (vm_i v1), some (vm_i v2), some (vm_i v3), some (vm_i v4), w5] [] m (vm_qi Q)
set_option maxRecDepth 20000 in
theorem ru10_leastInner_0 {v1 : Int} {m : vm_M} {Q : Int → vm_M → Prop}  (h :
    ((v1 < 1 →
      Q (-1) m) ∧ (¬ v1 < 1 →
      ((v1 ≤ 12 →
        (vm_C 137 [vm_r 0] m (vm_qv (fun m1 =>
          (vm_C 149 [vm_r 0] m1 (vm_qv (fun m2 =>
            (((m2 9 6) = 0 →
              Q (-2) m2) ∧ (¬ (m2 9 6) = 0 →
              (vm_C 21 [vm_r 72, vm_i v1, vm_i (m2 901 0)] m2 (vm_qi (fun z3 m3 =>
                ((¬ z3 = 0 →
                  ku10_leastInner_61 v1 (m2 900 0) (m2 901 0) 0 none m3 Q) ∧ (¬ ¬ z3 = 0 →
                  Q (-2) m3)))))))))))))) ∧ (¬ v1 ≤ 12 →
        Q (-1) m))))) : vm_C 141 [vm_r 0, vm_i v1] m (vm_qi Q) := by
  show vm_G 141 0 [some (vm_r 0), some (vm_i v1), none, none, none, none] [] m (vm_qi Q)
  refine vm_gp [(.iload 1, 0, 0, []), (.iconst 1, 0, 0, [])] (pc1 := 2) (ls1 := [some (vm_r 0), some (vm_i v1), none, none, none, none]) (st1 := [vm_i 1, vm_i v1]) (m1 := m) (ob := true) (by decide +kernel) rfl rfl ?_
  refine vm_gj (c := v1 < 1) (t := 11) (e := 5) (i := (.if_icmp .lt 0, 11, 0, [])) (len := 3) (st1 := []) (by decide +kernel) rfl rfl (fun c1 => ?_) (fun c1 => ?_)
  · replace h := h.1 c1
    refine vm_gp [(.iconst (-1), 0, 0, [])] (pc1 := 12) (ls1 := [some (vm_r 0), some (vm_i v1), none, none, none, none]) (st1 := [vm_i (-1)]) (m1 := m) (ob := true) (by decide +kernel) rfl rfl ?_
    exact vm_gr (r := some (vm_i (-1))) (i := (.ireturn, 1, 0, [])) (len := 1) (by decide +kernel) rfl rfl rfl ⟨_, rfl, h⟩
  · replace h := h.2 c1
    refine vm_gp [(.iload 1, 0, 0, []), (.iconst 12, 0, 0, [])] (pc1 := 8) (ls1 := [some (vm_r 0), some (vm_i v1), none, none, none, none]) (st1 := [vm_i 12, vm_i v1]) (m1 := m) (ob := true) (by decide +kernel) rfl rfl ?_
    refine vm_gj (c := v1 ≤ 12) (t := 13) (e := 11) (i := (.if_icmp .le 0, 13, 0, [])) (len := 3) (st1 := []) (by decide +kernel) rfl rfl (fun c2 => ?_) (fun c2 => ?_)
    · replace h := h.1 c2
      refine vm_gp [(.aload 0, 0, 0, [])] (pc1 := 14) (ls1 := [some (vm_r 0), some (vm_i v1), none, none, none, none]) (st1 := [vm_r 0]) (m1 := m) (ob := true) (by decide +kernel) rfl rfl ?_
      refine vm_gc (g := 137) (na := 1) (av := [vm_r 0]) (rest := []) (i := (.invokevirtual 0, 137, 1, [])) (len := 3) (by decide +kernel) rfl rfl rfl (by decide +kernel) (by decide +kernel) rfl rfl (vm_u (vm_okh_v (c := 10) (by decide +kernel) (by decide +kernel)) (show vm_okn 137 1 0 0 0 1 = true by decide +kernel)) ?_
      refine vm_G.mono h ?_
      rintro _ m1 ⟨rfl, h⟩
      show vm_G 141 17 [some (vm_r 0), some (vm_i v1), none, none, none, none] [] m1 _
      refine vm_gp [(.aload 0, 0, 0, [])] (pc1 := 18) (ls1 := [some (vm_r 0), some (vm_i v1), none, none, none, none]) (st1 := [vm_r 0]) (m1 := m1) (ob := true) (by decide +kernel) rfl rfl ?_
      refine vm_gc (g := 149) (na := 1) (av := [vm_r 0]) (rest := []) (i := (.invokevirtual 0, 149, 1, [])) (len := 3) (by decide +kernel) rfl rfl rfl (by decide +kernel) (by decide +kernel) rfl rfl (vm_u (vm_okh_v (c := 10) (by decide +kernel) (by decide +kernel)) (show vm_okn 149 1 0 0 0 1 = true by decide +kernel)) ?_
      refine vm_G.mono h ?_
      rintro _ m2 ⟨rfl, h⟩
      show vm_G 141 21 [some (vm_r 0), some (vm_i v1), none, none, none, none] [] m2 _
      refine vm_gp [(.getstatic 0, 900, 0, []), (.iconst 0, 0, 0, []), (.iaload, 6, 1, []), (.istore 2, 0, 0, []), (.getstatic 0, 901, 0, []), (.iconst 0, 0, 0, []), (.iaload, 6, 1, []), (.istore 3, 0, 0, []), (.aload 0, 0, 0, []), (.getfield 2, 10, 3, [(9, 0)]), (.getfield 0, 4, 6, [])] (pc1 := 40) (ls1 := [some (vm_r 0), some (vm_i v1), some (vm_i (m2 900 0)), some (vm_i (m2 901 0)), none, none]) (st1 := [vm_i (m2 9 6)]) (m1 := m2) (ob := (((((((true && decide (900 = 900 ∨ 900 = 901)) && decide ((0 : Int) ≤ 0 ∧ (0 : Int) < 6)) && decide (901 = 900 ∨ 901 = 901)) && decide ((0 : Int) ≤ 0 ∧ (0 : Int) < 6)) && vm_is 0 10) && true) && vm_is 9 4)) (by decide +kernel) rfl (vm_u (vm_u (vm_u (vm_t (vm_t (vm_t (vm_t rfl (by decide)) (by decide)) (by decide)) (by decide)) (by decide +kernel)) rfl) (by decide +kernel)) ?_
      refine vm_gj (c := (m2 9 6) = 0) (t := 55) (e := 43) (i := (.ifCond .eq 0, 55, 0, [])) (len := 3) (st1 := []) (by decide +kernel) rfl rfl (fun c3 => ?_) (fun c3 => ?_)
      · replace h := h.1 c3
        refine vm_gp [(.iconst (-2), 0, 0, [])] (pc1 := 57) (ls1 := [some (vm_r 0), some (vm_i v1), some (vm_i (m2 900 0)), some (vm_i (m2 901 0)), none, none]) (st1 := [vm_i (-2)]) (m1 := m2) (ob := true) (by decide +kernel) rfl rfl ?_
        exact vm_gr (r := some (vm_i (-2))) (i := (.ireturn, 1, 0, [])) (len := 1) (by decide +kernel) rfl rfl rfl ⟨_, rfl, h⟩
      · replace h := h.2 c3
        refine vm_gp [(.aload 0, 0, 0, []), (.getfield 2, 10, 11, [(72, 0)]), (.iload 1, 0, 0, []), (.iload 3, 0, 0, [])] (pc1 := 49) (ls1 := [some (vm_r 0), some (vm_i v1), some (vm_i (m2 900 0)), some (vm_i (m2 901 0)), none, none]) (st1 := [vm_i (m2 901 0), vm_i v1, vm_r 72]) (m1 := m2) (ob := ((true && vm_is 0 10) && true)) (by decide +kernel) rfl (vm_u (vm_u rfl (by decide +kernel)) rfl) ?_
        refine vm_gc (g := 21) (na := 3) (av := [vm_r 72, vm_i v1, vm_i (m2 901 0)]) (rest := []) (i := (.invokevirtual 0, 21, 3, [])) (len := 3) (by decide +kernel) rfl rfl rfl (by decide +kernel) (by decide +kernel) rfl rfl (vm_u (vm_okh_v (c := 1) (by decide +kernel) (by decide +kernel)) (show vm_okn 21 3 0 0 0 3 = true by decide +kernel)) ?_
        refine vm_G.mono h ?_
        rintro _ m3 ⟨z3, rfl, h⟩
        show vm_G 141 52 [some (vm_r 0), some (vm_i v1), some (vm_i (m2 900 0)), some (vm_i (m2 901 0)), none, none] [vm_i z3] m3 _
        refine vm_gj (c := ¬ z3 = 0) (t := 58) (e := 55) (i := (.ifCond .ne 0, 58, 0, [])) (len := 3) (st1 := []) (by decide +kernel) rfl rfl (fun c4 => ?_) (fun c4 => ?_)
        · replace h := h.1 c4
          refine vm_gp [(.iconst 0, 0, 0, []), (.istore 4, 0, 0, [])] (pc1 := 61) (ls1 := [some (vm_r 0), some (vm_i v1), some (vm_i (m2 900 0)), some (vm_i (m2 901 0)), some (vm_i 0), none]) (st1 := []) (m1 := m3) (ob := true) (by decide +kernel) rfl rfl ?_
          exact h
        · replace h := h.2 c4
          refine vm_gp [(.iconst (-2), 0, 0, [])] (pc1 := 57) (ls1 := [some (vm_r 0), some (vm_i v1), some (vm_i (m2 900 0)), some (vm_i (m2 901 0)), none, none]) (st1 := [vm_i (-2)]) (m1 := m3) (ob := true) (by decide +kernel) rfl rfl ?_
          exact vm_gr (r := some (vm_i (-2))) (i := (.ireturn, 1, 0, [])) (len := 1) (by decide +kernel) rfl rfl rfl ⟨_, rfl, h⟩
    · replace h := h.2 c2
      refine vm_gp [(.iconst (-1), 0, 0, [])] (pc1 := 12) (ls1 := [some (vm_r 0), some (vm_i v1), none, none, none, none]) (st1 := [vm_i (-1)]) (m1 := m) (ob := true) (by decide +kernel) rfl rfl ?_
      exact vm_gr (r := some (vm_i (-1))) (i := (.ireturn, 1, 0, [])) (len := 1) (by decide +kernel) rfl rfl rfl ⟨_, rfl, h⟩
set_option maxRecDepth 20000 in
theorem ru10_leastInner_61 {v1 : Int} {v2 : Int} {v3 : Int} {v4 : Int} {w5 : Option vm_V} {m : vm_M} {Q : Int → vm_M → Prop}  (h :
    (((m 901 0) ≤ v4 →
      Q v3 m) ∧ (¬ (m 901 0) ≤ v4 →
      ((v3 ≤ v2 →
        Q v3 m) ∧ (¬ v3 ≤ v2 →
        ((vm_32 (v2 + v3)) ∧ (0 ≤ (v2 + v3) ∧ (0 : Int) < 2)) ∧
        (vm_C 21 [vm_r 72, vm_i v1, vm_i ((v2 + v3) / 2)] m (vm_qi (fun z1 m1 =>
          ((z1 = 0 →
            ((vm_32 (((v2 + v3) / 2) + 1)) ∧ (vm_32 (v4 + 1))) ∧
            ku10_leastInner_61 v1 (((v2 + v3) / 2) + 1) v3 (v4 + 1) (some (vm_i ((v2 + v3) / 2))) m1 Q) ∧ (¬ z1 = 0 →
            ((vm_32 (v4 + 1))) ∧
            ku10_leastInner_61 v1 v2 ((v2 + v3) / 2) (v4 + 1) (some (vm_i ((v2 + v3) / 2))) m1 Q)))))))))) : ku10_leastInner_61 v1 v2 v3 v4 w5 m Q := by
  show vm_G 141 61 [some (vm_r 0), some (vm_i v1), some (vm_i v2), some (vm_i v3), some (vm_i v4), w5] [] m (vm_qi Q)
  refine vm_gp [(.iload 4, 0, 0, []), (.getstatic 0, 901, 0, []), (.iconst 0, 0, 0, []), (.iaload, 6, 1, [])] (pc1 := 68) (ls1 := [some (vm_r 0), some (vm_i v1), some (vm_i v2), some (vm_i v3), some (vm_i v4), w5]) (st1 := [vm_i (m 901 0), vm_i v4]) (m1 := m) (ob := ((true && decide (901 = 900 ∨ 901 = 901)) && decide ((0 : Int) ≤ 0 ∧ (0 : Int) < 6))) (by decide +kernel) rfl (vm_t (vm_t rfl (by decide)) (by decide)) ?_
  refine vm_gj (c := (m 901 0) ≤ v4) (t := 113) (e := 71) (i := (.if_icmp .ge 0, 113, 0, [])) (len := 3) (st1 := []) (by decide +kernel) rfl rfl (fun c1 => ?_) (fun c1 => ?_)
  · replace h := h.1 c1
    refine vm_gp [(.iload 3, 0, 0, [])] (pc1 := 114) (ls1 := [some (vm_r 0), some (vm_i v1), some (vm_i v2), some (vm_i v3), some (vm_i v4), w5]) (st1 := [vm_i v3]) (m1 := m) (ob := true) (by decide +kernel) rfl rfl ?_
    exact vm_gr (r := some (vm_i v3)) (i := (.ireturn, 1, 0, [])) (len := 1) (by decide +kernel) rfl rfl rfl ⟨_, rfl, h⟩
  · replace h := h.2 c1
    refine vm_gp [(.iload 2, 0, 0, []), (.iload 3, 0, 0, [])] (pc1 := 73) (ls1 := [some (vm_r 0), some (vm_i v1), some (vm_i v2), some (vm_i v3), some (vm_i v4), w5]) (st1 := [vm_i v3, vm_i v2]) (m1 := m) (ob := true) (by decide +kernel) rfl rfl ?_
    refine vm_gj (c := v3 ≤ v2) (t := 113) (e := 76) (i := (.if_icmp .ge 0, 113, 0, [])) (len := 3) (st1 := []) (by decide +kernel) rfl rfl (fun c2 => ?_) (fun c2 => ?_)
    · replace h := h.1 c2
      refine vm_gp [(.iload 3, 0, 0, [])] (pc1 := 114) (ls1 := [some (vm_r 0), some (vm_i v1), some (vm_i v2), some (vm_i v3), some (vm_i v4), w5]) (st1 := [vm_i v3]) (m1 := m) (ob := true) (by decide +kernel) rfl rfl ?_
      exact vm_gr (r := some (vm_i v3)) (i := (.ireturn, 1, 0, [])) (len := 1) (by decide +kernel) rfl rfl rfl ⟨_, rfl, h⟩
    · replace h := h.2 c2
      obtain ⟨⟨o5_0, o5_1⟩, h⟩ := h
      refine vm_gp [(.iload 2, 0, 0, []), (.iload 3, 0, 0, []), (.iadd, 0, 0, []), (.iconst 2, 0, 0, []), (.idiv, 0, 0, []), (.istore 5, 0, 0, []), (.aload 0, 0, 0, []), (.getfield 2, 10, 11, [(72, 0)]), (.iload 1, 0, 0, []), (.iload 5, 0, 0, [])] (pc1 := 90) (ls1 := [some (vm_r 0), some (vm_i v1), some (vm_i v2), some (vm_i v3), some (vm_i v4), some (vm_i ((v2 + v3) / 2))]) (st1 := [vm_i ((v2 + v3) / 2), vm_i v1, vm_r 72]) (m1 := m) (ob := ((((true && decide (vm_32 (v2 + v3))) && decide (0 ≤ (v2 + v3) ∧ (0 : Int) < 2)) && vm_is 0 10) && true)) (by decide +kernel) rfl (vm_u (vm_u (vm_t (vm_t rfl o5_0) o5_1) (by decide +kernel)) rfl) ?_
      refine vm_gc (g := 21) (na := 3) (av := [vm_r 72, vm_i v1, vm_i ((v2 + v3) / 2)]) (rest := []) (i := (.invokevirtual 0, 21, 3, [])) (len := 3) (by decide +kernel) rfl rfl rfl (by decide +kernel) (by decide +kernel) rfl rfl (vm_u (vm_okh_v (c := 1) (by decide +kernel) (by decide +kernel)) (show vm_okn 21 3 0 0 0 3 = true by decide +kernel)) ?_
      refine vm_G.mono h ?_
      rintro _ m1 ⟨z1, rfl, h⟩
      show vm_G 141 93 [some (vm_r 0), some (vm_i v1), some (vm_i v2), some (vm_i v3), some (vm_i v4), some (vm_i ((v2 + v3) / 2))] [vm_i z1] m1 _
      refine vm_gj (c := z1 = 0) (t := 102) (e := 96) (i := (.ifCond .eq 0, 102, 0, [])) (len := 3) (st1 := []) (by decide +kernel) rfl rfl (fun c3 => ?_) (fun c3 => ?_)
      · replace h := h.1 c3
        obtain ⟨⟨o7_0, o7_1⟩, h⟩ := h
        refine vm_gp [(.iload 5, 0, 0, []), (.iconst 1, 0, 0, []), (.iadd, 0, 0, []), (.istore 2, 0, 0, []), (.iinc 4 1, 0, 0, []), (.goto 0, 61, 0, [])] (pc1 := 61) (ls1 := [some (vm_r 0), some (vm_i v1), some (vm_i (((v2 + v3) / 2) + 1)), some (vm_i v3), some (vm_i (v4 + 1)), some (vm_i ((v2 + v3) / 2))]) (st1 := []) (m1 := m1) (ob := ((true && decide (vm_32 (((v2 + v3) / 2) + 1))) && decide (vm_32 (v4 + 1)))) (by decide +kernel) rfl (vm_t (vm_t rfl o7_0) o7_1) ?_
        exact h
      · replace h := h.2 c3
        obtain ⟨o8_0, h⟩ := h
        refine vm_gp [(.iload 5, 0, 0, []), (.istore 3, 0, 0, []), (.goto 0, 107, 0, []), (.iinc 4 1, 0, 0, []), (.goto 0, 61, 0, [])] (pc1 := 61) (ls1 := [some (vm_r 0), some (vm_i v1), some (vm_i v2), some (vm_i ((v2 + v3) / 2)), some (vm_i (v4 + 1)), some (vm_i ((v2 + v3) / 2))]) (st1 := []) (m1 := m1) (ob := (true && decide (vm_32 (v4 + 1)))) (by decide +kernel) rfl (vm_t rfl o8_0) ?_
        exact h
abbrev ku10_height_0  (m : vm_M) (Q : Int → vm_M → Prop) : Prop := vm_G 142 0 [some (vm_r 0)] [] m (vm_qi Q)
set_option maxRecDepth 20000 in
theorem ru10_height_0  {m : vm_M} {Q : Int → vm_M → Prop}  (h :
    (vm_C 137 [vm_r 0] m (vm_qv (fun m1 =>
      (vm_C 18 [vm_r 67, vm_i (m1 10 2)] m1 (vm_qi (fun z2 m2 =>
        Q z2 m2))))))) : vm_C 142 [vm_r 0] m (vm_qi Q) := by
  show vm_G 142 0 [some (vm_r 0)] [] m (vm_qi Q)
  refine vm_gp [(.aload 0, 0, 0, [])] (pc1 := 1) (ls1 := [some (vm_r 0)]) (st1 := [vm_r 0]) (m1 := m) (ob := true) (by decide +kernel) rfl rfl ?_
  refine vm_gc (g := 137) (na := 1) (av := [vm_r 0]) (rest := []) (i := (.invokevirtual 0, 137, 1, [])) (len := 3) (by decide +kernel) rfl rfl rfl (by decide +kernel) (by decide +kernel) rfl rfl (vm_u (vm_okh_v (c := 10) (by decide +kernel) (by decide +kernel)) (show vm_okn 137 1 0 0 0 1 = true by decide +kernel)) ?_
  refine vm_G.mono h ?_
  rintro _ m1 ⟨rfl, h⟩
  show vm_G 142 4 [some (vm_r 0)] [] m1 _
  refine vm_gp [(.aload 0, 0, 0, []), (.getfield 2, 10, 10, [(67, 0)]), (.aload 0, 0, 0, []), (.getfield 2, 10, 3, [(9, 0)]), (.getfield 2, 4, 0, [(1, 1)]), (.iconst 2, 0, 0, []), (.iaload, 6, 0, [])] (pc1 := 17) (ls1 := [some (vm_r 0)]) (st1 := [vm_i (m1 10 2), vm_r 67]) (m1 := m1) (ob := ((((((((true && vm_is 0 10) && true) && vm_is 0 10) && true) && vm_is 9 4) && true) && vm_ar 10 100 6) && decide ((0 : Int) ≤ 2 ∧ (2 : Int) < 6))) (by decide +kernel) rfl (vm_t (vm_u (vm_u (vm_u (vm_u (vm_u (vm_u (vm_u rfl (by decide +kernel)) rfl) (by decide +kernel)) rfl) (by decide +kernel)) rfl) (by decide +kernel)) (by decide)) ?_
  refine vm_gc (g := 18) (na := 2) (av := [vm_r 67, vm_i (m1 10 2)]) (rest := []) (i := (.invokevirtual 0, 18, 2, [])) (len := 3) (by decide +kernel) rfl rfl rfl (by decide +kernel) (by decide +kernel) rfl rfl (vm_u (vm_okh_v (c := 1) (by decide +kernel) (by decide +kernel)) (show vm_okn 18 2 0 0 0 2 = true by decide +kernel)) ?_
  refine vm_G.mono h ?_
  rintro _ m2 ⟨z2, rfl, h⟩
  show vm_G 142 20 [some (vm_r 0)] [vm_i z2] m2 _
  exact vm_gr (r := some (vm_i z2)) (i := (.ireturn, 1, 0, [])) (len := 1) (by decide +kernel) rfl rfl rfl ⟨_, rfl, h⟩
abbrev ku10_cost_0  (m : vm_M) (Q : Int → vm_M → Prop) : Prop := vm_G 143 0 [some (vm_r 0)] [] m (vm_qi Q)
set_option maxRecDepth 20000 in
theorem ru10_cost_0  {m : vm_M} {Q : Int → vm_M → Prop}  (h :
    (vm_C 137 [vm_r 0] m (vm_qv (fun m1 =>
      ((¬ (m1 67 8) = 0 →
        (vm_C 20 [vm_r 67] m1 (vm_qi (fun z2 m2 =>
          Q z2 m2)))) ∧ (¬ ¬ (m1 67 8) = 0 →
        Q (-2) m1)))))) : vm_C 143 [vm_r 0] m (vm_qi Q) := by
  show vm_G 143 0 [some (vm_r 0)] [] m (vm_qi Q)
  refine vm_gp [(.aload 0, 0, 0, [])] (pc1 := 1) (ls1 := [some (vm_r 0)]) (st1 := [vm_r 0]) (m1 := m) (ob := true) (by decide +kernel) rfl rfl ?_
  refine vm_gc (g := 137) (na := 1) (av := [vm_r 0]) (rest := []) (i := (.invokevirtual 0, 137, 1, [])) (len := 3) (by decide +kernel) rfl rfl rfl (by decide +kernel) (by decide +kernel) rfl rfl (vm_u (vm_okh_v (c := 10) (by decide +kernel) (by decide +kernel)) (show vm_okn 137 1 0 0 0 1 = true by decide +kernel)) ?_
  refine vm_G.mono h ?_
  rintro _ m1 ⟨rfl, h⟩
  show vm_G 143 4 [some (vm_r 0)] [] m1 _
  refine vm_gp [(.aload 0, 0, 0, []), (.getfield 2, 10, 10, [(67, 0)]), (.getfield 0, 1, 8, [])] (pc1 := 11) (ls1 := [some (vm_r 0)]) (st1 := [vm_i (m1 67 8)]) (m1 := m1) (ob := (((true && vm_is 0 10) && true) && vm_is 67 1)) (by decide +kernel) rfl (vm_u (vm_u (vm_u rfl (by decide +kernel)) rfl) (by decide +kernel)) ?_
  refine vm_gj (c := ¬ (m1 67 8) = 0) (t := 19) (e := 14) (i := (.ifCond .ne 0, 19, 0, [])) (len := 3) (st1 := []) (by decide +kernel) rfl rfl (fun c1 => ?_) (fun c1 => ?_)
  · replace h := h.1 c1
    refine vm_gp [(.aload 0, 0, 0, []), (.getfield 2, 10, 10, [(67, 0)])] (pc1 := 23) (ls1 := [some (vm_r 0)]) (st1 := [vm_r 67]) (m1 := m1) (ob := ((true && vm_is 0 10) && true)) (by decide +kernel) rfl (vm_u (vm_u rfl (by decide +kernel)) rfl) ?_
    refine vm_gc (g := 20) (na := 1) (av := [vm_r 67]) (rest := []) (i := (.invokevirtual 0, 20, 1, [])) (len := 3) (by decide +kernel) rfl rfl rfl (by decide +kernel) (by decide +kernel) rfl rfl (vm_u (vm_okh_v (c := 1) (by decide +kernel) (by decide +kernel)) (show vm_okn 20 1 0 0 0 1 = true by decide +kernel)) ?_
    refine vm_G.mono h ?_
    rintro _ m2 ⟨z2, rfl, h⟩
    show vm_G 143 26 [some (vm_r 0)] [vm_i z2] m2 _
    exact vm_gr (r := some (vm_i z2)) (i := (.ireturn, 1, 0, [])) (len := 1) (by decide +kernel) rfl rfl rfl ⟨_, rfl, h⟩
  · replace h := h.2 c1
    refine vm_gp [(.iconst (-2), 0, 0, []), (.goto 0, 26, 0, [])] (pc1 := 26) (ls1 := [some (vm_r 0)]) (st1 := [vm_i (-2)]) (m1 := m1) (ob := true) (by decide +kernel) rfl rfl ?_
    exact vm_gr (r := some (vm_i (-2))) (i := (.ireturn, 1, 0, [])) (len := 1) (by decide +kernel) rfl rfl rfl ⟨_, rfl, h⟩
abbrev ku10_leastCost_0  (m : vm_M) (Q : Int → vm_M → Prop) : Prop := vm_G 144 0 [some (vm_r 0), none] [] m (vm_qi Q)
set_option maxRecDepth 20000 in
theorem ru10_leastCost_0  {m : vm_M} {Q : Int → vm_M → Prop}  (h :
    (vm_C 137 [vm_r 0] m (vm_qv (fun m1 =>
      (vm_C 149 [vm_r 0] m1 (vm_qv (fun m2 =>
        (vm_C 23 [vm_r 72] m2 (vm_qi (fun z3 m3 =>
          (((m3 9 6) = 0 →
            Q (-2) m3) ∧ (¬ (m3 9 6) = 0 →
            ((¬ z3 = (-1) →
              Q z3 m3) ∧ (¬ ¬ z3 = (-1) →
              Q (-2) m3)))))))))))))) : vm_C 144 [vm_r 0] m (vm_qi Q) := by
  show vm_G 144 0 [some (vm_r 0), none] [] m (vm_qi Q)
  refine vm_gp [(.aload 0, 0, 0, [])] (pc1 := 1) (ls1 := [some (vm_r 0), none]) (st1 := [vm_r 0]) (m1 := m) (ob := true) (by decide +kernel) rfl rfl ?_
  refine vm_gc (g := 137) (na := 1) (av := [vm_r 0]) (rest := []) (i := (.invokevirtual 0, 137, 1, [])) (len := 3) (by decide +kernel) rfl rfl rfl (by decide +kernel) (by decide +kernel) rfl rfl (vm_u (vm_okh_v (c := 10) (by decide +kernel) (by decide +kernel)) (show vm_okn 137 1 0 0 0 1 = true by decide +kernel)) ?_
  refine vm_G.mono h ?_
  rintro _ m1 ⟨rfl, h⟩
  show vm_G 144 4 [some (vm_r 0), none] [] m1 _
  refine vm_gp [(.aload 0, 0, 0, [])] (pc1 := 5) (ls1 := [some (vm_r 0), none]) (st1 := [vm_r 0]) (m1 := m1) (ob := true) (by decide +kernel) rfl rfl ?_
  refine vm_gc (g := 149) (na := 1) (av := [vm_r 0]) (rest := []) (i := (.invokevirtual 0, 149, 1, [])) (len := 3) (by decide +kernel) rfl rfl rfl (by decide +kernel) (by decide +kernel) rfl rfl (vm_u (vm_okh_v (c := 10) (by decide +kernel) (by decide +kernel)) (show vm_okn 149 1 0 0 0 1 = true by decide +kernel)) ?_
  refine vm_G.mono h ?_
  rintro _ m2 ⟨rfl, h⟩
  show vm_G 144 8 [some (vm_r 0), none] [] m2 _
  refine vm_gp [(.aload 0, 0, 0, []), (.getfield 2, 10, 11, [(72, 0)])] (pc1 := 12) (ls1 := [some (vm_r 0), none]) (st1 := [vm_r 72]) (m1 := m2) (ob := ((true && vm_is 0 10) && true)) (by decide +kernel) rfl (vm_u (vm_u rfl (by decide +kernel)) rfl) ?_
  refine vm_gc (g := 23) (na := 1) (av := [vm_r 72]) (rest := []) (i := (.invokevirtual 0, 23, 1, [])) (len := 3) (by decide +kernel) rfl rfl rfl (by decide +kernel) (by decide +kernel) rfl rfl (vm_u (vm_okh_v (c := 1) (by decide +kernel) (by decide +kernel)) (show vm_okn 23 1 0 0 0 1 = true by decide +kernel)) ?_
  refine vm_G.mono h ?_
  rintro _ m3 ⟨z3, rfl, h⟩
  show vm_G 144 15 [some (vm_r 0), none] [vm_i z3] m3 _
  refine vm_gp [(.istore 1, 0, 0, []), (.aload 0, 0, 0, []), (.getfield 2, 10, 3, [(9, 0)]), (.getfield 0, 4, 6, [])] (pc1 := 23) (ls1 := [some (vm_r 0), some (vm_i z3)]) (st1 := [vm_i (m3 9 6)]) (m1 := m3) (ob := (((true && vm_is 0 10) && true) && vm_is 9 4)) (by decide +kernel) rfl (vm_u (vm_u (vm_u rfl (by decide +kernel)) rfl) (by decide +kernel)) ?_
  refine vm_gj (c := (m3 9 6) = 0) (t := 31) (e := 26) (i := (.ifCond .eq 0, 31, 0, [])) (len := 3) (st1 := []) (by decide +kernel) rfl rfl (fun c1 => ?_) (fun c1 => ?_)
  · replace h := h.1 c1
    refine vm_gp [(.iconst (-2), 0, 0, []), (.goto 0, 37, 0, [])] (pc1 := 37) (ls1 := [some (vm_r 0), some (vm_i z3)]) (st1 := [vm_i (-2)]) (m1 := m3) (ob := true) (by decide +kernel) rfl rfl ?_
    exact vm_gr (r := some (vm_i (-2))) (i := (.ireturn, 1, 0, [])) (len := 1) (by decide +kernel) rfl rfl rfl ⟨_, rfl, h⟩
  · replace h := h.2 c1
    refine vm_gp [(.iload 1, 0, 0, []), (.iconst (-1), 0, 0, [])] (pc1 := 28) (ls1 := [some (vm_r 0), some (vm_i z3)]) (st1 := [vm_i (-1), vm_i z3]) (m1 := m3) (ob := true) (by decide +kernel) rfl rfl ?_
    refine vm_gj (c := ¬ z3 = (-1)) (t := 36) (e := 31) (i := (.if_icmp .ne 0, 36, 0, [])) (len := 3) (st1 := []) (by decide +kernel) rfl rfl (fun c2 => ?_) (fun c2 => ?_)
    · replace h := h.1 c2
      refine vm_gp [(.iload 1, 0, 0, [])] (pc1 := 37) (ls1 := [some (vm_r 0), some (vm_i z3)]) (st1 := [vm_i z3]) (m1 := m3) (ob := true) (by decide +kernel) rfl rfl ?_
      exact vm_gr (r := some (vm_i z3)) (i := (.ireturn, 1, 0, [])) (len := 1) (by decide +kernel) rfl rfl rfl ⟨_, rfl, h⟩
    · replace h := h.2 c2
      refine vm_gp [(.iconst (-2), 0, 0, []), (.goto 0, 37, 0, [])] (pc1 := 37) (ls1 := [some (vm_r 0), some (vm_i z3)]) (st1 := [vm_i (-2)]) (m1 := m3) (ob := true) (by decide +kernel) rfl rfl ?_
      exact vm_gr (r := some (vm_i (-2))) (i := (.ireturn, 1, 0, [])) (len := 1) (by decide +kernel) rfl rfl rfl ⟨_, rfl, h⟩
abbrev ku10_fillGap_0 (v1 : Int) (m : vm_M) (Q : Int → vm_M → Prop) : Prop := vm_G 145 0 [some (vm_r 0), some (vm_i v1)] [] m (vm_qi Q)
set_option maxRecDepth 20000 in
theorem ru10_fillGap_0 {v1 : Int} {m : vm_M} {Q : Int → vm_M → Prop}  (h :
    (vm_C 137 [vm_r 0] m (vm_qv (fun m1 =>
      (vm_C 15 [vm_r 67, vm_i v1] m1 (vm_qi (fun z2 m2 =>
        ((¬ z2 = 0 →
          (vm_C 40 [vm_r 77, vm_i v1] m2 (vm_qi (fun z3 m3 =>
            Q z3 m3)))) ∧ (¬ ¬ z2 = 0 →
          Q (-1) m2))))))))) : vm_C 145 [vm_r 0, vm_i v1] m (vm_qi Q) := by
  show vm_G 145 0 [some (vm_r 0), some (vm_i v1)] [] m (vm_qi Q)
  refine vm_gp [(.aload 0, 0, 0, [])] (pc1 := 1) (ls1 := [some (vm_r 0), some (vm_i v1)]) (st1 := [vm_r 0]) (m1 := m) (ob := true) (by decide +kernel) rfl rfl ?_
  refine vm_gc (g := 137) (na := 1) (av := [vm_r 0]) (rest := []) (i := (.invokevirtual 0, 137, 1, [])) (len := 3) (by decide +kernel) rfl rfl rfl (by decide +kernel) (by decide +kernel) rfl rfl (vm_u (vm_okh_v (c := 10) (by decide +kernel) (by decide +kernel)) (show vm_okn 137 1 0 0 0 1 = true by decide +kernel)) ?_
  refine vm_G.mono h ?_
  rintro _ m1 ⟨rfl, h⟩
  show vm_G 145 4 [some (vm_r 0), some (vm_i v1)] [] m1 _
  refine vm_gp [(.aload 0, 0, 0, []), (.getfield 2, 10, 10, [(67, 0)]), (.iload 1, 0, 0, [])] (pc1 := 9) (ls1 := [some (vm_r 0), some (vm_i v1)]) (st1 := [vm_i v1, vm_r 67]) (m1 := m1) (ob := ((true && vm_is 0 10) && true)) (by decide +kernel) rfl (vm_u (vm_u rfl (by decide +kernel)) rfl) ?_
  refine vm_gc (g := 15) (na := 2) (av := [vm_r 67, vm_i v1]) (rest := []) (i := (.invokevirtual 0, 15, 2, [])) (len := 3) (by decide +kernel) rfl rfl rfl (by decide +kernel) (by decide +kernel) rfl rfl (vm_u (vm_okh_v (c := 1) (by decide +kernel) (by decide +kernel)) (show vm_okn 15 2 0 0 0 2 = true by decide +kernel)) ?_
  refine vm_G.mono h ?_
  rintro _ m2 ⟨z2, rfl, h⟩
  show vm_G 145 12 [some (vm_r 0), some (vm_i v1)] [vm_i z2] m2 _
  refine vm_gj (c := ¬ z2 = 0) (t := 17) (e := 15) (i := (.ifCond .ne 0, 17, 0, [])) (len := 3) (st1 := []) (by decide +kernel) rfl rfl (fun c1 => ?_) (fun c1 => ?_)
  · replace h := h.1 c1
    refine vm_gp [(.aload 0, 0, 0, []), (.getfield 2, 10, 12, [(77, 0)]), (.iload 1, 0, 0, [])] (pc1 := 22) (ls1 := [some (vm_r 0), some (vm_i v1)]) (st1 := [vm_i v1, vm_r 77]) (m1 := m2) (ob := ((true && vm_is 0 10) && true)) (by decide +kernel) rfl (vm_u (vm_u rfl (by decide +kernel)) rfl) ?_
    refine vm_gc (g := 40) (na := 2) (av := [vm_r 77, vm_i v1]) (rest := []) (i := (.invokevirtual 0, 40, 2, [])) (len := 3) (by decide +kernel) rfl rfl rfl (by decide +kernel) (by decide +kernel) rfl rfl (vm_u (vm_okh_v (c := 3) (by decide +kernel) (by decide +kernel)) (show vm_okn 40 2 0 0 0 2 = true by decide +kernel)) ?_
    refine vm_G.mono h ?_
    rintro _ m3 ⟨z3, rfl, h⟩
    show vm_G 145 25 [some (vm_r 0), some (vm_i v1)] [vm_i z3] m3 _
    exact vm_gr (r := some (vm_i z3)) (i := (.ireturn, 1, 0, [])) (len := 1) (by decide +kernel) rfl rfl rfl ⟨_, rfl, h⟩
  · replace h := h.2 c1
    refine vm_gp [(.iconst (-1), 0, 0, [])] (pc1 := 16) (ls1 := [some (vm_r 0), some (vm_i v1)]) (st1 := [vm_i (-1)]) (m1 := m2) (ob := true) (by decide +kernel) rfl rfl ?_
    exact vm_gr (r := some (vm_i (-1))) (i := (.ireturn, 1, 0, [])) (len := 1) (by decide +kernel) rfl rfl rfl ⟨_, rfl, h⟩
abbrev ku10_bestSwap_0  (m : vm_M) (Q : Int → vm_M → Prop) : Prop := vm_G 146 0 [some (vm_r 0), none, none, none, none, none] [] m (vm_qi Q)
abbrev ku10_bestSwap_34 (v1 : Int) (v2 : Int) (v3 : Int) (w4 : Option vm_V) (w5 : Option vm_V) (m : vm_M) (Q : Int → vm_M → Prop) : Prop := vm_G 146 34 [some (vm_r 0), some (vm_i v1), some (vm_i v2), some (vm_i v3), w4, w5] [] m (vm_qi Q)
abbrev ku10_bestSwap_50 (v1 : Int) (v2 : Int) (v3 : Int) (v4 : Int) (w5 : Option vm_V) (m : vm_M) (Q : Int → vm_M → Prop) : Prop := vm_G 146 50 [some (vm_r 0), some (vm_i v1), some (vm_i v2), some (vm_i v3), some (vm_i v4), w5] [] m (vm_qi Q)
set_option maxRecDepth 20000 in
theorem ru10_bestSwap_0  {m : vm_M} {Q : Int → vm_M → Prop}  (h :
    (vm_C 137 [vm_r 0] m (vm_qv (fun m1 =>
      ((¬ (m1 67 8) = 0 →
        (vm_C 149 [vm_r 0] m1 (vm_qv (fun m2 =>
          (vm_C 20 [vm_r 67] m2 (vm_qi (fun z3 m3 =>
            ku10_bestSwap_34 (-2) z3 0 none none m3 Q))))))) ∧ (¬ ¬ (m1 67 8) = 0 →
        Q (-2) m1)))))) : vm_C 146 [vm_r 0] m (vm_qi Q) := by
  show vm_G 146 0 [some (vm_r 0), none, none, none, none, none] [] m (vm_qi Q)
  refine vm_gp [(.aload 0, 0, 0, [])] (pc1 := 1) (ls1 := [some (vm_r 0), none, none, none, none, none]) (st1 := [vm_r 0]) (m1 := m) (ob := true) (by decide +kernel) rfl rfl ?_
  refine vm_gc (g := 137) (na := 1) (av := [vm_r 0]) (rest := []) (i := (.invokevirtual 0, 137, 1, [])) (len := 3) (by decide +kernel) rfl rfl rfl (by decide +kernel) (by decide +kernel) rfl rfl (vm_u (vm_okh_v (c := 10) (by decide +kernel) (by decide +kernel)) (show vm_okn 137 1 0 0 0 1 = true by decide +kernel)) ?_
  refine vm_G.mono h ?_
  rintro _ m1 ⟨rfl, h⟩
  show vm_G 146 4 [some (vm_r 0), none, none, none, none, none] [] m1 _
  refine vm_gp [(.aload 0, 0, 0, []), (.getfield 2, 10, 10, [(67, 0)]), (.getfield 0, 1, 8, [])] (pc1 := 11) (ls1 := [some (vm_r 0), none, none, none, none, none]) (st1 := [vm_i (m1 67 8)]) (m1 := m1) (ob := (((true && vm_is 0 10) && true) && vm_is 67 1)) (by decide +kernel) rfl (vm_u (vm_u (vm_u rfl (by decide +kernel)) rfl) (by decide +kernel)) ?_
  refine vm_gj (c := ¬ (m1 67 8) = 0) (t := 17) (e := 14) (i := (.ifCond .ne 0, 17, 0, [])) (len := 3) (st1 := []) (by decide +kernel) rfl rfl (fun c1 => ?_) (fun c1 => ?_)
  · replace h := h.1 c1
    refine vm_gp [(.aload 0, 0, 0, [])] (pc1 := 18) (ls1 := [some (vm_r 0), none, none, none, none, none]) (st1 := [vm_r 0]) (m1 := m1) (ob := true) (by decide +kernel) rfl rfl ?_
    refine vm_gc (g := 149) (na := 1) (av := [vm_r 0]) (rest := []) (i := (.invokevirtual 0, 149, 1, [])) (len := 3) (by decide +kernel) rfl rfl rfl (by decide +kernel) (by decide +kernel) rfl rfl (vm_u (vm_okh_v (c := 10) (by decide +kernel) (by decide +kernel)) (show vm_okn 149 1 0 0 0 1 = true by decide +kernel)) ?_
    refine vm_G.mono h ?_
    rintro _ m2 ⟨rfl, h⟩
    show vm_G 146 21 [some (vm_r 0), none, none, none, none, none] [] m2 _
    refine vm_gp [(.iconst (-2), 0, 0, []), (.istore 1, 0, 0, []), (.aload 0, 0, 0, []), (.getfield 2, 10, 10, [(67, 0)])] (pc1 := 28) (ls1 := [some (vm_r 0), some (vm_i (-2)), none, none, none, none]) (st1 := [vm_r 67]) (m1 := m2) (ob := ((true && vm_is 0 10) && true)) (by decide +kernel) rfl (vm_u (vm_u rfl (by decide +kernel)) rfl) ?_
    refine vm_gc (g := 20) (na := 1) (av := [vm_r 67]) (rest := []) (i := (.invokevirtual 0, 20, 1, [])) (len := 3) (by decide +kernel) rfl rfl rfl (by decide +kernel) (by decide +kernel) rfl rfl (vm_u (vm_okh_v (c := 1) (by decide +kernel) (by decide +kernel)) (show vm_okn 20 1 0 0 0 1 = true by decide +kernel)) ?_
    refine vm_G.mono h ?_
    rintro _ m3 ⟨z3, rfl, h⟩
    show vm_G 146 31 [some (vm_r 0), some (vm_i (-2)), none, none, none, none] [vm_i z3] m3 _
    refine vm_gp [(.istore 2, 0, 0, []), (.iconst 0, 0, 0, []), (.istore 3, 0, 0, [])] (pc1 := 34) (ls1 := [some (vm_r 0), some (vm_i (-2)), some (vm_i z3), some (vm_i 0), none, none]) (st1 := []) (m1 := m3) (ob := true) (by decide +kernel) rfl rfl ?_
    exact h
  · replace h := h.2 c1
    refine vm_gp [(.iconst (-2), 0, 0, [])] (pc1 := 16) (ls1 := [some (vm_r 0), none, none, none, none, none]) (st1 := [vm_i (-2)]) (m1 := m1) (ob := true) (by decide +kernel) rfl rfl ?_
    exact vm_gr (r := some (vm_i (-2))) (i := (.ireturn, 1, 0, [])) (len := 1) (by decide +kernel) rfl rfl rfl ⟨_, rfl, h⟩
set_option maxRecDepth 20000 in
theorem ru10_bestSwap_34 {v1 : Int} {v2 : Int} {v3 : Int} {w4 : Option vm_V} {w5 : Option vm_V} {m : vm_M} {Q : Int → vm_M → Prop}  (h :
    (((m 9 6) ≤ v3 →
      Q v1 m) ∧ (¬ (m 9 6) ≤ v3 →
      ((vm_32 (v3 + 1))) ∧
      ku10_bestSwap_50 v1 v2 v3 (v3 + 1) w5 m Q))) : ku10_bestSwap_34 v1 v2 v3 w4 w5 m Q := by
  show vm_G 146 34 [some (vm_r 0), some (vm_i v1), some (vm_i v2), some (vm_i v3), w4, w5] [] m (vm_qi Q)
  refine vm_gp [(.iload 3, 0, 0, []), (.aload 0, 0, 0, []), (.getfield 2, 10, 3, [(9, 0)]), (.getfield 0, 4, 6, [])] (pc1 := 42) (ls1 := [some (vm_r 0), some (vm_i v1), some (vm_i v2), some (vm_i v3), w4, w5]) (st1 := [vm_i (m 9 6), vm_i v3]) (m1 := m) (ob := (((true && vm_is 0 10) && true) && vm_is 9 4)) (by decide +kernel) rfl (vm_u (vm_u (vm_u rfl (by decide +kernel)) rfl) (by decide +kernel)) ?_
  refine vm_gj (c := (m 9 6) ≤ v3) (t := 116) (e := 45) (i := (.if_icmp .ge 0, 116, 0, [])) (len := 3) (st1 := []) (by decide +kernel) rfl rfl (fun c1 => ?_) (fun c1 => ?_)
  · replace h := h.1 c1
    refine vm_gp [(.iload 1, 0, 0, [])] (pc1 := 117) (ls1 := [some (vm_r 0), some (vm_i v1), some (vm_i v2), some (vm_i v3), w4, w5]) (st1 := [vm_i v1]) (m1 := m) (ob := true) (by decide +kernel) rfl rfl ?_
    exact vm_gr (r := some (vm_i v1)) (i := (.ireturn, 1, 0, [])) (len := 1) (by decide +kernel) rfl rfl rfl ⟨_, rfl, h⟩
  · replace h := h.2 c1
    obtain ⟨o3_0, h⟩ := h
    refine vm_gp [(.iload 3, 0, 0, []), (.iconst 1, 0, 0, []), (.iadd, 0, 0, []), (.istore 4, 0, 0, [])] (pc1 := 50) (ls1 := [some (vm_r 0), some (vm_i v1), some (vm_i v2), some (vm_i v3), some (vm_i (v3 + 1)), w5]) (st1 := []) (m1 := m) (ob := (true && decide (vm_32 (v3 + 1)))) (by decide +kernel) rfl (vm_t rfl o3_0) ?_
    exact h
set_option maxRecDepth 20000 in
theorem ru10_bestSwap_50 {v1 : Int} {v2 : Int} {v3 : Int} {v4 : Int} {w5 : Option vm_V} {m : vm_M} {Q : Int → vm_M → Prop}  (h :
    (((m 9 6) ≤ v4 →
      ((vm_32 (v3 + 1))) ∧
      ku10_bestSwap_34 v1 v2 (v3 + 1) (some (vm_i v4)) w5 m Q) ∧ (¬ (m 9 6) ≤ v4 →
      (vm_C 22 [vm_r 72, vm_i v3, vm_i v4, vm_i (m 9 4)] m (vm_qi (fun z1 m1 =>
        ((z1 = (-1) →
          ((vm_32 (v4 + 1))) ∧
          ku10_bestSwap_50 v1 v2 v3 (v4 + 1) (some (vm_i z1)) m1 Q) ∧ (¬ z1 = (-1) →
          ((v2 ≤ z1 →
            ((vm_32 (v4 + 1))) ∧
            ku10_bestSwap_50 v1 v2 v3 (v4 + 1) (some (vm_i z1)) m1 Q) ∧ (¬ v2 ≤ z1 →
            ((vm_32 (100 * v3)) ∧ (vm_32 ((100 * v3) + v4)) ∧ (vm_32 (v4 + 1))) ∧
            ku10_bestSwap_50 ((100 * v3) + v4) z1 v3 (v4 + 1) (some (vm_i z1)) m1 Q)))))))))) : ku10_bestSwap_50 v1 v2 v3 v4 w5 m Q := by
  show vm_G 146 50 [some (vm_r 0), some (vm_i v1), some (vm_i v2), some (vm_i v3), some (vm_i v4), w5] [] m (vm_qi Q)
  refine vm_gp [(.iload 4, 0, 0, []), (.aload 0, 0, 0, []), (.getfield 2, 10, 3, [(9, 0)]), (.getfield 0, 4, 6, [])] (pc1 := 59) (ls1 := [some (vm_r 0), some (vm_i v1), some (vm_i v2), some (vm_i v3), some (vm_i v4), w5]) (st1 := [vm_i (m 9 6), vm_i v4]) (m1 := m) (ob := (((true && vm_is 0 10) && true) && vm_is 9 4)) (by decide +kernel) rfl (vm_u (vm_u (vm_u rfl (by decide +kernel)) rfl) (by decide +kernel)) ?_
  refine vm_gj (c := (m 9 6) ≤ v4) (t := 110) (e := 62) (i := (.if_icmp .ge 0, 110, 0, [])) (len := 3) (st1 := []) (by decide +kernel) rfl rfl (fun c1 => ?_) (fun c1 => ?_)
  · replace h := h.1 c1
    obtain ⟨o2_0, h⟩ := h
    refine vm_gp [(.iinc 3 1, 0, 0, []), (.goto 0, 34, 0, [])] (pc1 := 34) (ls1 := [some (vm_r 0), some (vm_i v1), some (vm_i v2), some (vm_i (v3 + 1)), some (vm_i v4), w5]) (st1 := []) (m1 := m) (ob := (true && decide (vm_32 (v3 + 1)))) (by decide +kernel) rfl (vm_t rfl o2_0) ?_
    exact h
  · replace h := h.2 c1
    refine vm_gp [(.aload 0, 0, 0, []), (.getfield 2, 10, 11, [(72, 0)]), (.iload 3, 0, 0, []), (.iload 4, 0, 0, []), (.aload 0, 0, 0, []), (.getfield 2, 10, 3, [(9, 0)]), (.getfield 0, 4, 4, [])] (pc1 := 76) (ls1 := [some (vm_r 0), some (vm_i v1), some (vm_i v2), some (vm_i v3), some (vm_i v4), w5]) (st1 := [vm_i (m 9 4), vm_i v4, vm_i v3, vm_r 72]) (m1 := m) (ob := (((((true && vm_is 0 10) && true) && vm_is 0 10) && true) && vm_is 9 4)) (by decide +kernel) rfl (vm_u (vm_u (vm_u (vm_u (vm_u rfl (by decide +kernel)) rfl) (by decide +kernel)) rfl) (by decide +kernel)) ?_
    refine vm_gc (g := 22) (na := 4) (av := [vm_r 72, vm_i v3, vm_i v4, vm_i (m 9 4)]) (rest := []) (i := (.invokevirtual 0, 22, 4, [])) (len := 3) (by decide +kernel) rfl rfl rfl (by decide +kernel) (by decide +kernel) rfl rfl (vm_u (vm_okh_v (c := 1) (by decide +kernel) (by decide +kernel)) (show vm_okn 22 4 0 0 0 4 = true by decide +kernel)) ?_
    refine vm_G.mono h ?_
    rintro _ m1 ⟨z1, rfl, h⟩
    show vm_G 146 79 [some (vm_r 0), some (vm_i v1), some (vm_i v2), some (vm_i v3), some (vm_i v4), w5] [vm_i z1] m1 _
    refine vm_gp [(.istore 5, 0, 0, []), (.iload 5, 0, 0, []), (.iconst (-1), 0, 0, [])] (pc1 := 84) (ls1 := [some (vm_r 0), some (vm_i v1), some (vm_i v2), some (vm_i v3), some (vm_i v4), some (vm_i z1)]) (st1 := [vm_i (-1), vm_i z1]) (m1 := m1) (ob := true) (by decide +kernel) rfl rfl ?_
    refine vm_gj (c := z1 = (-1)) (t := 104) (e := 87) (i := (.if_icmp .eq 0, 104, 0, [])) (len := 3) (st1 := []) (by decide +kernel) rfl rfl (fun c2 => ?_) (fun c2 => ?_)
    · replace h := h.1 c2
      obtain ⟨o5_0, h⟩ := h
      refine vm_gp [(.iinc 4 1, 0, 0, []), (.goto 0, 50, 0, [])] (pc1 := 50) (ls1 := [some (vm_r 0), some (vm_i v1), some (vm_i v2), some (vm_i v3), some (vm_i (v4 + 1)), some (vm_i z1)]) (st1 := []) (m1 := m1) (ob := (true && decide (vm_32 (v4 + 1)))) (by decide +kernel) rfl (vm_t rfl o5_0) ?_
      exact h
    · replace h := h.2 c2
      refine vm_gp [(.iload 5, 0, 0, []), (.iload 2, 0, 0, [])] (pc1 := 90) (ls1 := [some (vm_r 0), some (vm_i v1), some (vm_i v2), some (vm_i v3), some (vm_i v4), some (vm_i z1)]) (st1 := [vm_i v2, vm_i z1]) (m1 := m1) (ob := true) (by decide +kernel) rfl rfl ?_
      refine vm_gj (c := v2 ≤ z1) (t := 104) (e := 93) (i := (.if_icmp .ge 0, 104, 0, [])) (len := 3) (st1 := []) (by decide +kernel) rfl rfl (fun c3 => ?_) (fun c3 => ?_)
      · replace h := h.1 c3
        obtain ⟨o7_0, h⟩ := h
        refine vm_gp [(.iinc 4 1, 0, 0, []), (.goto 0, 50, 0, [])] (pc1 := 50) (ls1 := [some (vm_r 0), some (vm_i v1), some (vm_i v2), some (vm_i v3), some (vm_i (v4 + 1)), some (vm_i z1)]) (st1 := []) (m1 := m1) (ob := (true && decide (vm_32 (v4 + 1)))) (by decide +kernel) rfl (vm_t rfl o7_0) ?_
        exact h
      · replace h := h.2 c3
        obtain ⟨⟨o8_0, o8_1, o8_2⟩, h⟩ := h
        refine vm_gp [(.iconst 100, 0, 0, []), (.iload 3, 0, 0, []), (.imul, 0, 0, []), (.iload 4, 0, 0, []), (.iadd, 0, 0, []), (.istore 1, 0, 0, []), (.iload 5, 0, 0, []), (.istore 2, 0, 0, []), (.iinc 4 1, 0, 0, []), (.goto 0, 50, 0, [])] (pc1 := 50) (ls1 := [some (vm_r 0), some (vm_i ((100 * v3) + v4)), some (vm_i z1), some (vm_i v3), some (vm_i (v4 + 1)), some (vm_i z1)]) (st1 := []) (m1 := m1) (ob := (((true && decide (vm_32 (100 * v3))) && decide (vm_32 ((100 * v3) + v4))) && decide (vm_32 (v4 + 1)))) (by decide +kernel) rfl (vm_t (vm_t (vm_t rfl o8_0) o8_1) o8_2) ?_
        exact h
abbrev ku10_bestCorrection_0 (v1 : Int) (v2 : Int) (m : vm_M) (Q : Int → vm_M → Prop) : Prop := vm_G 147 0 [some (vm_r 0), some (vm_i v1), some (vm_i v2), none, none, none, none, none, none] [] m (vm_qi Q)
abbrev ku10_bestCorrection_73 (v1 : Int) (v2 : Int) (v3 : Int) (v4 : Int) (v5 : Int) (v6 : Int) (v7 : Int) (w8 : Option vm_V) (m : vm_M) (Q : Int → vm_M → Prop) : Prop := vm_G 147 73 [some (vm_r 0), some (vm_i v1), some (vm_i v2), some (vm_i v3), some (vm_i v4), some (vm_i v5), some (vm_i v6), some (vm_i v7), w8] [] m (vm_qi Q)
set_option maxRecDepth 20000 in
theorem ru10_bestCorrection_0 {v1 : Int} {v2 : Int} {m : vm_M} {Q : Int → vm_M → Prop}  (h :
    (vm_C 3 [vm_r 3, vm_i v1] m (vm_qi (fun z1 m1 =>
      ((z1 = 0 →
        Q (-1) m1) ∧ (¬ z1 = 0 →
        (vm_C 3 [vm_r 3, vm_i v2] m1 (vm_qi (fun z2 m2 =>
          ((¬ z2 = 0 →
            (vm_C 11 [vm_r 3, vm_i v1, vm_i v2, vm_i (m2 10 3), vm_i (-9)] m2 (vm_qi (fun z3 m3 =>
              (vm_C 10 [vm_r 3, vm_i v1, vm_i v2, vm_i z3] m3 (vm_qi (fun z4 m4 =>
                ((vm_32 (z4 - (m2 10 3))) ∧ (vm_32 (0 - (z4 - (m2 10 3))))) ∧
                ku10_bestCorrection_73 v1 v2 (m2 10 3) z3 0 (if 0 ≤ (z4 - (m2 10 3)) then (z4 - (m2 10 3)) else 0 - (z4 - (m2 10 3))) (-9) none m4 Q))))))) ∧ (¬ ¬ z2 = 0 →
            Q (-1) m2))))))))))) : vm_C 147 [vm_r 0, vm_i v1, vm_i v2] m (vm_qi Q) := by
  show vm_G 147 0 [some (vm_r 0), some (vm_i v1), some (vm_i v2), none, none, none, none, none, none] [] m (vm_qi Q)
  refine vm_gp [(.aload 0, 0, 0, []), (.getfield 2, 10, 1, [(3, 0)]), (.iload 1, 0, 0, [])] (pc1 := 5) (ls1 := [some (vm_r 0), some (vm_i v1), some (vm_i v2), none, none, none, none, none, none]) (st1 := [vm_i v1, vm_r 3]) (m1 := m) (ob := ((true && vm_is 0 10) && true)) (by decide +kernel) rfl (vm_u (vm_u rfl (by decide +kernel)) rfl) ?_
  refine vm_gc (g := 3) (na := 2) (av := [vm_r 3, vm_i v1]) (rest := []) (i := (.invokevirtual 0, 3, 2, [])) (len := 3) (by decide +kernel) rfl rfl rfl (by decide +kernel) (by decide +kernel) rfl rfl (vm_u (vm_okh_v (c := 0) (by decide +kernel) (by decide +kernel)) (show vm_okn 3 2 0 0 0 2 = true by decide +kernel)) ?_
  refine vm_G.mono h ?_
  rintro _ m1 ⟨z1, rfl, h⟩
  show vm_G 147 8 [some (vm_r 0), some (vm_i v1), some (vm_i v2), none, none, none, none, none, none] [vm_i z1] m1 _
  refine vm_gj (c := z1 = 0) (t := 22) (e := 11) (i := (.ifCond .eq 0, 22, 0, [])) (len := 3) (st1 := []) (by decide +kernel) rfl rfl (fun c1 => ?_) (fun c1 => ?_)
  · replace h := h.1 c1
    refine vm_gp [(.iconst (-1), 0, 0, [])] (pc1 := 23) (ls1 := [some (vm_r 0), some (vm_i v1), some (vm_i v2), none, none, none, none, none, none]) (st1 := [vm_i (-1)]) (m1 := m1) (ob := true) (by decide +kernel) rfl rfl ?_
    exact vm_gr (r := some (vm_i (-1))) (i := (.ireturn, 1, 0, [])) (len := 1) (by decide +kernel) rfl rfl rfl ⟨_, rfl, h⟩
  · replace h := h.2 c1
    refine vm_gp [(.aload 0, 0, 0, []), (.getfield 2, 10, 1, [(3, 0)]), (.iload 2, 0, 0, [])] (pc1 := 16) (ls1 := [some (vm_r 0), some (vm_i v1), some (vm_i v2), none, none, none, none, none, none]) (st1 := [vm_i v2, vm_r 3]) (m1 := m1) (ob := ((true && vm_is 0 10) && true)) (by decide +kernel) rfl (vm_u (vm_u rfl (by decide +kernel)) rfl) ?_
    refine vm_gc (g := 3) (na := 2) (av := [vm_r 3, vm_i v2]) (rest := []) (i := (.invokevirtual 0, 3, 2, [])) (len := 3) (by decide +kernel) rfl rfl rfl (by decide +kernel) (by decide +kernel) rfl rfl (vm_u (vm_okh_v (c := 0) (by decide +kernel) (by decide +kernel)) (show vm_okn 3 2 0 0 0 2 = true by decide +kernel)) ?_
    refine vm_G.mono h ?_
    rintro _ m2 ⟨z2, rfl, h⟩
    show vm_G 147 19 [some (vm_r 0), some (vm_i v1), some (vm_i v2), none, none, none, none, none, none] [vm_i z2] m2 _
    refine vm_gj (c := ¬ z2 = 0) (t := 24) (e := 22) (i := (.ifCond .ne 0, 24, 0, [])) (len := 3) (st1 := []) (by decide +kernel) rfl rfl (fun c2 => ?_) (fun c2 => ?_)
    · replace h := h.1 c2
      refine vm_gp [(.aload 0, 0, 0, []), (.getfield 2, 10, 3, [(9, 0)]), (.getfield 2, 4, 0, [(1, 1)]), (.iconst 3, 0, 0, []), (.iaload, 6, 0, []), (.istore 3, 0, 0, []), (.aload 0, 0, 0, []), (.getfield 2, 10, 1, [(3, 0)]), (.iload 1, 0, 0, []), (.iload 2, 0, 0, []), (.iload 3, 0, 0, []), (.iconst (-9), 0, 0, [])] (pc1 := 43) (ls1 := [some (vm_r 0), some (vm_i v1), some (vm_i v2), some (vm_i (m2 10 3)), none, none, none, none, none]) (st1 := [vm_i (-9), vm_i (m2 10 3), vm_i v2, vm_i v1, vm_r 3]) (m1 := m2) (ob := ((((((((true && vm_is 0 10) && true) && vm_is 9 4) && true) && vm_ar 10 100 6) && decide ((0 : Int) ≤ 3 ∧ (3 : Int) < 6)) && vm_is 0 10) && true)) (by decide +kernel) rfl (vm_u (vm_u (vm_t (vm_u (vm_u (vm_u (vm_u (vm_u rfl (by decide +kernel)) rfl) (by decide +kernel)) rfl) (by decide +kernel)) (by decide)) (by decide +kernel)) rfl) ?_
      refine vm_gc (g := 11) (na := 5) (av := [vm_r 3, vm_i v1, vm_i v2, vm_i (m2 10 3), vm_i (-9)]) (rest := []) (i := (.invokevirtual 0, 11, 5, [])) (len := 3) (by decide +kernel) rfl rfl rfl (by decide +kernel) (by decide +kernel) rfl rfl (vm_u (vm_okh_v (c := 0) (by decide +kernel) (by decide +kernel)) (show vm_okn 11 5 0 0 0 5 = true by decide +kernel)) ?_
      refine vm_G.mono h ?_
      rintro _ m3 ⟨z3, rfl, h⟩
      show vm_G 147 46 [some (vm_r 0), some (vm_i v1), some (vm_i v2), some (vm_i (m2 10 3)), none, none, none, none, none] [vm_i z3] m3 _
      refine vm_gp [(.istore 4, 0, 0, []), (.iconst 0, 0, 0, []), (.istore 5, 0, 0, []), (.aload 0, 0, 0, []), (.getfield 2, 10, 1, [(3, 0)]), (.iload 1, 0, 0, []), (.iload 2, 0, 0, []), (.iload 4, 0, 0, [])] (pc1 := 59) (ls1 := [some (vm_r 0), some (vm_i v1), some (vm_i v2), some (vm_i (m2 10 3)), some (vm_i z3), some (vm_i 0), none, none, none]) (st1 := [vm_i z3, vm_i v2, vm_i v1, vm_r 3]) (m1 := m3) (ob := ((true && vm_is 0 10) && true)) (by decide +kernel) rfl (vm_u (vm_u rfl (by decide +kernel)) rfl) ?_
      refine vm_gc (g := 10) (na := 4) (av := [vm_r 3, vm_i v1, vm_i v2, vm_i z3]) (rest := []) (i := (.invokevirtual 0, 10, 4, [])) (len := 3) (by decide +kernel) rfl rfl rfl (by decide +kernel) (by decide +kernel) rfl rfl (vm_u (vm_okh_v (c := 0) (by decide +kernel) (by decide +kernel)) (show vm_okn 10 4 0 0 0 4 = true by decide +kernel)) ?_
      refine vm_G.mono h ?_
      rintro _ m4 ⟨z4, rfl, h⟩
      show vm_G 147 62 [some (vm_r 0), some (vm_i v1), some (vm_i v2), some (vm_i (m2 10 3)), some (vm_i z3), some (vm_i 0), none, none, none] [vm_i z4] m4 _
      obtain ⟨⟨o8_0, o8_1⟩, h⟩ := h
      refine vm_gp [(.iload 3, 0, 0, []), (.isub, 0, 0, []), (.invokestatic 0, 1002, 0, []), (.istore 6, 0, 0, []), (.iconst (-9), 0, 0, []), (.istore 7, 0, 0, [])] (pc1 := 73) (ls1 := [some (vm_r 0), some (vm_i v1), some (vm_i v2), some (vm_i (m2 10 3)), some (vm_i z3), some (vm_i 0), some (vm_i (if 0 ≤ (z4 - (m2 10 3)) then (z4 - (m2 10 3)) else 0 - (z4 - (m2 10 3)))), some (vm_i (-9)), none]) (st1 := []) (m1 := m4) (ob := (((true && decide (vm_32 (z4 - (m2 10 3)))) && decide (vm_cats [] ≤ 8)) && decide (vm_32 (0 - (z4 - (m2 10 3)))))) (by decide +kernel) rfl (vm_t (vm_t (vm_t rfl o8_0) (by decide : (0 : Nat) ≤ 8)) o8_1) ?_
      exact h
    · replace h := h.2 c2
      refine vm_gp [(.iconst (-1), 0, 0, [])] (pc1 := 23) (ls1 := [some (vm_r 0), some (vm_i v1), some (vm_i v2), none, none, none, none, none, none]) (st1 := [vm_i (-1)]) (m1 := m2) (ob := true) (by decide +kernel) rfl rfl ?_
      exact vm_gr (r := some (vm_i (-1))) (i := (.ireturn, 1, 0, [])) (len := 1) (by decide +kernel) rfl rfl rfl ⟨_, rfl, h⟩
set_option maxRecDepth 20000 in
theorem ru10_bestCorrection_73 {v1 : Int} {v2 : Int} {v3 : Int} {v4 : Int} {v5 : Int} {v6 : Int} {v7 : Int} {w8 : Option vm_V} {m : vm_M} {Q : Int → vm_M → Prop}  (h :
    ((9 < v7 →
      ((vm_32 (v5 + 9))) ∧
      Q (v5 + 9) m) ∧ (¬ 9 < v7 →
      ((vm_32 (v4 + v7))) ∧
      (vm_C 10 [vm_r 3, vm_i v1, vm_i v2, vm_i (if (-9) < (v4 + v7) then (v4 + v7) else (-9))] m (vm_qi (fun z1 m1 =>
        ((vm_32 (z1 - v3)) ∧ (vm_32 (0 - (z1 - v3)))) ∧
        (((if 0 ≤ (z1 - v3) then (z1 - v3) else 0 - (z1 - v3)) < v6 →
          ((vm_32 (v7 + 1))) ∧
          ku10_bestCorrection_73 v1 v2 v3 v4 v7 (if 0 ≤ (z1 - v3) then (z1 - v3) else 0 - (z1 - v3)) (v7 + 1) (some (vm_i (if 0 ≤ (z1 - v3) then (z1 - v3) else 0 - (z1 - v3)))) m1 Q) ∧ (¬ (if 0 ≤ (z1 - v3) then (z1 - v3) else 0 - (z1 - v3)) < v6 →
          ((¬ (if 0 ≤ (z1 - v3) then (z1 - v3) else 0 - (z1 - v3)) = v6 →
            ((vm_32 (v7 + 1))) ∧
            ku10_bestCorrection_73 v1 v2 v3 v4 v5 v6 (v7 + 1) (some (vm_i (if 0 ≤ (z1 - v3) then (z1 - v3) else 0 - (z1 - v3)))) m1 Q) ∧ (¬ ¬ (if 0 ≤ (z1 - v3) then (z1 - v3) else 0 - (z1 - v3)) = v6 →
            ((vm_32 (0 - v7)) ∧ (vm_32 (0 - v5))) ∧
            (((if 0 ≤ v5 then v5 else 0 - v5) ≤ (if 0 ≤ v7 then v7 else 0 - v7) →
              ((vm_32 (v7 + 1))) ∧
              ku10_bestCorrection_73 v1 v2 v3 v4 v5 v6 (v7 + 1) (some (vm_i (if 0 ≤ (z1 - v3) then (z1 - v3) else 0 - (z1 - v3)))) m1 Q) ∧ (¬ (if 0 ≤ v5 then v5 else 0 - v5) ≤ (if 0 ≤ v7 then v7 else 0 - v7) →
              ((vm_32 (v7 + 1))) ∧
              ku10_bestCorrection_73 v1 v2 v3 v4 v7 (if 0 ≤ (z1 - v3) then (z1 - v3) else 0 - (z1 - v3)) (v7 + 1) (some (vm_i (if 0 ≤ (z1 - v3) then (z1 - v3) else 0 - (z1 - v3)))) m1 Q)))))))))))) : ku10_bestCorrection_73 v1 v2 v3 v4 v5 v6 v7 w8 m Q := by
  show vm_G 147 73 [some (vm_r 0), some (vm_i v1), some (vm_i v2), some (vm_i v3), some (vm_i v4), some (vm_i v5), some (vm_i v6), some (vm_i v7), w8] [] m (vm_qi Q)
  refine vm_gp [(.iload 7, 0, 0, []), (.iconst 9, 0, 0, [])] (pc1 := 77) (ls1 := [some (vm_r 0), some (vm_i v1), some (vm_i v2), some (vm_i v3), some (vm_i v4), some (vm_i v5), some (vm_i v6), some (vm_i v7), w8]) (st1 := [vm_i 9, vm_i v7]) (m1 := m) (ob := true) (by decide +kernel) rfl rfl ?_
  refine vm_gj (c := 9 < v7) (t := 147) (e := 80) (i := (.if_icmp .gt 0, 147, 0, [])) (len := 3) (st1 := []) (by decide +kernel) rfl rfl (fun c1 => ?_) (fun c1 => ?_)
  · replace h := h.1 c1
    obtain ⟨o2_0, h⟩ := h
    refine vm_gp [(.iload 5, 0, 0, []), (.iconst 9, 0, 0, []), (.iadd, 0, 0, [])] (pc1 := 152) (ls1 := [some (vm_r 0), some (vm_i v1), some (vm_i v2), some (vm_i v3), some (vm_i v4), some (vm_i v5), some (vm_i v6), some (vm_i v7), w8]) (st1 := [vm_i (v5 + 9)]) (m1 := m) (ob := (true && decide (vm_32 (v5 + 9)))) (by decide +kernel) rfl (vm_t rfl o2_0) ?_
    exact vm_gr (r := some (vm_i (v5 + 9))) (i := (.ireturn, 1, 0, [])) (len := 1) (by decide +kernel) rfl rfl rfl ⟨_, rfl, h⟩
  · replace h := h.2 c1
    obtain ⟨o3_0, h⟩ := h
    refine vm_gp [(.aload 0, 0, 0, []), (.getfield 2, 10, 1, [(3, 0)]), (.iload 1, 0, 0, []), (.iload 2, 0, 0, []), (.iconst (-9), 0, 0, []), (.iload 4, 0, 0, []), (.iload 7, 0, 0, []), (.iadd, 0, 0, []), (.invokestatic 0, 1000, 0, [])] (pc1 := 96) (ls1 := [some (vm_r 0), some (vm_i v1), some (vm_i v2), some (vm_i v3), some (vm_i v4), some (vm_i v5), some (vm_i v6), some (vm_i v7), w8]) (st1 := [vm_i (if (-9) < (v4 + v7) then (v4 + v7) else (-9)), vm_i v2, vm_i v1, vm_r 3]) (m1 := m) (ob := ((((true && vm_is 0 10) && true) && decide (vm_32 (v4 + v7))) && decide (vm_cats [vm_i v2, vm_i v1, vm_r 3] ≤ 8))) (by decide +kernel) rfl (vm_t (vm_t (vm_u (vm_u rfl (by decide +kernel)) rfl) o3_0) (by decide : (3 : Nat) ≤ 8)) ?_
    refine vm_gc (g := 10) (na := 4) (av := [vm_r 3, vm_i v1, vm_i v2, vm_i (if (-9) < (v4 + v7) then (v4 + v7) else (-9))]) (rest := []) (i := (.invokevirtual 0, 10, 4, [])) (len := 3) (by decide +kernel) rfl rfl rfl (by decide +kernel) (by decide +kernel) rfl rfl (vm_u (vm_okh_v (c := 0) (by decide +kernel) (by decide +kernel)) (show vm_okn 10 4 0 0 0 4 = true by decide +kernel)) ?_
    refine vm_G.mono h ?_
    rintro _ m1 ⟨z1, rfl, h⟩
    show vm_G 147 99 [some (vm_r 0), some (vm_i v1), some (vm_i v2), some (vm_i v3), some (vm_i v4), some (vm_i v5), some (vm_i v6), some (vm_i v7), w8] [vm_i z1] m1 _
    obtain ⟨⟨o4_0, o4_1⟩, h⟩ := h
    refine vm_gp [(.iload 3, 0, 0, []), (.isub, 0, 0, []), (.invokestatic 0, 1002, 0, []), (.istore 8, 0, 0, []), (.iload 8, 0, 0, []), (.iload 6, 0, 0, [])] (pc1 := 110) (ls1 := [some (vm_r 0), some (vm_i v1), some (vm_i v2), some (vm_i v3), some (vm_i v4), some (vm_i v5), some (vm_i v6), some (vm_i v7), some (vm_i (if 0 ≤ (z1 - v3) then (z1 - v3) else 0 - (z1 - v3)))]) (st1 := [vm_i v6, vm_i (if 0 ≤ (z1 - v3) then (z1 - v3) else 0 - (z1 - v3))]) (m1 := m1) (ob := (((true && decide (vm_32 (z1 - v3))) && decide (vm_cats [] ≤ 8)) && decide (vm_32 (0 - (z1 - v3))))) (by decide +kernel) rfl (vm_t (vm_t (vm_t rfl o4_0) (by decide : (0 : Nat) ≤ 8)) o4_1) ?_
    refine vm_gj (c := (if 0 ≤ (z1 - v3) then (z1 - v3) else 0 - (z1 - v3)) < v6) (t := 133) (e := 113) (i := (.if_icmp .lt 0, 133, 0, [])) (len := 3) (st1 := []) (by decide +kernel) rfl rfl (fun c2 => ?_) (fun c2 => ?_)
    · replace h := h.1 c2
      obtain ⟨o5_0, h⟩ := h
      refine vm_gp [(.iload 7, 0, 0, []), (.istore 5, 0, 0, []), (.iload 8, 0, 0, []), (.istore 6, 0, 0, []), (.iinc 7 1, 0, 0, []), (.goto 0, 73, 0, [])] (pc1 := 73) (ls1 := [some (vm_r 0), some (vm_i v1), some (vm_i v2), some (vm_i v3), some (vm_i v4), some (vm_i v7), some (vm_i (if 0 ≤ (z1 - v3) then (z1 - v3) else 0 - (z1 - v3))), some (vm_i (v7 + 1)), some (vm_i (if 0 ≤ (z1 - v3) then (z1 - v3) else 0 - (z1 - v3)))]) (st1 := []) (m1 := m1) (ob := (true && decide (vm_32 (v7 + 1)))) (by decide +kernel) rfl (vm_t rfl o5_0) ?_
      exact h
    · replace h := h.2 c2
      refine vm_gp [(.iload 8, 0, 0, []), (.iload 6, 0, 0, [])] (pc1 := 117) (ls1 := [some (vm_r 0), some (vm_i v1), some (vm_i v2), some (vm_i v3), some (vm_i v4), some (vm_i v5), some (vm_i v6), some (vm_i v7), some (vm_i (if 0 ≤ (z1 - v3) then (z1 - v3) else 0 - (z1 - v3)))]) (st1 := [vm_i v6, vm_i (if 0 ≤ (z1 - v3) then (z1 - v3) else 0 - (z1 - v3))]) (m1 := m1) (ob := true) (by decide +kernel) rfl rfl ?_
      refine vm_gj (c := ¬ (if 0 ≤ (z1 - v3) then (z1 - v3) else 0 - (z1 - v3)) = v6) (t := 141) (e := 120) (i := (.if_icmp .ne 0, 141, 0, [])) (len := 3) (st1 := []) (by decide +kernel) rfl rfl (fun c3 => ?_) (fun c3 => ?_)
      · replace h := h.1 c3
        obtain ⟨o7_0, h⟩ := h
        refine vm_gp [(.iinc 7 1, 0, 0, []), (.goto 0, 73, 0, [])] (pc1 := 73) (ls1 := [some (vm_r 0), some (vm_i v1), some (vm_i v2), some (vm_i v3), some (vm_i v4), some (vm_i v5), some (vm_i v6), some (vm_i (v7 + 1)), some (vm_i (if 0 ≤ (z1 - v3) then (z1 - v3) else 0 - (z1 - v3)))]) (st1 := []) (m1 := m1) (ob := (true && decide (vm_32 (v7 + 1)))) (by decide +kernel) rfl (vm_t rfl o7_0) ?_
        exact h
      · replace h := h.2 c3
        obtain ⟨⟨o8_0, o8_1⟩, h⟩ := h
        refine vm_gp [(.iload 7, 0, 0, []), (.invokestatic 0, 1002, 0, []), (.iload 5, 0, 0, []), (.invokestatic 0, 1002, 0, [])] (pc1 := 130) (ls1 := [some (vm_r 0), some (vm_i v1), some (vm_i v2), some (vm_i v3), some (vm_i v4), some (vm_i v5), some (vm_i v6), some (vm_i v7), some (vm_i (if 0 ≤ (z1 - v3) then (z1 - v3) else 0 - (z1 - v3)))]) (st1 := [vm_i (if 0 ≤ v5 then v5 else 0 - v5), vm_i (if 0 ≤ v7 then v7 else 0 - v7)]) (m1 := m1) (ob := ((((true && decide (vm_cats [] ≤ 8)) && decide (vm_32 (0 - v7))) && decide (vm_cats [vm_i (if 0 ≤ v7 then v7 else 0 - v7)] ≤ 8)) && decide (vm_32 (0 - v5)))) (by decide +kernel) rfl (vm_t (vm_t (vm_t (vm_t rfl (by decide : (0 : Nat) ≤ 8)) o8_0) (by decide : (1 : Nat) ≤ 8)) o8_1) ?_
        refine vm_gj (c := (if 0 ≤ v5 then v5 else 0 - v5) ≤ (if 0 ≤ v7 then v7 else 0 - v7)) (t := 141) (e := 133) (i := (.if_icmp .ge 0, 141, 0, [])) (len := 3) (st1 := []) (by decide +kernel) rfl rfl (fun c4 => ?_) (fun c4 => ?_)
        · replace h := h.1 c4
          obtain ⟨o9_0, h⟩ := h
          refine vm_gp [(.iinc 7 1, 0, 0, []), (.goto 0, 73, 0, [])] (pc1 := 73) (ls1 := [some (vm_r 0), some (vm_i v1), some (vm_i v2), some (vm_i v3), some (vm_i v4), some (vm_i v5), some (vm_i v6), some (vm_i (v7 + 1)), some (vm_i (if 0 ≤ (z1 - v3) then (z1 - v3) else 0 - (z1 - v3)))]) (st1 := []) (m1 := m1) (ob := (true && decide (vm_32 (v7 + 1)))) (by decide +kernel) rfl (vm_t rfl o9_0) ?_
          exact h
        · replace h := h.2 c4
          obtain ⟨o10_0, h⟩ := h
          refine vm_gp [(.iload 7, 0, 0, []), (.istore 5, 0, 0, []), (.iload 8, 0, 0, []), (.istore 6, 0, 0, []), (.iinc 7 1, 0, 0, []), (.goto 0, 73, 0, [])] (pc1 := 73) (ls1 := [some (vm_r 0), some (vm_i v1), some (vm_i v2), some (vm_i v3), some (vm_i v4), some (vm_i v7), some (vm_i (if 0 ≤ (z1 - v3) then (z1 - v3) else 0 - (z1 - v3))), some (vm_i (v7 + 1)), some (vm_i (if 0 ≤ (z1 - v3) then (z1 - v3) else 0 - (z1 - v3)))]) (st1 := []) (m1 := m1) (ob := (true && decide (vm_32 (v7 + 1)))) (by decide +kernel) rfl (vm_t rfl o10_0) ?_
          exact h
abbrev ku10_fitsWith_0 (v1 : Int) (v2 : Int) (m : vm_M) (Q : Int → vm_M → Prop) : Prop := vm_G 148 0 [some (vm_r 0), some (vm_i v1), some (vm_i v2)] [] m (vm_qi Q)
set_option maxRecDepth 20000 in
theorem ru10_fitsWith_0 {v1 : Int} {v2 : Int} {m : vm_M} {Q : Int → vm_M → Prop}  (h :
    (vm_C 13 [vm_r 72, vm_r 9, vm_r 65, vm_i v1, vm_i v2] m (vm_qv (fun m1 =>
      (vm_C 14 [vm_r 72, vm_i (m1 9 4)] m1 (vm_qv (fun m2 =>
        (vm_C 19 [vm_r 72, vm_i (m2 10 2), vm_i (m2 10 1)] m2 (vm_qi (fun z3 m3 =>
          ((z3 = 0 ∨ z3 = 1)) ∧
          Q z3 m3)))))))))) : vm_C 148 [vm_r 0, vm_i v1, vm_i v2] m (vm_qi Q) := by
  show vm_G 148 0 [some (vm_r 0), some (vm_i v1), some (vm_i v2)] [] m (vm_qi Q)
  refine vm_gp [(.aload 0, 0, 0, []), (.getfield 2, 10, 11, [(72, 0)]), (.aload 0, 0, 0, []), (.getfield 2, 10, 3, [(9, 0)]), (.aload 0, 0, 0, []), (.getfield 2, 10, 9, [(65, 0)]), (.iload 1, 0, 0, []), (.iload 2, 0, 0, [])] (pc1 := 14) (ls1 := [some (vm_r 0), some (vm_i v1), some (vm_i v2)]) (st1 := [vm_i v2, vm_i v1, vm_r 65, vm_r 9, vm_r 72]) (m1 := m) (ob := ((((((true && vm_is 0 10) && true) && vm_is 0 10) && true) && vm_is 0 10) && true)) (by decide +kernel) rfl (vm_u (vm_u (vm_u (vm_u (vm_u (vm_u rfl (by decide +kernel)) rfl) (by decide +kernel)) rfl) (by decide +kernel)) rfl) ?_
  refine vm_gc (g := 13) (na := 5) (av := [vm_r 72, vm_r 9, vm_r 65, vm_i v1, vm_i v2]) (rest := []) (i := (.invokevirtual 0, 13, 5, [])) (len := 3) (by decide +kernel) rfl rfl rfl (by decide +kernel) (by decide +kernel) rfl rfl (vm_u (vm_okh_v (c := 1) (by decide +kernel) (by decide +kernel)) (show vm_okn 13 5 0 0 0 5 = true by decide +kernel)) ?_
  refine vm_G.mono h ?_
  rintro _ m1 ⟨rfl, h⟩
  show vm_G 148 17 [some (vm_r 0), some (vm_i v1), some (vm_i v2)] [] m1 _
  refine vm_gp [(.aload 0, 0, 0, []), (.getfield 2, 10, 11, [(72, 0)]), (.aload 0, 0, 0, []), (.getfield 2, 10, 3, [(9, 0)]), (.getfield 0, 4, 4, [])] (pc1 := 28) (ls1 := [some (vm_r 0), some (vm_i v1), some (vm_i v2)]) (st1 := [vm_i (m1 9 4), vm_r 72]) (m1 := m1) (ob := (((((true && vm_is 0 10) && true) && vm_is 0 10) && true) && vm_is 9 4)) (by decide +kernel) rfl (vm_u (vm_u (vm_u (vm_u (vm_u rfl (by decide +kernel)) rfl) (by decide +kernel)) rfl) (by decide +kernel)) ?_
  refine vm_gc (g := 14) (na := 2) (av := [vm_r 72, vm_i (m1 9 4)]) (rest := []) (i := (.invokevirtual 0, 14, 2, [])) (len := 3) (by decide +kernel) rfl rfl rfl (by decide +kernel) (by decide +kernel) rfl rfl (vm_u (vm_okh_v (c := 1) (by decide +kernel) (by decide +kernel)) (show vm_okn 14 2 0 0 0 2 = true by decide +kernel)) ?_
  refine vm_G.mono h ?_
  rintro _ m2 ⟨rfl, h⟩
  show vm_G 148 31 [some (vm_r 0), some (vm_i v1), some (vm_i v2)] [] m2 _
  refine vm_gp [(.aload 0, 0, 0, []), (.getfield 2, 10, 11, [(72, 0)]), (.aload 0, 0, 0, []), (.getfield 2, 10, 3, [(9, 0)]), (.getfield 2, 4, 0, [(1, 1)]), (.iconst 2, 0, 0, []), (.iaload, 6, 0, []), (.aload 0, 0, 0, []), (.getfield 2, 10, 3, [(9, 0)]), (.getfield 2, 4, 0, [(1, 1)]), (.iconst 1, 0, 0, []), (.iaload, 6, 0, [])] (pc1 := 53) (ls1 := [some (vm_r 0), some (vm_i v1), some (vm_i v2)]) (st1 := [vm_i (m2 10 1), vm_i (m2 10 2), vm_r 72]) (m1 := m2) (ob := ((((((((((((((true && vm_is 0 10) && true) && vm_is 0 10) && true) && vm_is 9 4) && true) && vm_ar 10 100 6) && decide ((0 : Int) ≤ 2 ∧ (2 : Int) < 6)) && vm_is 0 10) && true) && vm_is 9 4) && true) && vm_ar 10 100 6) && decide ((0 : Int) ≤ 1 ∧ (1 : Int) < 6))) (by decide +kernel) rfl (vm_t (vm_u (vm_u (vm_u (vm_u (vm_u (vm_t (vm_u (vm_u (vm_u (vm_u (vm_u (vm_u (vm_u rfl (by decide +kernel)) rfl) (by decide +kernel)) rfl) (by decide +kernel)) rfl) (by decide +kernel)) (by decide)) (by decide +kernel)) rfl) (by decide +kernel)) rfl) (by decide +kernel)) (by decide)) ?_
  refine vm_gc (g := 19) (na := 3) (av := [vm_r 72, vm_i (m2 10 2), vm_i (m2 10 1)]) (rest := []) (i := (.invokevirtual 0, 19, 3, [])) (len := 3) (by decide +kernel) rfl rfl rfl (by decide +kernel) (by decide +kernel) rfl rfl (vm_u (vm_okh_v (c := 1) (by decide +kernel) (by decide +kernel)) (show vm_okn 19 3 0 0 0 3 = true by decide +kernel)) ?_
  refine vm_G.mono h ?_
  rintro _ m3 ⟨z3, rfl, h⟩
  show vm_G 148 56 [some (vm_r 0), some (vm_i v1), some (vm_i v2)] [vm_i z3] m3 _
  exact vm_gr (r := some (vm_i z3)) (i := (.ireturn, 2, 0, [])) (len := 1) (by decide +kernel) rfl rfl (decide_eq_true h.1) ⟨_, rfl, h.2⟩
abbrev ku10_prepareTrial_0  (m : vm_M) (Q : vm_M → Prop) : Prop := vm_G 149 0 [some (vm_r 0)] [] m (vm_qv Q)
set_option maxRecDepth 20000 in
theorem ru10_prepareTrial_0  {m : vm_M} {Q : vm_M → Prop}  (h :
    (vm_C 13 [vm_r 72, vm_r 9, vm_r 65, vm_i (m 10 3), vm_i (m 10 5)] m (vm_qv (fun m1 =>
      Q m1)))) : vm_C 149 [vm_r 0] m (vm_qv Q) := by
  show vm_G 149 0 [some (vm_r 0)] [] m (vm_qv Q)
  refine vm_gp [(.aload 0, 0, 0, []), (.getfield 2, 10, 11, [(72, 0)]), (.aload 0, 0, 0, []), (.getfield 2, 10, 3, [(9, 0)]), (.aload 0, 0, 0, []), (.getfield 2, 10, 9, [(65, 0)]), (.aload 0, 0, 0, []), (.getfield 2, 10, 3, [(9, 0)]), (.getfield 2, 4, 0, [(1, 1)]), (.iconst 3, 0, 0, []), (.iaload, 6, 0, []), (.aload 0, 0, 0, []), (.getfield 2, 10, 3, [(9, 0)]), (.getfield 2, 4, 0, [(1, 1)]), (.iconst 5, 0, 0, []), (.iaload, 6, 0, [])] (pc1 := 30) (ls1 := [some (vm_r 0)]) (st1 := [vm_i (m 10 5), vm_i (m 10 3), vm_r 65, vm_r 9, vm_r 72]) (m1 := m) (ob := ((((((((((((((((((true && vm_is 0 10) && true) && vm_is 0 10) && true) && vm_is 0 10) && true) && vm_is 0 10) && true) && vm_is 9 4) && true) && vm_ar 10 100 6) && decide ((0 : Int) ≤ 3 ∧ (3 : Int) < 6)) && vm_is 0 10) && true) && vm_is 9 4) && true) && vm_ar 10 100 6) && decide ((0 : Int) ≤ 5 ∧ (5 : Int) < 6))) (by decide +kernel) rfl (vm_t (vm_u (vm_u (vm_u (vm_u (vm_u (vm_t (vm_u (vm_u (vm_u (vm_u (vm_u (vm_u (vm_u (vm_u (vm_u (vm_u (vm_u rfl (by decide +kernel)) rfl) (by decide +kernel)) rfl) (by decide +kernel)) rfl) (by decide +kernel)) rfl) (by decide +kernel)) rfl) (by decide +kernel)) (by decide)) (by decide +kernel)) rfl) (by decide +kernel)) rfl) (by decide +kernel)) (by decide)) ?_
  refine vm_gc (g := 13) (na := 5) (av := [vm_r 72, vm_r 9, vm_r 65, vm_i (m 10 3), vm_i (m 10 5)]) (rest := []) (i := (.invokevirtual 0, 13, 5, [])) (len := 3) (by decide +kernel) rfl rfl rfl (by decide +kernel) (by decide +kernel) rfl rfl (vm_u (vm_okh_v (c := 1) (by decide +kernel) (by decide +kernel)) (show vm_okn 13 5 0 0 0 5 = true by decide +kernel)) ?_
  refine vm_G.mono h ?_
  rintro _ m1 ⟨rfl, h⟩
  show vm_G 149 33 [some (vm_r 0)] [] m1 _
  exact vm_gr (r := none) (i := (.return_, 0, 0, [])) (len := 1) (by decide +kernel) rfl rfl rfl ⟨rfl, h⟩
abbrev ku10_full_0 (v1 : Int) (m : vm_M) (Q : UInt32 → vm_M → Prop) : Prop := vm_G 150 0 [some (vm_r 0), some (vm_i v1)] [] m (vm_qf Q)
set_option maxRecDepth 20000 in
theorem ru10_full_0 {v1 : Int} {m : vm_M} {Q : UInt32 → vm_M → Prop}  (h :
    (vm_C 137 [vm_r 0] m (vm_qv (fun m1 =>
      (vm_C 15 [vm_r 67, vm_i v1] m1 (vm_qi (fun z2 m2 =>
        ((¬ z2 = 0 →
          ((0 ≤ v1 ∧ v1 < 12) ∧ ((FP.fdiv (FP.i2f (Int32.ofInt (m2 79 v1))) (FP.i2f (Int32.ofInt (m2 10 0)))) &&& 0x7fffffff ≤ 0x7f800000)) ∧
          Q (FP.fdiv (FP.i2f (Int32.ofInt (m2 79 v1))) (FP.i2f (Int32.ofInt (m2 10 0)))) m2) ∧ (¬ ¬ z2 = 0 →
          Q (UInt32.ofNat 3212836864) m2))))))))) : vm_C 150 [vm_r 0, vm_i v1] m (vm_qf Q) := by
  show vm_G 150 0 [some (vm_r 0), some (vm_i v1)] [] m (vm_qf Q)
  refine vm_gp [(.aload 0, 0, 0, [])] (pc1 := 1) (ls1 := [some (vm_r 0), some (vm_i v1)]) (st1 := [vm_r 0]) (m1 := m) (ob := true) (by decide +kernel) rfl rfl ?_
  refine vm_gc (g := 137) (na := 1) (av := [vm_r 0]) (rest := []) (i := (.invokevirtual 0, 137, 1, [])) (len := 3) (by decide +kernel) rfl rfl rfl (by decide +kernel) (by decide +kernel) rfl rfl (vm_u (vm_okh_v (c := 10) (by decide +kernel) (by decide +kernel)) (show vm_okn 137 1 0 0 0 1 = true by decide +kernel)) ?_
  refine vm_G.mono h ?_
  rintro _ m1 ⟨rfl, h⟩
  show vm_G 150 4 [some (vm_r 0), some (vm_i v1)] [] m1 _
  refine vm_gp [(.aload 0, 0, 0, []), (.getfield 2, 10, 10, [(67, 0)]), (.iload 1, 0, 0, [])] (pc1 := 9) (ls1 := [some (vm_r 0), some (vm_i v1)]) (st1 := [vm_i v1, vm_r 67]) (m1 := m1) (ob := ((true && vm_is 0 10) && true)) (by decide +kernel) rfl (vm_u (vm_u rfl (by decide +kernel)) rfl) ?_
  refine vm_gc (g := 15) (na := 2) (av := [vm_r 67, vm_i v1]) (rest := []) (i := (.invokevirtual 0, 15, 2, [])) (len := 3) (by decide +kernel) rfl rfl rfl (by decide +kernel) (by decide +kernel) rfl rfl (vm_u (vm_okh_v (c := 1) (by decide +kernel) (by decide +kernel)) (show vm_okn 15 2 0 0 0 2 = true by decide +kernel)) ?_
  refine vm_G.mono h ?_
  rintro _ m2 ⟨z2, rfl, h⟩
  show vm_G 150 12 [some (vm_r 0), some (vm_i v1)] [vm_i z2] m2 _
  refine vm_gj (c := ¬ z2 = 0) (t := 19) (e := 15) (i := (.ifCond .ne 0, 19, 0, [])) (len := 3) (st1 := []) (by decide +kernel) rfl rfl (fun c1 => ?_) (fun c1 => ?_)
  · replace h := h.1 c1
    obtain ⟨⟨o4_0, o4_1⟩, h⟩ := h
    refine vm_gp [(.aload 0, 0, 0, []), (.getfield 2, 10, 12, [(77, 0)]), (.getfield 2, 3, 5, [(79, 0)]), (.iload 1, 0, 0, []), (.iaload, 12, 0, []), (.i2f, 0, 0, []), (.aload 0, 0, 0, []), (.getfield 2, 10, 3, [(9, 0)]), (.getfield 2, 4, 0, [(1, 1)]), (.iconst 0, 0, 0, []), (.iaload, 6, 0, []), (.i2f, 0, 0, []), (.fdiv, 0, 0, [])] (pc1 := 40) (ls1 := [some (vm_r 0), some (vm_i v1)]) (st1 := [vm_f (FP.fdiv (FP.i2f (Int32.ofInt (m2 79 v1))) (FP.i2f (Int32.ofInt (m2 10 0))))]) (m1 := m2) (ob := (((((((((((((true && vm_is 0 10) && true) && vm_is 77 3) && true) && vm_ar 79 100 12) && decide (0 ≤ v1 ∧ v1 < 12)) && vm_is 0 10) && true) && vm_is 9 4) && true) && vm_ar 10 100 6) && decide ((0 : Int) ≤ 0 ∧ (0 : Int) < 6)) && decide ((FP.fdiv (FP.i2f (Int32.ofInt (m2 79 v1))) (FP.i2f (Int32.ofInt (m2 10 0)))) &&& 0x7fffffff ≤ 0x7f800000))) (by decide +kernel) rfl (vm_t (vm_t (vm_u (vm_u (vm_u (vm_u (vm_u (vm_t (vm_u (vm_u (vm_u (vm_u (vm_u rfl (by decide +kernel)) rfl) (by decide +kernel)) rfl) (by decide +kernel)) o4_0) (by decide +kernel)) rfl) (by decide +kernel)) rfl) (by decide +kernel)) (by decide)) o4_1) ?_
    exact vm_gr (r := some (vm_f (FP.fdiv (FP.i2f (Int32.ofInt (m2 79 v1))) (FP.i2f (Int32.ofInt (m2 10 0)))))) (i := (.freturn, 4, 0, [])) (len := 1) (by decide +kernel) rfl rfl rfl ⟨_, rfl, h⟩
  · replace h := h.2 c1
    refine vm_gp [(.fconst 0, 3212836864, 0, [])] (pc1 := 18) (ls1 := [some (vm_r 0), some (vm_i v1)]) (st1 := [vm_f (UInt32.ofNat 3212836864)]) (m1 := m2) (ob := true) (by decide +kernel) rfl rfl ?_
    exact vm_gr (r := some (vm_f (UInt32.ofNat 3212836864))) (i := (.freturn, 4, 0, [])) (len := 1) (by decide +kernel) rfl rfl rfl ⟨_, rfl, h⟩
abbrev ku10_meanGap_0  (m : vm_M) (Q : UInt64 → vm_M → Prop) : Prop := vm_G 151 0 [some (vm_r 0), none, none, none, none, none, none] [] m (vm_qd Q)
abbrev ku10_meanGap_10 (v1 : Int) (v2 : Int) (v3 : Int) (w4 : Option vm_V) (w5 : Option vm_V) (w6 : Option vm_V) (m : vm_M) (Q : UInt64 → vm_M → Prop) : Prop := vm_G 151 10 [some (vm_r 0), some (vm_i v1), some (vm_i v2), some (vm_i v3), w4, w5, w6] [] m (vm_qd Q)
abbrev ku10_meanGap_34 (v1 : Int) (v2 : Int) (v3 : Int) (v4 : Int) (v5 : Int) (w6 : Option vm_V) (m : vm_M) (Q : UInt64 → vm_M → Prop) : Prop := vm_G 151 34 [some (vm_r 0), some (vm_i v1), some (vm_i v2), some (vm_i v3), some (vm_i v4), some (vm_i v5), w6] [] m (vm_qd Q)
set_option maxRecDepth 20000 in
theorem ru10_meanGap_0  {m : vm_M} {Q : UInt64 → vm_M → Prop}  (h :
    (vm_C 137 [vm_r 0] m (vm_qv (fun m1 =>
      ku10_meanGap_10 0 0 0 none none none m1 Q)))) : vm_C 151 [vm_r 0] m (vm_qd Q) := by
  show vm_G 151 0 [some (vm_r 0), none, none, none, none, none, none] [] m (vm_qd Q)
  refine vm_gp [(.aload 0, 0, 0, [])] (pc1 := 1) (ls1 := [some (vm_r 0), none, none, none, none, none, none]) (st1 := [vm_r 0]) (m1 := m) (ob := true) (by decide +kernel) rfl rfl ?_
  refine vm_gc (g := 137) (na := 1) (av := [vm_r 0]) (rest := []) (i := (.invokevirtual 0, 137, 1, [])) (len := 3) (by decide +kernel) rfl rfl rfl (by decide +kernel) (by decide +kernel) rfl rfl (vm_u (vm_okh_v (c := 10) (by decide +kernel) (by decide +kernel)) (show vm_okn 137 1 0 0 0 1 = true by decide +kernel)) ?_
  refine vm_G.mono h ?_
  rintro _ m1 ⟨rfl, h⟩
  show vm_G 151 4 [some (vm_r 0), none, none, none, none, none, none] [] m1 _
  refine vm_gp [(.iconst 0, 0, 0, []), (.istore 1, 0, 0, []), (.iconst 0, 0, 0, []), (.istore 2, 0, 0, []), (.iconst 0, 0, 0, []), (.istore 3, 0, 0, [])] (pc1 := 10) (ls1 := [some (vm_r 0), some (vm_i 0), some (vm_i 0), some (vm_i 0), none, none, none]) (st1 := []) (m1 := m1) (ob := true) (by decide +kernel) rfl rfl ?_
  exact h
set_option maxRecDepth 20000 in
theorem ru10_meanGap_10 {v1 : Int} {v2 : Int} {v3 : Int} {w4 : Option vm_V} {w5 : Option vm_V} {w6 : Option vm_V} {m : vm_M} {Q : UInt64 → vm_M → Prop}  (h :
    (((m 67 8) ≤ v3 →
      ((¬ v2 = 0 →
        (((FP.ddiv (FP.i2d (Int32.ofInt v1)) (FP.i2d (Int32.ofInt v2))) &&& 0x7fffffffffffffff ≤ 0x7ff0000000000000)) ∧
        Q (FP.ddiv (FP.i2d (Int32.ofInt v1)) (FP.i2d (Int32.ofInt v2))) m) ∧ (¬ ¬ v2 = 0 →
        Q 0 m))) ∧ (¬ (m 67 8) ≤ v3 →
      (vm_C 41 [vm_r 77, vm_i v3] m (vm_qi (fun z1 m1 =>
        ku10_meanGap_34 v1 v2 v3 z1 0 w6 m1 Q)))))) : ku10_meanGap_10 v1 v2 v3 w4 w5 w6 m Q := by
  show vm_G 151 10 [some (vm_r 0), some (vm_i v1), some (vm_i v2), some (vm_i v3), w4, w5, w6] [] m (vm_qd Q)
  refine vm_gp [(.iload 3, 0, 0, []), (.aload 0, 0, 0, []), (.getfield 2, 10, 10, [(67, 0)]), (.getfield 0, 1, 8, [])] (pc1 := 18) (ls1 := [some (vm_r 0), some (vm_i v1), some (vm_i v2), some (vm_i v3), w4, w5, w6]) (st1 := [vm_i (m 67 8), vm_i v3]) (m1 := m) (ob := (((true && vm_is 0 10) && true) && vm_is 67 1)) (by decide +kernel) rfl (vm_u (vm_u (vm_u rfl (by decide +kernel)) rfl) (by decide +kernel)) ?_
  refine vm_gj (c := (m 67 8) ≤ v3) (t := 80) (e := 21) (i := (.if_icmp .ge 0, 80, 0, [])) (len := 3) (st1 := []) (by decide +kernel) rfl rfl (fun c1 => ?_) (fun c1 => ?_)
  · replace h := h.1 c1
    refine vm_gp [(.iload 2, 0, 0, [])] (pc1 := 81) (ls1 := [some (vm_r 0), some (vm_i v1), some (vm_i v2), some (vm_i v3), w4, w5, w6]) (st1 := [vm_i v2]) (m1 := m) (ob := true) (by decide +kernel) rfl rfl ?_
    refine vm_gj (c := ¬ v2 = 0) (t := 88) (e := 84) (i := (.ifCond .ne 0, 88, 0, [])) (len := 3) (st1 := []) (by decide +kernel) rfl rfl (fun c2 => ?_) (fun c2 => ?_)
    · replace h := h.1 c2
      obtain ⟨o3_0, h⟩ := h
      refine vm_gp [(.iload 1, 0, 0, []), (.i2d, 0, 0, []), (.iload 2, 0, 0, []), (.i2d, 0, 0, []), (.ddiv, 0, 0, [])] (pc1 := 93) (ls1 := [some (vm_r 0), some (vm_i v1), some (vm_i v2), some (vm_i v3), w4, w5, w6]) (st1 := [vm_d (FP.ddiv (FP.i2d (Int32.ofInt v1)) (FP.i2d (Int32.ofInt v2)))]) (m1 := m) (ob := (true && decide ((FP.ddiv (FP.i2d (Int32.ofInt v1)) (FP.i2d (Int32.ofInt v2))) &&& 0x7fffffffffffffff ≤ 0x7ff0000000000000))) (by decide +kernel) rfl (vm_t rfl o3_0) ?_
      exact vm_gr (r := some (vm_d (FP.ddiv (FP.i2d (Int32.ofInt v1)) (FP.i2d (Int32.ofInt v2))))) (i := (.dreturn, 5, 0, [])) (len := 1) (by decide +kernel) rfl rfl rfl ⟨_, rfl, h⟩
    · replace h := h.2 c2
      refine vm_gp [(.dconst 0, 0, 0, []), (.goto 0, 93, 0, [])] (pc1 := 93) (ls1 := [some (vm_r 0), some (vm_i v1), some (vm_i v2), some (vm_i v3), w4, w5, w6]) (st1 := [vm_d 0]) (m1 := m) (ob := true) (by decide +kernel) rfl rfl ?_
      exact vm_gr (r := some (vm_d 0)) (i := (.dreturn, 5, 0, [])) (len := 1) (by decide +kernel) rfl rfl rfl ⟨_, rfl, h⟩
  · replace h := h.2 c1
    refine vm_gp [(.aload 0, 0, 0, []), (.getfield 2, 10, 12, [(77, 0)]), (.iload 3, 0, 0, [])] (pc1 := 26) (ls1 := [some (vm_r 0), some (vm_i v1), some (vm_i v2), some (vm_i v3), w4, w5, w6]) (st1 := [vm_i v3, vm_r 77]) (m1 := m) (ob := ((true && vm_is 0 10) && true)) (by decide +kernel) rfl (vm_u (vm_u rfl (by decide +kernel)) rfl) ?_
    refine vm_gc (g := 41) (na := 2) (av := [vm_r 77, vm_i v3]) (rest := []) (i := (.invokevirtual 0, 41, 2, [])) (len := 3) (by decide +kernel) rfl rfl rfl (by decide +kernel) (by decide +kernel) rfl rfl (vm_u (vm_okh_v (c := 3) (by decide +kernel) (by decide +kernel)) (show vm_okn 41 2 0 0 0 2 = true by decide +kernel)) ?_
    refine vm_G.mono h ?_
    rintro _ m1 ⟨z1, rfl, h⟩
    show vm_G 151 29 [some (vm_r 0), some (vm_i v1), some (vm_i v2), some (vm_i v3), w4, w5, w6] [vm_i z1] m1 _
    refine vm_gp [(.istore 4, 0, 0, []), (.iconst 0, 0, 0, []), (.istore 5, 0, 0, [])] (pc1 := 34) (ls1 := [some (vm_r 0), some (vm_i v1), some (vm_i v2), some (vm_i v3), some (vm_i z1), some (vm_i 0), w6]) (st1 := []) (m1 := m1) (ob := true) (by decide +kernel) rfl rfl ?_
    exact h
set_option maxRecDepth 20000 in
theorem ru10_meanGap_34 {v1 : Int} {v2 : Int} {v3 : Int} {v4 : Int} {v5 : Int} {w6 : Option vm_V} {m : vm_M} {Q : UInt64 → vm_M → Prop}  (h :
    ((v4 ≤ v5 →
      ((vm_32 (v3 + 1))) ∧
      ku10_meanGap_10 v1 v2 (v3 + 1) (some (vm_i v4)) (some (vm_i v5)) w6 m Q) ∧ (¬ v4 ≤ v5 →
      (vm_C 45 [vm_r 77, vm_i v3, vm_i v5] m (vm_qi (fun z1 m1 =>
        ((z1 = (-2) →
          ((vm_32 (v5 + 1))) ∧
          ku10_meanGap_34 v1 v2 v3 v4 (v5 + 1) (some (vm_i z1)) m1 Q) ∧ (¬ z1 = (-2) →
          ((vm_32 (v1 + z1)) ∧ (vm_32 (v2 + 1)) ∧ (vm_32 (v5 + 1))) ∧
          ku10_meanGap_34 (v1 + z1) (v2 + 1) v3 v4 (v5 + 1) (some (vm_i z1)) m1 Q)))))))) : ku10_meanGap_34 v1 v2 v3 v4 v5 w6 m Q := by
  show vm_G 151 34 [some (vm_r 0), some (vm_i v1), some (vm_i v2), some (vm_i v3), some (vm_i v4), some (vm_i v5), w6] [] m (vm_qd Q)
  refine vm_gp [(.iload 5, 0, 0, []), (.iload 4, 0, 0, [])] (pc1 := 38) (ls1 := [some (vm_r 0), some (vm_i v1), some (vm_i v2), some (vm_i v3), some (vm_i v4), some (vm_i v5), w6]) (st1 := [vm_i v4, vm_i v5]) (m1 := m) (ob := true) (by decide +kernel) rfl rfl ?_
  refine vm_gj (c := v4 ≤ v5) (t := 74) (e := 41) (i := (.if_icmp .ge 0, 74, 0, [])) (len := 3) (st1 := []) (by decide +kernel) rfl rfl (fun c1 => ?_) (fun c1 => ?_)
  · replace h := h.1 c1
    obtain ⟨o2_0, h⟩ := h
    refine vm_gp [(.iinc 3 1, 0, 0, []), (.goto 0, 10, 0, [])] (pc1 := 10) (ls1 := [some (vm_r 0), some (vm_i v1), some (vm_i v2), some (vm_i (v3 + 1)), some (vm_i v4), some (vm_i v5), w6]) (st1 := []) (m1 := m) (ob := (true && decide (vm_32 (v3 + 1)))) (by decide +kernel) rfl (vm_t rfl o2_0) ?_
    exact h
  · replace h := h.2 c1
    refine vm_gp [(.aload 0, 0, 0, []), (.getfield 2, 10, 12, [(77, 0)]), (.iload 3, 0, 0, []), (.iload 5, 0, 0, [])] (pc1 := 48) (ls1 := [some (vm_r 0), some (vm_i v1), some (vm_i v2), some (vm_i v3), some (vm_i v4), some (vm_i v5), w6]) (st1 := [vm_i v5, vm_i v3, vm_r 77]) (m1 := m) (ob := ((true && vm_is 0 10) && true)) (by decide +kernel) rfl (vm_u (vm_u rfl (by decide +kernel)) rfl) ?_
    refine vm_gc (g := 45) (na := 3) (av := [vm_r 77, vm_i v3, vm_i v5]) (rest := []) (i := (.invokevirtual 0, 45, 3, [])) (len := 3) (by decide +kernel) rfl rfl rfl (by decide +kernel) (by decide +kernel) rfl rfl (vm_u (vm_okh_v (c := 3) (by decide +kernel) (by decide +kernel)) (show vm_okn 45 3 0 0 0 3 = true by decide +kernel)) ?_
    refine vm_G.mono h ?_
    rintro _ m1 ⟨z1, rfl, h⟩
    show vm_G 151 51 [some (vm_r 0), some (vm_i v1), some (vm_i v2), some (vm_i v3), some (vm_i v4), some (vm_i v5), w6] [vm_i z1] m1 _
    refine vm_gp [(.istore 6, 0, 0, []), (.iload 6, 0, 0, []), (.iconst (-2), 0, 0, [])] (pc1 := 57) (ls1 := [some (vm_r 0), some (vm_i v1), some (vm_i v2), some (vm_i v3), some (vm_i v4), some (vm_i v5), some (vm_i z1)]) (st1 := [vm_i (-2), vm_i z1]) (m1 := m1) (ob := true) (by decide +kernel) rfl rfl ?_
    refine vm_gj (c := z1 = (-2)) (t := 68) (e := 60) (i := (.if_icmp .eq 0, 68, 0, [])) (len := 3) (st1 := []) (by decide +kernel) rfl rfl (fun c2 => ?_) (fun c2 => ?_)
    · replace h := h.1 c2
      obtain ⟨o5_0, h⟩ := h
      refine vm_gp [(.iinc 5 1, 0, 0, []), (.goto 0, 34, 0, [])] (pc1 := 34) (ls1 := [some (vm_r 0), some (vm_i v1), some (vm_i v2), some (vm_i v3), some (vm_i v4), some (vm_i (v5 + 1)), some (vm_i z1)]) (st1 := []) (m1 := m1) (ob := (true && decide (vm_32 (v5 + 1)))) (by decide +kernel) rfl (vm_t rfl o5_0) ?_
      exact h
    · replace h := h.2 c2
      obtain ⟨⟨o6_0, o6_1, o6_2⟩, h⟩ := h
      refine vm_gp [(.iload 1, 0, 0, []), (.iload 6, 0, 0, []), (.iadd, 0, 0, []), (.istore 1, 0, 0, []), (.iinc 2 1, 0, 0, []), (.iinc 5 1, 0, 0, []), (.goto 0, 34, 0, [])] (pc1 := 34) (ls1 := [some (vm_r 0), some (vm_i (v1 + z1)), some (vm_i (v2 + 1)), some (vm_i v3), some (vm_i v4), some (vm_i (v5 + 1)), some (vm_i z1)]) (st1 := []) (m1 := m1) (ob := (((true && decide (vm_32 (v1 + z1))) && decide (vm_32 (v2 + 1))) && decide (vm_32 (v5 + 1)))) (by decide +kernel) rfl (vm_t (vm_t (vm_t rfl o6_0) o6_1) o6_2) ?_
      exact h
abbrev ku10_viewLength_0  (m : vm_M) (Q : Int → vm_M → Prop) : Prop := vm_G 152 0 [some (vm_r 0)] [] m (vm_qi Q)
set_option maxRecDepth 20000 in
theorem ru10_viewLength_0  {m : vm_M} {Q : Int → vm_M → Prop}  (h :
    (vm_C 137 [vm_r 0] m (vm_qv (fun m1 =>
      (vm_C 78 [vm_r 85, vm_i (-1)] m1 (vm_qv (fun m2 =>
        (vm_C 157 [vm_r 0] m2 (vm_qv (fun m3 =>
          Q (m3 85 0) m3)))))))))) : vm_C 152 [vm_r 0] m (vm_qi Q) := by
  show vm_G 152 0 [some (vm_r 0)] [] m (vm_qi Q)
  refine vm_gp [(.aload 0, 0, 0, [])] (pc1 := 1) (ls1 := [some (vm_r 0)]) (st1 := [vm_r 0]) (m1 := m) (ob := true) (by decide +kernel) rfl rfl ?_
  refine vm_gc (g := 137) (na := 1) (av := [vm_r 0]) (rest := []) (i := (.invokevirtual 0, 137, 1, [])) (len := 3) (by decide +kernel) rfl rfl rfl (by decide +kernel) (by decide +kernel) rfl rfl (vm_u (vm_okh_v (c := 10) (by decide +kernel) (by decide +kernel)) (show vm_okn 137 1 0 0 0 1 = true by decide +kernel)) ?_
  refine vm_G.mono h ?_
  rintro _ m1 ⟨rfl, h⟩
  show vm_G 152 4 [some (vm_r 0)] [] m1 _
  refine vm_gp [(.aload 0, 0, 0, []), (.getfield 2, 10, 13, [(85, 0)]), (.iconst (-1), 0, 0, [])] (pc1 := 9) (ls1 := [some (vm_r 0)]) (st1 := [vm_i (-1), vm_r 85]) (m1 := m1) (ob := ((true && vm_is 0 10) && true)) (by decide +kernel) rfl (vm_u (vm_u rfl (by decide +kernel)) rfl) ?_
  refine vm_gc (g := 78) (na := 2) (av := [vm_r 85, vm_i (-1)]) (rest := []) (i := (.invokevirtual 0, 78, 2, [])) (len := 3) (by decide +kernel) rfl rfl rfl (by decide +kernel) (by decide +kernel) rfl rfl (vm_u (vm_okh_v (c := 6) (by decide +kernel) (by decide +kernel)) (show vm_okn 78 2 0 0 0 2 = true by decide +kernel)) ?_
  refine vm_G.mono h ?_
  rintro _ m2 ⟨rfl, h⟩
  show vm_G 152 12 [some (vm_r 0)] [] m2 _
  refine vm_gp [(.aload 0, 0, 0, [])] (pc1 := 13) (ls1 := [some (vm_r 0)]) (st1 := [vm_r 0]) (m1 := m2) (ob := true) (by decide +kernel) rfl rfl ?_
  refine vm_gc (g := 157) (na := 1) (av := [vm_r 0]) (rest := []) (i := (.invokevirtual 0, 157, 1, [])) (len := 3) (by decide +kernel) rfl rfl rfl (by decide +kernel) (by decide +kernel) rfl rfl (vm_u (vm_okh_v (c := 10) (by decide +kernel) (by decide +kernel)) (show vm_okn 157 1 0 0 0 1 = true by decide +kernel)) ?_
  refine vm_G.mono h ?_
  rintro _ m3 ⟨rfl, h⟩
  show vm_G 152 16 [some (vm_r 0)] [] m3 _
  refine vm_gp [(.aload 0, 0, 0, []), (.getfield 2, 10, 13, [(85, 0)]), (.getfield 0, 6, 0, [])] (pc1 := 23) (ls1 := [some (vm_r 0)]) (st1 := [vm_i (m3 85 0)]) (m1 := m3) (ob := (((true && vm_is 0 10) && true) && vm_is 85 6)) (by decide +kernel) rfl (vm_u (vm_u (vm_u rfl (by decide +kernel)) rfl) (by decide +kernel)) ?_
  exact vm_gr (r := some (vm_i (m3 85 0))) (i := (.ireturn, 1, 0, [])) (len := 1) (by decide +kernel) rfl rfl rfl ⟨_, rfl, h⟩
abbrev ku10_viewByte_0 (v1 : Int) (m : vm_M) (Q : Int → vm_M → Prop) : Prop := vm_G 153 0 [some (vm_r 0), some (vm_i v1)] [] m (vm_qi Q)
set_option maxRecDepth 20000 in
theorem ru10_viewByte_0 {v1 : Int} {m : vm_M} {Q : Int → vm_M → Prop}  (h :
    ((0 ≤ v1 →
      (vm_C 137 [vm_r 0] m (vm_qv (fun m1 =>
        (vm_C 78 [vm_r 85, vm_i v1] m1 (vm_qv (fun m2 =>
          (vm_C 157 [vm_r 0] m2 (vm_qv (fun m3 =>
            Q (m3 85 2) m3)))))))))) ∧ (¬ 0 ≤ v1 →
      Q (-1) m))) : vm_C 153 [vm_r 0, vm_i v1] m (vm_qi Q) := by
  show vm_G 153 0 [some (vm_r 0), some (vm_i v1)] [] m (vm_qi Q)
  refine vm_gp [(.iload 1, 0, 0, [])] (pc1 := 1) (ls1 := [some (vm_r 0), some (vm_i v1)]) (st1 := [vm_i v1]) (m1 := m) (ob := true) (by decide +kernel) rfl rfl ?_
  refine vm_gj (c := 0 ≤ v1) (t := 6) (e := 4) (i := (.ifCond .ge 0, 6, 0, [])) (len := 3) (st1 := []) (by decide +kernel) rfl rfl (fun c1 => ?_) (fun c1 => ?_)
  · replace h := h.1 c1
    refine vm_gp [(.aload 0, 0, 0, [])] (pc1 := 7) (ls1 := [some (vm_r 0), some (vm_i v1)]) (st1 := [vm_r 0]) (m1 := m) (ob := true) (by decide +kernel) rfl rfl ?_
    refine vm_gc (g := 137) (na := 1) (av := [vm_r 0]) (rest := []) (i := (.invokevirtual 0, 137, 1, [])) (len := 3) (by decide +kernel) rfl rfl rfl (by decide +kernel) (by decide +kernel) rfl rfl (vm_u (vm_okh_v (c := 10) (by decide +kernel) (by decide +kernel)) (show vm_okn 137 1 0 0 0 1 = true by decide +kernel)) ?_
    refine vm_G.mono h ?_
    rintro _ m1 ⟨rfl, h⟩
    show vm_G 153 10 [some (vm_r 0), some (vm_i v1)] [] m1 _
    refine vm_gp [(.aload 0, 0, 0, []), (.getfield 2, 10, 13, [(85, 0)]), (.iload 1, 0, 0, [])] (pc1 := 15) (ls1 := [some (vm_r 0), some (vm_i v1)]) (st1 := [vm_i v1, vm_r 85]) (m1 := m1) (ob := ((true && vm_is 0 10) && true)) (by decide +kernel) rfl (vm_u (vm_u rfl (by decide +kernel)) rfl) ?_
    refine vm_gc (g := 78) (na := 2) (av := [vm_r 85, vm_i v1]) (rest := []) (i := (.invokevirtual 0, 78, 2, [])) (len := 3) (by decide +kernel) rfl rfl rfl (by decide +kernel) (by decide +kernel) rfl rfl (vm_u (vm_okh_v (c := 6) (by decide +kernel) (by decide +kernel)) (show vm_okn 78 2 0 0 0 2 = true by decide +kernel)) ?_
    refine vm_G.mono h ?_
    rintro _ m2 ⟨rfl, h⟩
    show vm_G 153 18 [some (vm_r 0), some (vm_i v1)] [] m2 _
    refine vm_gp [(.aload 0, 0, 0, [])] (pc1 := 19) (ls1 := [some (vm_r 0), some (vm_i v1)]) (st1 := [vm_r 0]) (m1 := m2) (ob := true) (by decide +kernel) rfl rfl ?_
    refine vm_gc (g := 157) (na := 1) (av := [vm_r 0]) (rest := []) (i := (.invokevirtual 0, 157, 1, [])) (len := 3) (by decide +kernel) rfl rfl rfl (by decide +kernel) (by decide +kernel) rfl rfl (vm_u (vm_okh_v (c := 10) (by decide +kernel) (by decide +kernel)) (show vm_okn 157 1 0 0 0 1 = true by decide +kernel)) ?_
    refine vm_G.mono h ?_
    rintro _ m3 ⟨rfl, h⟩
    show vm_G 153 22 [some (vm_r 0), some (vm_i v1)] [] m3 _
    refine vm_gp [(.aload 0, 0, 0, []), (.getfield 2, 10, 13, [(85, 0)]), (.getfield 0, 6, 2, [])] (pc1 := 29) (ls1 := [some (vm_r 0), some (vm_i v1)]) (st1 := [vm_i (m3 85 2)]) (m1 := m3) (ob := (((true && vm_is 0 10) && true) && vm_is 85 6)) (by decide +kernel) rfl (vm_u (vm_u (vm_u rfl (by decide +kernel)) rfl) (by decide +kernel)) ?_
    exact vm_gr (r := some (vm_i (m3 85 2))) (i := (.ireturn, 1, 0, [])) (len := 1) (by decide +kernel) rfl rfl rfl ⟨_, rfl, h⟩
  · replace h := h.2 c1
    refine vm_gp [(.iconst (-1), 0, 0, [])] (pc1 := 5) (ls1 := [some (vm_r 0), some (vm_i v1)]) (st1 := [vm_i (-1)]) (m1 := m) (ob := true) (by decide +kernel) rfl rfl ?_
    exact vm_gr (r := some (vm_i (-1))) (i := (.ireturn, 1, 0, [])) (len := 1) (by decide +kernel) rfl rfl rfl ⟨_, rfl, h⟩
abbrev ku10_setupLength_0  (m : vm_M) (Q : Int → vm_M → Prop) : Prop := vm_G 154 0 [some (vm_r 0)] [] m (vm_qi Q)
set_option maxRecDepth 20000 in
theorem ru10_setupLength_0  {m : vm_M} {Q : Int → vm_M → Prop}  (h :
    (vm_C 78 [vm_r 85, vm_i (-1)] m (vm_qv (fun m1 =>
      (vm_C 158 [vm_r 0] m1 (vm_qv (fun m2 =>
        Q (m2 85 0) m2))))))) : vm_C 154 [vm_r 0] m (vm_qi Q) := by
  show vm_G 154 0 [some (vm_r 0)] [] m (vm_qi Q)
  refine vm_gp [(.aload 0, 0, 0, []), (.getfield 2, 10, 13, [(85, 0)]), (.iconst (-1), 0, 0, [])] (pc1 := 5) (ls1 := [some (vm_r 0)]) (st1 := [vm_i (-1), vm_r 85]) (m1 := m) (ob := ((true && vm_is 0 10) && true)) (by decide +kernel) rfl (vm_u (vm_u rfl (by decide +kernel)) rfl) ?_
  refine vm_gc (g := 78) (na := 2) (av := [vm_r 85, vm_i (-1)]) (rest := []) (i := (.invokevirtual 0, 78, 2, [])) (len := 3) (by decide +kernel) rfl rfl rfl (by decide +kernel) (by decide +kernel) rfl rfl (vm_u (vm_okh_v (c := 6) (by decide +kernel) (by decide +kernel)) (show vm_okn 78 2 0 0 0 2 = true by decide +kernel)) ?_
  refine vm_G.mono h ?_
  rintro _ m1 ⟨rfl, h⟩
  show vm_G 154 8 [some (vm_r 0)] [] m1 _
  refine vm_gp [(.aload 0, 0, 0, [])] (pc1 := 9) (ls1 := [some (vm_r 0)]) (st1 := [vm_r 0]) (m1 := m1) (ob := true) (by decide +kernel) rfl rfl ?_
  refine vm_gc (g := 158) (na := 1) (av := [vm_r 0]) (rest := []) (i := (.invokevirtual 0, 158, 1, [])) (len := 3) (by decide +kernel) rfl rfl rfl (by decide +kernel) (by decide +kernel) rfl rfl (vm_u (vm_okh_v (c := 10) (by decide +kernel) (by decide +kernel)) (show vm_okn 158 1 0 0 0 1 = true by decide +kernel)) ?_
  refine vm_G.mono h ?_
  rintro _ m2 ⟨rfl, h⟩
  show vm_G 154 12 [some (vm_r 0)] [] m2 _
  refine vm_gp [(.aload 0, 0, 0, []), (.getfield 2, 10, 13, [(85, 0)]), (.getfield 0, 6, 0, [])] (pc1 := 19) (ls1 := [some (vm_r 0)]) (st1 := [vm_i (m2 85 0)]) (m1 := m2) (ob := (((true && vm_is 0 10) && true) && vm_is 85 6)) (by decide +kernel) rfl (vm_u (vm_u (vm_u rfl (by decide +kernel)) rfl) (by decide +kernel)) ?_
  exact vm_gr (r := some (vm_i (m2 85 0))) (i := (.ireturn, 1, 0, [])) (len := 1) (by decide +kernel) rfl rfl rfl ⟨_, rfl, h⟩
abbrev ku10_setupByte_0 (v1 : Int) (m : vm_M) (Q : Int → vm_M → Prop) : Prop := vm_G 155 0 [some (vm_r 0), some (vm_i v1)] [] m (vm_qi Q)
set_option maxRecDepth 20000 in
theorem ru10_setupByte_0 {v1 : Int} {m : vm_M} {Q : Int → vm_M → Prop}  (h :
    ((0 ≤ v1 →
      (vm_C 78 [vm_r 85, vm_i v1] m (vm_qv (fun m1 =>
        (vm_C 158 [vm_r 0] m1 (vm_qv (fun m2 =>
          Q (m2 85 2) m2))))))) ∧ (¬ 0 ≤ v1 →
      Q (-1) m))) : vm_C 155 [vm_r 0, vm_i v1] m (vm_qi Q) := by
  show vm_G 155 0 [some (vm_r 0), some (vm_i v1)] [] m (vm_qi Q)
  refine vm_gp [(.iload 1, 0, 0, [])] (pc1 := 1) (ls1 := [some (vm_r 0), some (vm_i v1)]) (st1 := [vm_i v1]) (m1 := m) (ob := true) (by decide +kernel) rfl rfl ?_
  refine vm_gj (c := 0 ≤ v1) (t := 6) (e := 4) (i := (.ifCond .ge 0, 6, 0, [])) (len := 3) (st1 := []) (by decide +kernel) rfl rfl (fun c1 => ?_) (fun c1 => ?_)
  · replace h := h.1 c1
    refine vm_gp [(.aload 0, 0, 0, []), (.getfield 2, 10, 13, [(85, 0)]), (.iload 1, 0, 0, [])] (pc1 := 11) (ls1 := [some (vm_r 0), some (vm_i v1)]) (st1 := [vm_i v1, vm_r 85]) (m1 := m) (ob := ((true && vm_is 0 10) && true)) (by decide +kernel) rfl (vm_u (vm_u rfl (by decide +kernel)) rfl) ?_
    refine vm_gc (g := 78) (na := 2) (av := [vm_r 85, vm_i v1]) (rest := []) (i := (.invokevirtual 0, 78, 2, [])) (len := 3) (by decide +kernel) rfl rfl rfl (by decide +kernel) (by decide +kernel) rfl rfl (vm_u (vm_okh_v (c := 6) (by decide +kernel) (by decide +kernel)) (show vm_okn 78 2 0 0 0 2 = true by decide +kernel)) ?_
    refine vm_G.mono h ?_
    rintro _ m1 ⟨rfl, h⟩
    show vm_G 155 14 [some (vm_r 0), some (vm_i v1)] [] m1 _
    refine vm_gp [(.aload 0, 0, 0, [])] (pc1 := 15) (ls1 := [some (vm_r 0), some (vm_i v1)]) (st1 := [vm_r 0]) (m1 := m1) (ob := true) (by decide +kernel) rfl rfl ?_
    refine vm_gc (g := 158) (na := 1) (av := [vm_r 0]) (rest := []) (i := (.invokevirtual 0, 158, 1, [])) (len := 3) (by decide +kernel) rfl rfl rfl (by decide +kernel) (by decide +kernel) rfl rfl (vm_u (vm_okh_v (c := 10) (by decide +kernel) (by decide +kernel)) (show vm_okn 158 1 0 0 0 1 = true by decide +kernel)) ?_
    refine vm_G.mono h ?_
    rintro _ m2 ⟨rfl, h⟩
    show vm_G 155 18 [some (vm_r 0), some (vm_i v1)] [] m2 _
    refine vm_gp [(.aload 0, 0, 0, []), (.getfield 2, 10, 13, [(85, 0)]), (.getfield 0, 6, 2, [])] (pc1 := 25) (ls1 := [some (vm_r 0), some (vm_i v1)]) (st1 := [vm_i (m2 85 2)]) (m1 := m2) (ob := (((true && vm_is 0 10) && true) && vm_is 85 6)) (by decide +kernel) rfl (vm_u (vm_u (vm_u rfl (by decide +kernel)) rfl) (by decide +kernel)) ?_
    exact vm_gr (r := some (vm_i (m2 85 2))) (i := (.ireturn, 1, 0, [])) (len := 1) (by decide +kernel) rfl rfl rfl ⟨_, rfl, h⟩
  · replace h := h.2 c1
    refine vm_gp [(.iconst (-1), 0, 0, [])] (pc1 := 5) (ls1 := [some (vm_r 0), some (vm_i v1)]) (st1 := [vm_i (-1)]) (m1 := m) (ob := true) (by decide +kernel) rfl rfl ?_
    exact vm_gr (r := some (vm_i (-1))) (i := (.ireturn, 1, 0, [])) (len := 1) (by decide +kernel) rfl rfl rfl ⟨_, rfl, h⟩
abbrev ku10_tapeLength_0  (m : vm_M) (Q : Int → vm_M → Prop) : Prop := vm_G 156 0 [some (vm_r 0)] [] m (vm_qi Q)
set_option maxRecDepth 20000 in
theorem ru10_tapeLength_0  {m : vm_M} {Q : Int → vm_M → Prop}  (h :
    Q (m 1 1) m) : vm_C 156 [vm_r 0] m (vm_qi Q) := by
  show vm_G 156 0 [some (vm_r 0)] [] m (vm_qi Q)
  refine vm_gp [(.aload 0, 0, 0, []), (.getfield 2, 10, 0, [(1, 0)]), (.getfield 0, 7, 1, [])] (pc1 := 7) (ls1 := [some (vm_r 0)]) (st1 := [vm_i (m 1 1)]) (m1 := m) (ob := (((true && vm_is 0 10) && true) && vm_is 1 7)) (by decide +kernel) rfl (vm_u (vm_u (vm_u rfl (by decide +kernel)) rfl) (by decide +kernel)) ?_
  exact vm_gr (r := some (vm_i (m 1 1))) (i := (.ireturn, 1, 0, [])) (len := 1) (by decide +kernel) rfl rfl rfl ⟨_, rfl, h⟩
abbrev ku10_writeView_0  (m : vm_M) (Q : vm_M → Prop) : Prop := vm_G 157 0 [some (vm_r 0), none, none, none, none] [] m (vm_qv Q)
abbrev ku10_writeView_2 (v1 : Int) (w2 : Option vm_V) (w3 : Option vm_V) (w4 : Option vm_V) (m : vm_M) (Q : vm_M → Prop) : Prop := vm_G 157 2 [some (vm_r 0), some (vm_i v1), w2, w3, w4] [] m (vm_qv Q)
abbrev ku10_writeView_60 (v1 : Int) (v2 : Int) (v3 : Int) (w4 : Option vm_V) (m : vm_M) (Q : vm_M → Prop) : Prop := vm_G 157 60 [some (vm_r 0), some (vm_i v1), some (vm_i v2), some (vm_i v3), w4] [] m (vm_qv Q)
abbrev ku10_writeView_68 (v1 : Int) (v2 : Int) (v3 : Int) (v4 : Int) (m : vm_M) (Q : vm_M → Prop) : Prop := vm_G 157 68 [some (vm_r 0), some (vm_i v1), some (vm_i v2), some (vm_i v3), some (vm_i v4)] [] m (vm_qv Q)
set_option maxRecDepth 20000 in
theorem ru10_writeView_0  {m : vm_M} {Q : vm_M → Prop}  (h :
    ku10_writeView_2 0 none none none m Q) : vm_C 157 [vm_r 0] m (vm_qv Q) := by
  show vm_G 157 0 [some (vm_r 0), none, none, none, none] [] m (vm_qv Q)
  refine vm_gp [(.iconst 0, 0, 0, []), (.istore 1, 0, 0, [])] (pc1 := 2) (ls1 := [some (vm_r 0), some (vm_i 0), none, none, none]) (st1 := []) (m1 := m) (ob := true) (by decide +kernel) rfl rfl ?_
  exact h
set_option maxRecDepth 20000 in
theorem ru10_writeView_2 {v1 : Int} {w2 : Option vm_V} {w3 : Option vm_V} {w4 : Option vm_V} {m : vm_M} {Q : vm_M → Prop}  (h :
    (((m 67 8) ≤ v1 →
      Q m) ∧ (¬ (m 67 8) ≤ v1 →
      ((0 ≤ v1 ∧ v1 < 12)) ∧
      (vm_C 81 [vm_r 85, vm_i (m 80 v1)] m (vm_qv (fun m1 =>
        (vm_C 79 [vm_r 85, vm_i 58] m1 (vm_qv (fun m2 =>
          ((vm_32 (v1 + 1)) ∧ (0 ≤ (v1 + 1) ∧ (v1 + 1) < 13) ∧ (0 ≤ v1 ∧ v1 < 13)) ∧
          ku10_writeView_60 v1 (m2 70 (v1 + 1)) (m2 70 v1) w4 m2 Q))))))))) : ku10_writeView_2 v1 w2 w3 w4 m Q := by
  show vm_G 157 2 [some (vm_r 0), some (vm_i v1), w2, w3, w4] [] m (vm_qv Q)
  refine vm_gp [(.iload 1, 0, 0, []), (.aload 0, 0, 0, []), (.getfield 2, 10, 10, [(67, 0)]), (.getfield 0, 1, 8, [])] (pc1 := 10) (ls1 := [some (vm_r 0), some (vm_i v1), w2, w3, w4]) (st1 := [vm_i (m 67 8), vm_i v1]) (m1 := m) (ob := (((true && vm_is 0 10) && true) && vm_is 67 1)) (by decide +kernel) rfl (vm_u (vm_u (vm_u rfl (by decide +kernel)) rfl) (by decide +kernel)) ?_
  refine vm_gj (c := (m 67 8) ≤ v1) (t := 159) (e := 13) (i := (.if_icmp .ge 0, 159, 0, [])) (len := 3) (st1 := []) (by decide +kernel) rfl rfl (fun c1 => ?_) (fun c1 => ?_)
  · replace h := h.1 c1
    exact vm_gr (r := none) (i := (.return_, 0, 0, [])) (len := 1) (by decide +kernel) rfl rfl rfl ⟨rfl, h⟩
  · replace h := h.2 c1
    obtain ⟨o3_0, h⟩ := h
    refine vm_gp [(.aload 0, 0, 0, []), (.getfield 2, 10, 13, [(85, 0)]), (.aload 0, 0, 0, []), (.getfield 2, 10, 12, [(77, 0)]), (.getfield 2, 3, 6, [(80, 0)]), (.iload 1, 0, 0, []), (.iaload, 12, 0, [])] (pc1 := 26) (ls1 := [some (vm_r 0), some (vm_i v1), w2, w3, w4]) (st1 := [vm_i (m 80 v1), vm_r 85]) (m1 := m) (ob := ((((((((true && vm_is 0 10) && true) && vm_is 0 10) && true) && vm_is 77 3) && true) && vm_ar 80 100 12) && decide (0 ≤ v1 ∧ v1 < 12))) (by decide +kernel) rfl (vm_t (vm_u (vm_u (vm_u (vm_u (vm_u (vm_u (vm_u rfl (by decide +kernel)) rfl) (by decide +kernel)) rfl) (by decide +kernel)) rfl) (by decide +kernel)) o3_0) ?_
    refine vm_gc (g := 81) (na := 2) (av := [vm_r 85, vm_i (m 80 v1)]) (rest := []) (i := (.invokevirtual 0, 81, 2, [])) (len := 3) (by decide +kernel) rfl rfl rfl (by decide +kernel) (by decide +kernel) rfl rfl (vm_u (vm_okh_v (c := 6) (by decide +kernel) (by decide +kernel)) (show vm_okn 81 2 0 0 0 2 = true by decide +kernel)) ?_
    refine vm_G.mono h ?_
    rintro _ m1 ⟨rfl, h⟩
    show vm_G 157 29 [some (vm_r 0), some (vm_i v1), w2, w3, w4] [] m1 _
    refine vm_gp [(.aload 0, 0, 0, []), (.getfield 2, 10, 13, [(85, 0)]), (.iconst 58, 0, 0, [])] (pc1 := 35) (ls1 := [some (vm_r 0), some (vm_i v1), w2, w3, w4]) (st1 := [vm_i 58, vm_r 85]) (m1 := m1) (ob := ((true && vm_is 0 10) && true)) (by decide +kernel) rfl (vm_u (vm_u rfl (by decide +kernel)) rfl) ?_
    refine vm_gc (g := 79) (na := 2) (av := [vm_r 85, vm_i 58]) (rest := []) (i := (.invokevirtual 0, 79, 2, [])) (len := 3) (by decide +kernel) rfl rfl rfl (by decide +kernel) (by decide +kernel) rfl rfl (vm_u (vm_okh_v (c := 6) (by decide +kernel) (by decide +kernel)) (show vm_okn 79 2 0 0 0 2 = true by decide +kernel)) ?_
    refine vm_G.mono h ?_
    rintro _ m2 ⟨rfl, h⟩
    show vm_G 157 38 [some (vm_r 0), some (vm_i v1), w2, w3, w4] [] m2 _
    obtain ⟨⟨o5_0, o5_1, o5_2⟩, h⟩ := h
    refine vm_gp [(.aload 0, 0, 0, []), (.getfield 2, 10, 10, [(67, 0)]), (.getfield 2, 1, 2, [(3, 1)]), (.iload 1, 0, 0, []), (.iconst 1, 0, 0, []), (.iadd, 0, 0, []), (.iaload, 13, 0, []), (.istore 2, 0, 0, []), (.aload 0, 0, 0, []), (.getfield 2, 10, 10, [(67, 0)]), (.getfield 2, 1, 2, [(3, 1)]), (.iload 1, 0, 0, []), (.iaload, 13, 0, []), (.istore 3, 0, 0, [])] (pc1 := 60) (ls1 := [some (vm_r 0), some (vm_i v1), some (vm_i (m2 70 (v1 + 1))), some (vm_i (m2 70 v1)), w4]) (st1 := []) (m1 := m2) (ob := (((((((((((((true && vm_is 0 10) && true) && vm_is 67 1) && true) && decide (vm_32 (v1 + 1))) && vm_ar 70 100 13) && decide (0 ≤ (v1 + 1) ∧ (v1 + 1) < 13)) && vm_is 0 10) && true) && vm_is 67 1) && true) && vm_ar 70 100 13) && decide (0 ≤ v1 ∧ v1 < 13))) (by decide +kernel) rfl (vm_t (vm_u (vm_u (vm_u (vm_u (vm_u (vm_t (vm_u (vm_t (vm_u (vm_u (vm_u (vm_u rfl (by decide +kernel)) rfl) (by decide +kernel)) rfl) o5_0) (by decide +kernel)) o5_1) (by decide +kernel)) rfl) (by decide +kernel)) rfl) (by decide +kernel)) o5_2) ?_
    exact h
set_option maxRecDepth 20000 in
theorem ru10_writeView_60 {v1 : Int} {v2 : Int} {v3 : Int} {w4 : Option vm_V} {m : vm_M} {Q : vm_M → Prop}  (h :
    ((v2 ≤ v3 →
      ((0 ≤ v1 ∧ v1 < 12)) ∧
      (vm_C 81 [vm_r 85, vm_i (m 78 v1)] m (vm_qv (fun m1 =>
        (vm_C 79 [vm_r 85, vm_i 10] m1 (vm_qv (fun m2 =>
          ((vm_32 (v1 + 1))) ∧
          ku10_writeView_2 (v1 + 1) (some (vm_i v2)) (some (vm_i v3)) w4 m2 Q))))))) ∧ (¬ v2 ≤ v3 →
      ku10_writeView_68 v1 v2 v3 0 m Q))) : ku10_writeView_60 v1 v2 v3 w4 m Q := by
  show vm_G 157 60 [some (vm_r 0), some (vm_i v1), some (vm_i v2), some (vm_i v3), w4] [] m (vm_qv Q)
  refine vm_gp [(.iload 3, 0, 0, []), (.iload 2, 0, 0, [])] (pc1 := 62) (ls1 := [some (vm_r 0), some (vm_i v1), some (vm_i v2), some (vm_i v3), w4]) (st1 := [vm_i v2, vm_i v3]) (m1 := m) (ob := true) (by decide +kernel) rfl rfl ?_
  refine vm_gj (c := v2 ≤ v3) (t := 128) (e := 65) (i := (.if_icmp .ge 0, 128, 0, [])) (len := 3) (st1 := []) (by decide +kernel) rfl rfl (fun c1 => ?_) (fun c1 => ?_)
  · replace h := h.1 c1
    obtain ⟨o2_0, h⟩ := h
    refine vm_gp [(.aload 0, 0, 0, []), (.getfield 2, 10, 13, [(85, 0)]), (.aload 0, 0, 0, []), (.getfield 2, 10, 12, [(77, 0)]), (.getfield 2, 3, 4, [(78, 0)]), (.iload 1, 0, 0, []), (.iaload, 12, 0, [])] (pc1 := 141) (ls1 := [some (vm_r 0), some (vm_i v1), some (vm_i v2), some (vm_i v3), w4]) (st1 := [vm_i (m 78 v1), vm_r 85]) (m1 := m) (ob := ((((((((true && vm_is 0 10) && true) && vm_is 0 10) && true) && vm_is 77 3) && true) && vm_ar 78 100 12) && decide (0 ≤ v1 ∧ v1 < 12))) (by decide +kernel) rfl (vm_t (vm_u (vm_u (vm_u (vm_u (vm_u (vm_u (vm_u rfl (by decide +kernel)) rfl) (by decide +kernel)) rfl) (by decide +kernel)) rfl) (by decide +kernel)) o2_0) ?_
    refine vm_gc (g := 81) (na := 2) (av := [vm_r 85, vm_i (m 78 v1)]) (rest := []) (i := (.invokevirtual 0, 81, 2, [])) (len := 3) (by decide +kernel) rfl rfl rfl (by decide +kernel) (by decide +kernel) rfl rfl (vm_u (vm_okh_v (c := 6) (by decide +kernel) (by decide +kernel)) (show vm_okn 81 2 0 0 0 2 = true by decide +kernel)) ?_
    refine vm_G.mono h ?_
    rintro _ m1 ⟨rfl, h⟩
    show vm_G 157 144 [some (vm_r 0), some (vm_i v1), some (vm_i v2), some (vm_i v3), w4] [] m1 _
    refine vm_gp [(.aload 0, 0, 0, []), (.getfield 2, 10, 13, [(85, 0)]), (.iconst 10, 0, 0, [])] (pc1 := 150) (ls1 := [some (vm_r 0), some (vm_i v1), some (vm_i v2), some (vm_i v3), w4]) (st1 := [vm_i 10, vm_r 85]) (m1 := m1) (ob := ((true && vm_is 0 10) && true)) (by decide +kernel) rfl (vm_u (vm_u rfl (by decide +kernel)) rfl) ?_
    refine vm_gc (g := 79) (na := 2) (av := [vm_r 85, vm_i 10]) (rest := []) (i := (.invokevirtual 0, 79, 2, [])) (len := 3) (by decide +kernel) rfl rfl rfl (by decide +kernel) (by decide +kernel) rfl rfl (vm_u (vm_okh_v (c := 6) (by decide +kernel) (by decide +kernel)) (show vm_okn 79 2 0 0 0 2 = true by decide +kernel)) ?_
    refine vm_G.mono h ?_
    rintro _ m2 ⟨rfl, h⟩
    show vm_G 157 153 [some (vm_r 0), some (vm_i v1), some (vm_i v2), some (vm_i v3), w4] [] m2 _
    obtain ⟨o4_0, h⟩ := h
    refine vm_gp [(.iinc 1 1, 0, 0, []), (.goto 0, 2, 0, [])] (pc1 := 2) (ls1 := [some (vm_r 0), some (vm_i (v1 + 1)), some (vm_i v2), some (vm_i v3), w4]) (st1 := []) (m1 := m2) (ob := (true && decide (vm_32 (v1 + 1)))) (by decide +kernel) rfl (vm_t rfl o4_0) ?_
    exact h
  · replace h := h.2 c1
    refine vm_gp [(.iconst 0, 0, 0, []), (.istore 4, 0, 0, [])] (pc1 := 68) (ls1 := [some (vm_r 0), some (vm_i v1), some (vm_i v2), some (vm_i v3), some (vm_i 0)]) (st1 := []) (m1 := m) (ob := true) (by decide +kernel) rfl rfl ?_
    exact h
set_option maxRecDepth 20000 in
theorem ru10_writeView_68 {v1 : Int} {v2 : Int} {v3 : Int} {v4 : Int} {m : vm_M} {Q : vm_M → Prop}  (h :
    ((0 ≤ v3 ∧ v3 < 30)) ∧
    (((m 12 v3) ≤ v4 →
      (vm_C 79 [vm_r 85, vm_i 32] m (vm_qv (fun m1 =>
        ((vm_32 (v3 + 1))) ∧
        ku10_writeView_60 v1 v2 (v3 + 1) (some (vm_i v4)) m1 Q)))) ∧ (¬ (m 12 v3) ≤ v4 →
      ((vm_32 (v3 * 12)) ∧ (vm_32 ((v3 * 12) + v4)) ∧ (0 ≤ ((v3 * 12) + v4) ∧ ((v3 * 12) + v4) < 360) ∧ (vm_32 (97 + (m 13 ((v3 * 12) + v4))))) ∧
      (vm_C 79 [vm_r 85, vm_i (97 + (m 13 ((v3 * 12) + v4)))] m (vm_qv (fun m2 =>
        ((vm_32 (v4 + 1))) ∧
        ku10_writeView_68 v1 v2 v3 (v4 + 1) m2 Q)))))) : ku10_writeView_68 v1 v2 v3 v4 m Q := by
  show vm_G 157 68 [some (vm_r 0), some (vm_i v1), some (vm_i v2), some (vm_i v3), some (vm_i v4)] [] m (vm_qv Q)
  obtain ⟨o1_0, h⟩ := h
  refine vm_gp [(.iload 4, 0, 0, []), (.aload 0, 0, 0, []), (.getfield 2, 10, 3, [(9, 0)]), (.getfield 2, 4, 2, [(3, 1)]), (.iload 3, 0, 0, []), (.iaload, 30, 0, [])] (pc1 := 79) (ls1 := [some (vm_r 0), some (vm_i v1), some (vm_i v2), some (vm_i v3), some (vm_i v4)]) (st1 := [vm_i (m 12 v3), vm_i v4]) (m1 := m) (ob := ((((((true && vm_is 0 10) && true) && vm_is 9 4) && true) && vm_ar 12 100 30) && decide (0 ≤ v3 ∧ v3 < 30))) (by decide +kernel) rfl (vm_t (vm_u (vm_u (vm_u (vm_u (vm_u rfl (by decide +kernel)) rfl) (by decide +kernel)) rfl) (by decide +kernel)) o1_0) ?_
  refine vm_gj (c := (m 12 v3) ≤ v4) (t := 113) (e := 82) (i := (.if_icmp .ge 0, 113, 0, [])) (len := 3) (st1 := []) (by decide +kernel) rfl rfl (fun c1 => ?_) (fun c1 => ?_)
  · replace h := h.1 c1
    refine vm_gp [(.aload 0, 0, 0, []), (.getfield 2, 10, 13, [(85, 0)]), (.iconst 32, 0, 0, [])] (pc1 := 119) (ls1 := [some (vm_r 0), some (vm_i v1), some (vm_i v2), some (vm_i v3), some (vm_i v4)]) (st1 := [vm_i 32, vm_r 85]) (m1 := m) (ob := ((true && vm_is 0 10) && true)) (by decide +kernel) rfl (vm_u (vm_u rfl (by decide +kernel)) rfl) ?_
    refine vm_gc (g := 79) (na := 2) (av := [vm_r 85, vm_i 32]) (rest := []) (i := (.invokevirtual 0, 79, 2, [])) (len := 3) (by decide +kernel) rfl rfl rfl (by decide +kernel) (by decide +kernel) rfl rfl (vm_u (vm_okh_v (c := 6) (by decide +kernel) (by decide +kernel)) (show vm_okn 79 2 0 0 0 2 = true by decide +kernel)) ?_
    refine vm_G.mono h ?_
    rintro _ m1 ⟨rfl, h⟩
    show vm_G 157 122 [some (vm_r 0), some (vm_i v1), some (vm_i v2), some (vm_i v3), some (vm_i v4)] [] m1 _
    obtain ⟨o3_0, h⟩ := h
    refine vm_gp [(.iinc 3 1, 0, 0, []), (.goto 0, 60, 0, [])] (pc1 := 60) (ls1 := [some (vm_r 0), some (vm_i v1), some (vm_i v2), some (vm_i (v3 + 1)), some (vm_i v4)]) (st1 := []) (m1 := m1) (ob := (true && decide (vm_32 (v3 + 1)))) (by decide +kernel) rfl (vm_t rfl o3_0) ?_
    exact h
  · replace h := h.2 c1
    obtain ⟨⟨o4_0, o4_1, o4_2, o4_3⟩, h⟩ := h
    refine vm_gp [(.aload 0, 0, 0, []), (.getfield 2, 10, 13, [(85, 0)]), (.iconst 97, 0, 0, []), (.aload 0, 0, 0, []), (.getfield 2, 10, 3, [(9, 0)]), (.getfield 2, 4, 3, [(4, 1)]), (.iload 3, 0, 0, []), (.iconst 12, 0, 0, []), (.imul, 0, 0, []), (.iload 4, 0, 0, []), (.iadd, 0, 0, []), (.iaload, 360, 0, []), (.iadd, 0, 0, [])] (pc1 := 104) (ls1 := [some (vm_r 0), some (vm_i v1), some (vm_i v2), some (vm_i v3), some (vm_i v4)]) (st1 := [vm_i (97 + (m 13 ((v3 * 12) + v4))), vm_r 85]) (m1 := m) (ob := (((((((((((true && vm_is 0 10) && true) && vm_is 0 10) && true) && vm_is 9 4) && true) && decide (vm_32 (v3 * 12))) && decide (vm_32 ((v3 * 12) + v4))) && vm_ar 13 100 360) && decide (0 ≤ ((v3 * 12) + v4) ∧ ((v3 * 12) + v4) < 360)) && decide (vm_32 (97 + (m 13 ((v3 * 12) + v4)))))) (by decide +kernel) rfl (vm_t (vm_t (vm_u (vm_t (vm_t (vm_u (vm_u (vm_u (vm_u (vm_u (vm_u rfl (by decide +kernel)) rfl) (by decide +kernel)) rfl) (by decide +kernel)) rfl) o4_0) o4_1) (by decide +kernel)) o4_2) o4_3) ?_
    refine vm_gc (g := 79) (na := 2) (av := [vm_r 85, vm_i (97 + (m 13 ((v3 * 12) + v4)))]) (rest := []) (i := (.invokevirtual 0, 79, 2, [])) (len := 3) (by decide +kernel) rfl rfl rfl (by decide +kernel) (by decide +kernel) rfl rfl (vm_u (vm_okh_v (c := 6) (by decide +kernel) (by decide +kernel)) (show vm_okn 79 2 0 0 0 2 = true by decide +kernel)) ?_
    refine vm_G.mono h ?_
    rintro _ m2 ⟨rfl, h⟩
    show vm_G 157 107 [some (vm_r 0), some (vm_i v1), some (vm_i v2), some (vm_i v3), some (vm_i v4)] [] m2 _
    obtain ⟨o5_0, h⟩ := h
    refine vm_gp [(.iinc 4 1, 0, 0, []), (.goto 0, 68, 0, [])] (pc1 := 68) (ls1 := [some (vm_r 0), some (vm_i v1), some (vm_i v2), some (vm_i v3), some (vm_i (v4 + 1))]) (st1 := []) (m1 := m2) (ob := (true && decide (vm_32 (v4 + 1)))) (by decide +kernel) rfl (vm_t rfl o5_0) ?_
    exact h
abbrev ku10_writeSetup_0  (m : vm_M) (Q : vm_M → Prop) : Prop := vm_G 158 0 [some (vm_r 0), none] [] m (vm_qv Q)
abbrev ku10_writeSetup_121 (v1 : Int) (m : vm_M) (Q : vm_M → Prop) : Prop := vm_G 158 121 [some (vm_r 0), some (vm_i v1)] [] m (vm_qv Q)
abbrev ku10_writeSetup_151 (v1 : Int) (m : vm_M) (Q : vm_M → Prop) : Prop := vm_G 158 151 [some (vm_r 0), some (vm_i v1)] [] m (vm_qv Q)
set_option maxRecDepth 20000 in
theorem ru10_writeSetup_0  {m : vm_M} {Q : vm_M → Prop}  (h :
    (vm_C 159 [vm_r 0, vm_r (1000 + 14), vm_i (m 10 0)] m (vm_qv (fun m1 =>
      (vm_C 159 [vm_r 0, vm_r (1000 + 15), vm_i (m1 10 1)] m1 (vm_qv (fun m2 =>
        (vm_C 159 [vm_r 0, vm_r (1000 + 16), vm_i (m2 10 2)] m2 (vm_qv (fun m3 =>
          (vm_C 159 [vm_r 0, vm_r (1000 + 17), vm_i (m3 3 2)] m3 (vm_qv (fun m4 =>
            (vm_C 159 [vm_r 0, vm_r (1000 + 18), vm_i (m4 10 3)] m4 (vm_qv (fun m5 =>
              (vm_C 159 [vm_r 0, vm_r (1000 + 19), vm_i (m5 10 4)] m5 (vm_qv (fun m6 =>
                (vm_C 159 [vm_r 0, vm_r (1000 + 20), vm_i (m6 10 5)] m6 (vm_qv (fun m7 =>
                  (vm_C 79 [vm_r 85, vm_i 59] m7 (vm_qv (fun m8 =>
                    ku10_writeSetup_121 0 m8 Q))))))))))))))))))))))))) : vm_C 158 [vm_r 0] m (vm_qv Q) := by
  show vm_G 158 0 [some (vm_r 0), none] [] m (vm_qv Q)
  refine vm_gp [(.aload 0, 0, 0, []), (.ldc 0, 14, 0, []), (.aload 0, 0, 0, []), (.getfield 2, 10, 3, [(9, 0)]), (.getfield 2, 4, 0, [(1, 1)]), (.iconst 0, 0, 0, []), (.iaload, 6, 0, [])] (pc1 := 13) (ls1 := [some (vm_r 0), none]) (st1 := [vm_i (m 10 0), vm_r (1000 + 14), vm_r 0]) (m1 := m) (ob := ((((((true && vm_is 0 10) && true) && vm_is 9 4) && true) && vm_ar 10 100 6) && decide ((0 : Int) ≤ 0 ∧ (0 : Int) < 6))) (by decide +kernel) rfl (vm_t (vm_u (vm_u (vm_u (vm_u (vm_u rfl (by decide +kernel)) rfl) (by decide +kernel)) rfl) (by decide +kernel)) (by decide)) ?_
  refine vm_gc (g := 159) (na := 3) (av := [vm_r 0, vm_r (1000 + 14), vm_i (m 10 0)]) (rest := []) (i := (.invokevirtual 0, 159, 3, [])) (len := 3) (by decide +kernel) rfl rfl rfl (by decide +kernel) (by decide +kernel) rfl rfl (vm_u (vm_okh_v (c := 10) (by decide +kernel) (by decide +kernel)) (show vm_okn 159 3 0 0 0 3 = true by decide +kernel)) ?_
  refine vm_G.mono h ?_
  rintro _ m1 ⟨rfl, h⟩
  show vm_G 158 16 [some (vm_r 0), none] [] m1 _
  refine vm_gp [(.aload 0, 0, 0, []), (.ldc 0, 15, 0, []), (.aload 0, 0, 0, []), (.getfield 2, 10, 3, [(9, 0)]), (.getfield 2, 4, 0, [(1, 1)]), (.iconst 1, 0, 0, []), (.iaload, 6, 0, [])] (pc1 := 29) (ls1 := [some (vm_r 0), none]) (st1 := [vm_i (m1 10 1), vm_r (1000 + 15), vm_r 0]) (m1 := m1) (ob := ((((((true && vm_is 0 10) && true) && vm_is 9 4) && true) && vm_ar 10 100 6) && decide ((0 : Int) ≤ 1 ∧ (1 : Int) < 6))) (by decide +kernel) rfl (vm_t (vm_u (vm_u (vm_u (vm_u (vm_u rfl (by decide +kernel)) rfl) (by decide +kernel)) rfl) (by decide +kernel)) (by decide)) ?_
  refine vm_gc (g := 159) (na := 3) (av := [vm_r 0, vm_r (1000 + 15), vm_i (m1 10 1)]) (rest := []) (i := (.invokevirtual 0, 159, 3, [])) (len := 3) (by decide +kernel) rfl rfl rfl (by decide +kernel) (by decide +kernel) rfl rfl (vm_u (vm_okh_v (c := 10) (by decide +kernel) (by decide +kernel)) (show vm_okn 159 3 0 0 0 3 = true by decide +kernel)) ?_
  refine vm_G.mono h ?_
  rintro _ m2 ⟨rfl, h⟩
  show vm_G 158 32 [some (vm_r 0), none] [] m2 _
  refine vm_gp [(.aload 0, 0, 0, []), (.ldc 0, 16, 0, []), (.aload 0, 0, 0, []), (.getfield 2, 10, 3, [(9, 0)]), (.getfield 2, 4, 0, [(1, 1)]), (.iconst 2, 0, 0, []), (.iaload, 6, 0, [])] (pc1 := 45) (ls1 := [some (vm_r 0), none]) (st1 := [vm_i (m2 10 2), vm_r (1000 + 16), vm_r 0]) (m1 := m2) (ob := ((((((true && vm_is 0 10) && true) && vm_is 9 4) && true) && vm_ar 10 100 6) && decide ((0 : Int) ≤ 2 ∧ (2 : Int) < 6))) (by decide +kernel) rfl (vm_t (vm_u (vm_u (vm_u (vm_u (vm_u rfl (by decide +kernel)) rfl) (by decide +kernel)) rfl) (by decide +kernel)) (by decide)) ?_
  refine vm_gc (g := 159) (na := 3) (av := [vm_r 0, vm_r (1000 + 16), vm_i (m2 10 2)]) (rest := []) (i := (.invokevirtual 0, 159, 3, [])) (len := 3) (by decide +kernel) rfl rfl rfl (by decide +kernel) (by decide +kernel) rfl rfl (vm_u (vm_okh_v (c := 10) (by decide +kernel) (by decide +kernel)) (show vm_okn 159 3 0 0 0 3 = true by decide +kernel)) ?_
  refine vm_G.mono h ?_
  rintro _ m3 ⟨rfl, h⟩
  show vm_G 158 48 [some (vm_r 0), none] [] m3 _
  refine vm_gp [(.aload 0, 0, 0, []), (.ldc 0, 17, 0, []), (.aload 0, 0, 0, []), (.getfield 2, 10, 1, [(3, 0)]), (.getfield 0, 0, 2, [])] (pc1 := 59) (ls1 := [some (vm_r 0), none]) (st1 := [vm_i (m3 3 2), vm_r (1000 + 17), vm_r 0]) (m1 := m3) (ob := (((true && vm_is 0 10) && true) && vm_is 3 0)) (by decide +kernel) rfl (vm_u (vm_u (vm_u rfl (by decide +kernel)) rfl) (by decide +kernel)) ?_
  refine vm_gc (g := 159) (na := 3) (av := [vm_r 0, vm_r (1000 + 17), vm_i (m3 3 2)]) (rest := []) (i := (.invokevirtual 0, 159, 3, [])) (len := 3) (by decide +kernel) rfl rfl rfl (by decide +kernel) (by decide +kernel) rfl rfl (vm_u (vm_okh_v (c := 10) (by decide +kernel) (by decide +kernel)) (show vm_okn 159 3 0 0 0 3 = true by decide +kernel)) ?_
  refine vm_G.mono h ?_
  rintro _ m4 ⟨rfl, h⟩
  show vm_G 158 62 [some (vm_r 0), none] [] m4 _
  refine vm_gp [(.aload 0, 0, 0, []), (.ldc 0, 18, 0, []), (.aload 0, 0, 0, []), (.getfield 2, 10, 3, [(9, 0)]), (.getfield 2, 4, 0, [(1, 1)]), (.iconst 3, 0, 0, []), (.iaload, 6, 0, [])] (pc1 := 75) (ls1 := [some (vm_r 0), none]) (st1 := [vm_i (m4 10 3), vm_r (1000 + 18), vm_r 0]) (m1 := m4) (ob := ((((((true && vm_is 0 10) && true) && vm_is 9 4) && true) && vm_ar 10 100 6) && decide ((0 : Int) ≤ 3 ∧ (3 : Int) < 6))) (by decide +kernel) rfl (vm_t (vm_u (vm_u (vm_u (vm_u (vm_u rfl (by decide +kernel)) rfl) (by decide +kernel)) rfl) (by decide +kernel)) (by decide)) ?_
  refine vm_gc (g := 159) (na := 3) (av := [vm_r 0, vm_r (1000 + 18), vm_i (m4 10 3)]) (rest := []) (i := (.invokevirtual 0, 159, 3, [])) (len := 3) (by decide +kernel) rfl rfl rfl (by decide +kernel) (by decide +kernel) rfl rfl (vm_u (vm_okh_v (c := 10) (by decide +kernel) (by decide +kernel)) (show vm_okn 159 3 0 0 0 3 = true by decide +kernel)) ?_
  refine vm_G.mono h ?_
  rintro _ m5 ⟨rfl, h⟩
  show vm_G 158 78 [some (vm_r 0), none] [] m5 _
  refine vm_gp [(.aload 0, 0, 0, []), (.ldc 0, 19, 0, []), (.aload 0, 0, 0, []), (.getfield 2, 10, 3, [(9, 0)]), (.getfield 2, 4, 0, [(1, 1)]), (.iconst 4, 0, 0, []), (.iaload, 6, 0, [])] (pc1 := 91) (ls1 := [some (vm_r 0), none]) (st1 := [vm_i (m5 10 4), vm_r (1000 + 19), vm_r 0]) (m1 := m5) (ob := ((((((true && vm_is 0 10) && true) && vm_is 9 4) && true) && vm_ar 10 100 6) && decide ((0 : Int) ≤ 4 ∧ (4 : Int) < 6))) (by decide +kernel) rfl (vm_t (vm_u (vm_u (vm_u (vm_u (vm_u rfl (by decide +kernel)) rfl) (by decide +kernel)) rfl) (by decide +kernel)) (by decide)) ?_
  refine vm_gc (g := 159) (na := 3) (av := [vm_r 0, vm_r (1000 + 19), vm_i (m5 10 4)]) (rest := []) (i := (.invokevirtual 0, 159, 3, [])) (len := 3) (by decide +kernel) rfl rfl rfl (by decide +kernel) (by decide +kernel) rfl rfl (vm_u (vm_okh_v (c := 10) (by decide +kernel) (by decide +kernel)) (show vm_okn 159 3 0 0 0 3 = true by decide +kernel)) ?_
  refine vm_G.mono h ?_
  rintro _ m6 ⟨rfl, h⟩
  show vm_G 158 94 [some (vm_r 0), none] [] m6 _
  refine vm_gp [(.aload 0, 0, 0, []), (.ldc 0, 20, 0, []), (.aload 0, 0, 0, []), (.getfield 2, 10, 3, [(9, 0)]), (.getfield 2, 4, 0, [(1, 1)]), (.iconst 5, 0, 0, []), (.iaload, 6, 0, [])] (pc1 := 107) (ls1 := [some (vm_r 0), none]) (st1 := [vm_i (m6 10 5), vm_r (1000 + 20), vm_r 0]) (m1 := m6) (ob := ((((((true && vm_is 0 10) && true) && vm_is 9 4) && true) && vm_ar 10 100 6) && decide ((0 : Int) ≤ 5 ∧ (5 : Int) < 6))) (by decide +kernel) rfl (vm_t (vm_u (vm_u (vm_u (vm_u (vm_u rfl (by decide +kernel)) rfl) (by decide +kernel)) rfl) (by decide +kernel)) (by decide)) ?_
  refine vm_gc (g := 159) (na := 3) (av := [vm_r 0, vm_r (1000 + 20), vm_i (m6 10 5)]) (rest := []) (i := (.invokevirtual 0, 159, 3, [])) (len := 3) (by decide +kernel) rfl rfl rfl (by decide +kernel) (by decide +kernel) rfl rfl (vm_u (vm_okh_v (c := 10) (by decide +kernel) (by decide +kernel)) (show vm_okn 159 3 0 0 0 3 = true by decide +kernel)) ?_
  refine vm_G.mono h ?_
  rintro _ m7 ⟨rfl, h⟩
  show vm_G 158 110 [some (vm_r 0), none] [] m7 _
  refine vm_gp [(.aload 0, 0, 0, []), (.getfield 2, 10, 13, [(85, 0)]), (.iconst 59, 0, 0, [])] (pc1 := 116) (ls1 := [some (vm_r 0), none]) (st1 := [vm_i 59, vm_r 85]) (m1 := m7) (ob := ((true && vm_is 0 10) && true)) (by decide +kernel) rfl (vm_u (vm_u rfl (by decide +kernel)) rfl) ?_
  refine vm_gc (g := 79) (na := 2) (av := [vm_r 85, vm_i 59]) (rest := []) (i := (.invokevirtual 0, 79, 2, [])) (len := 3) (by decide +kernel) rfl rfl rfl (by decide +kernel) (by decide +kernel) rfl rfl (vm_u (vm_okh_v (c := 6) (by decide +kernel) (by decide +kernel)) (show vm_okn 79 2 0 0 0 2 = true by decide +kernel)) ?_
  refine vm_G.mono h ?_
  rintro _ m8 ⟨rfl, h⟩
  show vm_G 158 119 [some (vm_r 0), none] [] m8 _
  refine vm_gp [(.iconst 0, 0, 0, []), (.istore 1, 0, 0, [])] (pc1 := 121) (ls1 := [some (vm_r 0), some (vm_i 0)]) (st1 := []) (m1 := m8) (ob := true) (by decide +kernel) rfl rfl ?_
  exact h
set_option maxRecDepth 20000 in
theorem ru10_writeSetup_121 {v1 : Int} {m : vm_M} {Q : vm_M → Prop}  (h :
    ((26 ≤ v1 →
      ku10_writeSetup_151 0 m Q) ∧ (¬ 26 ≤ v1 →
      (vm_C 3 [vm_r 3, vm_i v1] m (vm_qi (fun z1 m1 =>
        ((z1 = 0 →
          ((vm_32 (v1 + 1))) ∧
          ku10_writeSetup_121 (v1 + 1) m1 Q) ∧ (¬ z1 = 0 →
          (vm_C 160 [vm_r 0, vm_i v1] m1 (vm_qv (fun m2 =>
            ((vm_32 (v1 + 1))) ∧
            ku10_writeSetup_121 (v1 + 1) m2 Q))))))))))) : ku10_writeSetup_121 v1 m Q := by
  show vm_G 158 121 [some (vm_r 0), some (vm_i v1)] [] m (vm_qv Q)
  refine vm_gp [(.iload 1, 0, 0, []), (.iconst 26, 0, 0, [])] (pc1 := 124) (ls1 := [some (vm_r 0), some (vm_i v1)]) (st1 := [vm_i 26, vm_i v1]) (m1 := m) (ob := true) (by decide +kernel) rfl rfl ?_
  refine vm_gj (c := 26 ≤ v1) (t := 149) (e := 127) (i := (.if_icmp .ge 0, 149, 0, [])) (len := 3) (st1 := []) (by decide +kernel) rfl rfl (fun c1 => ?_) (fun c1 => ?_)
  · replace h := h.1 c1
    refine vm_gp [(.iconst 0, 0, 0, []), (.istore 1, 0, 0, [])] (pc1 := 151) (ls1 := [some (vm_r 0), some (vm_i 0)]) (st1 := []) (m1 := m) (ob := true) (by decide +kernel) rfl rfl ?_
    exact h
  · replace h := h.2 c1
    refine vm_gp [(.aload 0, 0, 0, []), (.getfield 2, 10, 1, [(3, 0)]), (.iload 1, 0, 0, [])] (pc1 := 132) (ls1 := [some (vm_r 0), some (vm_i v1)]) (st1 := [vm_i v1, vm_r 3]) (m1 := m) (ob := ((true && vm_is 0 10) && true)) (by decide +kernel) rfl (vm_u (vm_u rfl (by decide +kernel)) rfl) ?_
    refine vm_gc (g := 3) (na := 2) (av := [vm_r 3, vm_i v1]) (rest := []) (i := (.invokevirtual 0, 3, 2, [])) (len := 3) (by decide +kernel) rfl rfl rfl (by decide +kernel) (by decide +kernel) rfl rfl (vm_u (vm_okh_v (c := 0) (by decide +kernel) (by decide +kernel)) (show vm_okn 3 2 0 0 0 2 = true by decide +kernel)) ?_
    refine vm_G.mono h ?_
    rintro _ m1 ⟨z1, rfl, h⟩
    show vm_G 158 135 [some (vm_r 0), some (vm_i v1)] [vm_i z1] m1 _
    refine vm_gj (c := z1 = 0) (t := 143) (e := 138) (i := (.ifCond .eq 0, 143, 0, [])) (len := 3) (st1 := []) (by decide +kernel) rfl rfl (fun c2 => ?_) (fun c2 => ?_)
    · replace h := h.1 c2
      obtain ⟨o5_0, h⟩ := h
      refine vm_gp [(.iinc 1 1, 0, 0, []), (.goto 0, 121, 0, [])] (pc1 := 121) (ls1 := [some (vm_r 0), some (vm_i (v1 + 1))]) (st1 := []) (m1 := m1) (ob := (true && decide (vm_32 (v1 + 1)))) (by decide +kernel) rfl (vm_t rfl o5_0) ?_
      exact h
    · replace h := h.2 c2
      refine vm_gp [(.aload 0, 0, 0, []), (.iload 1, 0, 0, [])] (pc1 := 140) (ls1 := [some (vm_r 0), some (vm_i v1)]) (st1 := [vm_i v1, vm_r 0]) (m1 := m1) (ob := true) (by decide +kernel) rfl rfl ?_
      refine vm_gc (g := 160) (na := 2) (av := [vm_r 0, vm_i v1]) (rest := []) (i := (.invokevirtual 0, 160, 2, [])) (len := 3) (by decide +kernel) rfl rfl rfl (by decide +kernel) (by decide +kernel) rfl rfl (vm_u (vm_okh_v (c := 10) (by decide +kernel) (by decide +kernel)) (show vm_okn 160 2 0 0 0 2 = true by decide +kernel)) ?_
      refine vm_G.mono h ?_
      rintro _ m2 ⟨rfl, h⟩
      show vm_G 158 143 [some (vm_r 0), some (vm_i v1)] [] m2 _
      obtain ⟨o7_0, h⟩ := h
      refine vm_gp [(.iinc 1 1, 0, 0, []), (.goto 0, 121, 0, [])] (pc1 := 121) (ls1 := [some (vm_r 0), some (vm_i (v1 + 1))]) (st1 := []) (m1 := m2) (ob := (true && decide (vm_32 (v1 + 1)))) (by decide +kernel) rfl (vm_t rfl o7_0) ?_
      exact h
set_option maxRecDepth 20000 in
theorem ru10_writeSetup_151 {v1 : Int} {m : vm_M} {Q : vm_M → Prop}  (h :
    ((676 ≤ v1 →
      Q m) ∧ (¬ 676 ≤ v1 →
      ((0 ≤ v1 ∧ v1 < 676)) ∧
      (((m 11 v1) = 0 →
        ((vm_32 (v1 + 1))) ∧
        ku10_writeSetup_151 (v1 + 1) m Q) ∧ (¬ (m 11 v1) = 0 →
        ((0 ≤ v1 ∧ (0 : Int) < 26) ∧ (0 ≤ v1 ∧ (0 : Int) < 26) ∧ (0 ≤ v1 ∧ v1 < 676)) ∧
        (vm_C 162 [vm_r 0, vm_i (v1 / 26), vm_i (v1 % 26), vm_i (m 11 v1)] m (vm_qv (fun m1 =>
          ((vm_32 (v1 + 1))) ∧
          ku10_writeSetup_151 (v1 + 1) m1 Q)))))))) : ku10_writeSetup_151 v1 m Q := by
  show vm_G 158 151 [some (vm_r 0), some (vm_i v1)] [] m (vm_qv Q)
  refine vm_gp [(.iload 1, 0, 0, []), (.iconst 676, 0, 0, [])] (pc1 := 155) (ls1 := [some (vm_r 0), some (vm_i v1)]) (st1 := [vm_i 676, vm_i v1]) (m1 := m) (ob := true) (by decide +kernel) rfl rfl ?_
  refine vm_gj (c := 676 ≤ v1) (t := 197) (e := 158) (i := (.if_icmp .ge 0, 197, 0, [])) (len := 3) (st1 := []) (by decide +kernel) rfl rfl (fun c1 => ?_) (fun c1 => ?_)
  · replace h := h.1 c1
    exact vm_gr (r := none) (i := (.return_, 0, 0, [])) (len := 1) (by decide +kernel) rfl rfl rfl ⟨rfl, h⟩
  · replace h := h.2 c1
    obtain ⟨o3_0, h⟩ := h
    refine vm_gp [(.aload 0, 0, 0, []), (.getfield 2, 10, 3, [(9, 0)]), (.getfield 2, 4, 1, [(2, 1)]), (.iload 1, 0, 0, []), (.iaload, 676, 0, [])] (pc1 := 167) (ls1 := [some (vm_r 0), some (vm_i v1)]) (st1 := [vm_i (m 11 v1)]) (m1 := m) (ob := ((((((true && vm_is 0 10) && true) && vm_is 9 4) && true) && vm_ar 11 100 676) && decide (0 ≤ v1 ∧ v1 < 676))) (by decide +kernel) rfl (vm_t (vm_u (vm_u (vm_u (vm_u (vm_u rfl (by decide +kernel)) rfl) (by decide +kernel)) rfl) (by decide +kernel)) o3_0) ?_
    refine vm_gj (c := (m 11 v1) = 0) (t := 191) (e := 170) (i := (.ifCond .eq 0, 191, 0, [])) (len := 3) (st1 := []) (by decide +kernel) rfl rfl (fun c2 => ?_) (fun c2 => ?_)
    · replace h := h.1 c2
      obtain ⟨o4_0, h⟩ := h
      refine vm_gp [(.iinc 1 1, 0, 0, []), (.goto 0, 151, 0, [])] (pc1 := 151) (ls1 := [some (vm_r 0), some (vm_i (v1 + 1))]) (st1 := []) (m1 := m) (ob := (true && decide (vm_32 (v1 + 1)))) (by decide +kernel) rfl (vm_t rfl o4_0) ?_
      exact h
    · replace h := h.2 c2
      obtain ⟨⟨o5_0, o5_1, o5_2⟩, h⟩ := h
      refine vm_gp [(.aload 0, 0, 0, []), (.iload 1, 0, 0, []), (.iconst 26, 0, 0, []), (.idiv, 0, 0, []), (.iload 1, 0, 0, []), (.iconst 26, 0, 0, []), (.irem, 0, 0, []), (.aload 0, 0, 0, []), (.getfield 2, 10, 3, [(9, 0)]), (.getfield 2, 4, 1, [(2, 1)]), (.iload 1, 0, 0, []), (.iaload, 676, 0, [])] (pc1 := 188) (ls1 := [some (vm_r 0), some (vm_i v1)]) (st1 := [vm_i (m 11 v1), vm_i (v1 % 26), vm_i (v1 / 26), vm_r 0]) (m1 := m) (ob := ((((((((true && decide (0 ≤ v1 ∧ (0 : Int) < 26)) && decide (0 ≤ v1 ∧ (0 : Int) < 26)) && vm_is 0 10) && true) && vm_is 9 4) && true) && vm_ar 11 100 676) && decide (0 ≤ v1 ∧ v1 < 676))) (by decide +kernel) rfl (vm_t (vm_u (vm_u (vm_u (vm_u (vm_u (vm_t (vm_t rfl o5_0) o5_1) (by decide +kernel)) rfl) (by decide +kernel)) rfl) (by decide +kernel)) o5_2) ?_
      refine vm_gc (g := 162) (na := 4) (av := [vm_r 0, vm_i (v1 / 26), vm_i (v1 % 26), vm_i (m 11 v1)]) (rest := []) (i := (.invokevirtual 0, 162, 4, [])) (len := 3) (by decide +kernel) rfl rfl rfl (by decide +kernel) (by decide +kernel) rfl rfl (vm_u (vm_okh_v (c := 10) (by decide +kernel) (by decide +kernel)) (show vm_okn 162 4 0 0 0 4 = true by decide +kernel)) ?_
      refine vm_G.mono h ?_
      rintro _ m1 ⟨rfl, h⟩
      show vm_G 158 191 [some (vm_r 0), some (vm_i v1)] [] m1 _
      obtain ⟨o6_0, h⟩ := h
      refine vm_gp [(.iinc 1 1, 0, 0, []), (.goto 0, 151, 0, [])] (pc1 := 151) (ls1 := [some (vm_r 0), some (vm_i (v1 + 1))]) (st1 := []) (m1 := m1) (ob := (true && decide (vm_32 (v1 + 1)))) (by decide +kernel) rfl (vm_t rfl o6_0) ?_
      exact h
abbrev ku10_writeNumber_0 (s1 : Nat) (v2 : Int) (m : vm_M) (Q : vm_M → Prop) : Prop := vm_G 159 0 [some (vm_r 0), some (vm_r s1), some (vm_i v2)] [] m (vm_qv Q)
set_option maxRecDepth 20000 in
theorem ru10_writeNumber_0 {s1 : Nat} {v2 : Int} {m : vm_M} {Q : vm_M → Prop}  (h :
    (vm_C 80 [vm_r 85, vm_r s1] m (vm_qv (fun m1 =>
      (vm_C 81 [vm_r 85, vm_i v2] m1 (vm_qv (fun m2 =>
        Q m2))))))) : vm_C 159 [vm_r 0, vm_r s1, vm_i v2] m (vm_qv Q) := by
  show vm_G 159 0 [some (vm_r 0), some (vm_r s1), some (vm_i v2)] [] m (vm_qv Q)
  refine vm_gp [(.aload 0, 0, 0, []), (.getfield 2, 10, 13, [(85, 0)]), (.aload 1, 0, 0, [])] (pc1 := 5) (ls1 := [some (vm_r 0), some (vm_r s1), some (vm_i v2)]) (st1 := [vm_r s1, vm_r 85]) (m1 := m) (ob := ((true && vm_is 0 10) && true)) (by decide +kernel) rfl (vm_u (vm_u rfl (by decide +kernel)) rfl) ?_
  refine vm_gc (g := 80) (na := 2) (av := [vm_r 85, vm_r s1]) (rest := []) (i := (.invokevirtual 0, 80, 2, [])) (len := 3) (by decide +kernel) rfl rfl rfl (by decide +kernel) (by decide +kernel) rfl rfl (vm_u (vm_okh_v (c := 6) (by decide +kernel) (by decide +kernel)) (show vm_okn 80 2 0 0 0 2 = true by decide +kernel)) ?_
  refine vm_G.mono h ?_
  rintro _ m1 ⟨rfl, h⟩
  show vm_G 159 8 [some (vm_r 0), some (vm_r s1), some (vm_i v2)] [] m1 _
  refine vm_gp [(.aload 0, 0, 0, []), (.getfield 2, 10, 13, [(85, 0)]), (.iload 2, 0, 0, [])] (pc1 := 13) (ls1 := [some (vm_r 0), some (vm_r s1), some (vm_i v2)]) (st1 := [vm_i v2, vm_r 85]) (m1 := m1) (ob := ((true && vm_is 0 10) && true)) (by decide +kernel) rfl (vm_u (vm_u rfl (by decide +kernel)) rfl) ?_
  refine vm_gc (g := 81) (na := 2) (av := [vm_r 85, vm_i v2]) (rest := []) (i := (.invokevirtual 0, 81, 2, [])) (len := 3) (by decide +kernel) rfl rfl rfl (by decide +kernel) (by decide +kernel) rfl rfl (vm_u (vm_okh_v (c := 6) (by decide +kernel) (by decide +kernel)) (show vm_okn 81 2 0 0 0 2 = true by decide +kernel)) ?_
  refine vm_G.mono h ?_
  rintro _ m2 ⟨rfl, h⟩
  show vm_G 159 16 [some (vm_r 0), some (vm_r s1), some (vm_i v2)] [] m2 _
  exact vm_gr (r := none) (i := (.return_, 0, 0, [])) (len := 1) (by decide +kernel) rfl rfl rfl ⟨rfl, h⟩
abbrev ku10_writeLetter_0 (v1 : Int) (m : vm_M) (Q : vm_M → Prop) : Prop := vm_G 160 0 [some (vm_r 0), some (vm_i v1)] [] m (vm_qv Q)
set_option maxRecDepth 20000 in
theorem ru10_writeLetter_0 {v1 : Int} {m : vm_M} {Q : vm_M → Prop}  (h :
    (vm_C 80 [vm_r 85, vm_r (1000 + 21)] m (vm_qv (fun m1 =>
      ((vm_32 (97 + v1))) ∧
      (vm_C 79 [vm_r 85, vm_i (97 + v1)] m1 (vm_qv (fun m2 =>
        ((0 ≤ v1 ∧ v1 < 26)) ∧
        (vm_C 159 [vm_r 0, vm_r (1000 + 22), vm_i (m2 4 v1)] m2 (vm_qv (fun m3 =>
          (vm_C 80 [vm_r 85, vm_r (1000 + 23)] m3 (vm_qv (fun m4 =>
            (vm_C 161 [vm_r 0, vm_i v1, vm_i 0] m4 (vm_qv (fun m5 =>
              (vm_C 80 [vm_r 85, vm_r (1000 + 24)] m5 (vm_qv (fun m6 =>
                (vm_C 161 [vm_r 0, vm_i v1, vm_i 1] m6 (vm_qv (fun m7 =>
                  (vm_C 79 [vm_r 85, vm_i 59] m7 (vm_qv (fun m8 =>
                    Q m8))))))))))))))))))))))))) : vm_C 160 [vm_r 0, vm_i v1] m (vm_qv Q) := by
  show vm_G 160 0 [some (vm_r 0), some (vm_i v1)] [] m (vm_qv Q)
  refine vm_gp [(.aload 0, 0, 0, []), (.getfield 2, 10, 13, [(85, 0)]), (.ldc 0, 21, 0, [])] (pc1 := 7) (ls1 := [some (vm_r 0), some (vm_i v1)]) (st1 := [vm_r (1000 + 21), vm_r 85]) (m1 := m) (ob := ((true && vm_is 0 10) && true)) (by decide +kernel) rfl (vm_u (vm_u rfl (by decide +kernel)) rfl) ?_
  refine vm_gc (g := 80) (na := 2) (av := [vm_r 85, vm_r (1000 + 21)]) (rest := []) (i := (.invokevirtual 0, 80, 2, [])) (len := 3) (by decide +kernel) rfl rfl rfl (by decide +kernel) (by decide +kernel) rfl rfl (vm_u (vm_okh_v (c := 6) (by decide +kernel) (by decide +kernel)) (show vm_okn 80 2 0 0 0 2 = true by decide +kernel)) ?_
  refine vm_G.mono h ?_
  rintro _ m1 ⟨rfl, h⟩
  show vm_G 160 10 [some (vm_r 0), some (vm_i v1)] [] m1 _
  obtain ⟨o2_0, h⟩ := h
  refine vm_gp [(.aload 0, 0, 0, []), (.getfield 2, 10, 13, [(85, 0)]), (.iconst 97, 0, 0, []), (.iload 1, 0, 0, []), (.iadd, 0, 0, [])] (pc1 := 18) (ls1 := [some (vm_r 0), some (vm_i v1)]) (st1 := [vm_i (97 + v1), vm_r 85]) (m1 := m1) (ob := (((true && vm_is 0 10) && true) && decide (vm_32 (97 + v1)))) (by decide +kernel) rfl (vm_t (vm_u (vm_u rfl (by decide +kernel)) rfl) o2_0) ?_
  refine vm_gc (g := 79) (na := 2) (av := [vm_r 85, vm_i (97 + v1)]) (rest := []) (i := (.invokevirtual 0, 79, 2, [])) (len := 3) (by decide +kernel) rfl rfl rfl (by decide +kernel) (by decide +kernel) rfl rfl (vm_u (vm_okh_v (c := 6) (by decide +kernel) (by decide +kernel)) (show vm_okn 79 2 0 0 0 2 = true by decide +kernel)) ?_
  refine vm_G.mono h ?_
  rintro _ m2 ⟨rfl, h⟩
  show vm_G 160 21 [some (vm_r 0), some (vm_i v1)] [] m2 _
  obtain ⟨o3_0, h⟩ := h
  refine vm_gp [(.aload 0, 0, 0, []), (.ldc 0, 22, 0, []), (.aload 0, 0, 0, []), (.getfield 2, 10, 1, [(3, 0)]), (.getfield 2, 0, 0, [(1, 1)]), (.iload 1, 0, 0, []), (.iaload, 26, 0, [])] (pc1 := 34) (ls1 := [some (vm_r 0), some (vm_i v1)]) (st1 := [vm_i (m2 4 v1), vm_r (1000 + 22), vm_r 0]) (m1 := m2) (ob := ((((((true && vm_is 0 10) && true) && vm_is 3 0) && true) && vm_ar 4 100 26) && decide (0 ≤ v1 ∧ v1 < 26))) (by decide +kernel) rfl (vm_t (vm_u (vm_u (vm_u (vm_u (vm_u rfl (by decide +kernel)) rfl) (by decide +kernel)) rfl) (by decide +kernel)) o3_0) ?_
  refine vm_gc (g := 159) (na := 3) (av := [vm_r 0, vm_r (1000 + 22), vm_i (m2 4 v1)]) (rest := []) (i := (.invokevirtual 0, 159, 3, [])) (len := 3) (by decide +kernel) rfl rfl rfl (by decide +kernel) (by decide +kernel) rfl rfl (vm_u (vm_okh_v (c := 10) (by decide +kernel) (by decide +kernel)) (show vm_okn 159 3 0 0 0 3 = true by decide +kernel)) ?_
  refine vm_G.mono h ?_
  rintro _ m3 ⟨rfl, h⟩
  show vm_G 160 37 [some (vm_r 0), some (vm_i v1)] [] m3 _
  refine vm_gp [(.aload 0, 0, 0, []), (.getfield 2, 10, 13, [(85, 0)]), (.ldc 0, 23, 0, [])] (pc1 := 44) (ls1 := [some (vm_r 0), some (vm_i v1)]) (st1 := [vm_r (1000 + 23), vm_r 85]) (m1 := m3) (ob := ((true && vm_is 0 10) && true)) (by decide +kernel) rfl (vm_u (vm_u rfl (by decide +kernel)) rfl) ?_
  refine vm_gc (g := 80) (na := 2) (av := [vm_r 85, vm_r (1000 + 23)]) (rest := []) (i := (.invokevirtual 0, 80, 2, [])) (len := 3) (by decide +kernel) rfl rfl rfl (by decide +kernel) (by decide +kernel) rfl rfl (vm_u (vm_okh_v (c := 6) (by decide +kernel) (by decide +kernel)) (show vm_okn 80 2 0 0 0 2 = true by decide +kernel)) ?_
  refine vm_G.mono h ?_
  rintro _ m4 ⟨rfl, h⟩
  show vm_G 160 47 [some (vm_r 0), some (vm_i v1)] [] m4 _
  refine vm_gp [(.aload 0, 0, 0, []), (.iload 1, 0, 0, []), (.iconst 0, 0, 0, [])] (pc1 := 50) (ls1 := [some (vm_r 0), some (vm_i v1)]) (st1 := [vm_i 0, vm_i v1, vm_r 0]) (m1 := m4) (ob := true) (by decide +kernel) rfl rfl ?_
  refine vm_gc (g := 161) (na := 3) (av := [vm_r 0, vm_i v1, vm_i 0]) (rest := []) (i := (.invokevirtual 0, 161, 3, [])) (len := 3) (by decide +kernel) rfl rfl rfl (by decide +kernel) (by decide +kernel) rfl rfl (vm_u (vm_okh_v (c := 10) (by decide +kernel) (by decide +kernel)) (show vm_okn 161 3 0 0 0 3 = true by decide +kernel)) ?_
  refine vm_G.mono h ?_
  rintro _ m5 ⟨rfl, h⟩
  show vm_G 160 53 [some (vm_r 0), some (vm_i v1)] [] m5 _
  refine vm_gp [(.aload 0, 0, 0, []), (.getfield 2, 10, 13, [(85, 0)]), (.ldc 0, 24, 0, [])] (pc1 := 60) (ls1 := [some (vm_r 0), some (vm_i v1)]) (st1 := [vm_r (1000 + 24), vm_r 85]) (m1 := m5) (ob := ((true && vm_is 0 10) && true)) (by decide +kernel) rfl (vm_u (vm_u rfl (by decide +kernel)) rfl) ?_
  refine vm_gc (g := 80) (na := 2) (av := [vm_r 85, vm_r (1000 + 24)]) (rest := []) (i := (.invokevirtual 0, 80, 2, [])) (len := 3) (by decide +kernel) rfl rfl rfl (by decide +kernel) (by decide +kernel) rfl rfl (vm_u (vm_okh_v (c := 6) (by decide +kernel) (by decide +kernel)) (show vm_okn 80 2 0 0 0 2 = true by decide +kernel)) ?_
  refine vm_G.mono h ?_
  rintro _ m6 ⟨rfl, h⟩
  show vm_G 160 63 [some (vm_r 0), some (vm_i v1)] [] m6 _
  refine vm_gp [(.aload 0, 0, 0, []), (.iload 1, 0, 0, []), (.iconst 1, 0, 0, [])] (pc1 := 66) (ls1 := [some (vm_r 0), some (vm_i v1)]) (st1 := [vm_i 1, vm_i v1, vm_r 0]) (m1 := m6) (ob := true) (by decide +kernel) rfl rfl ?_
  refine vm_gc (g := 161) (na := 3) (av := [vm_r 0, vm_i v1, vm_i 1]) (rest := []) (i := (.invokevirtual 0, 161, 3, [])) (len := 3) (by decide +kernel) rfl rfl rfl (by decide +kernel) (by decide +kernel) rfl rfl (vm_u (vm_okh_v (c := 10) (by decide +kernel) (by decide +kernel)) (show vm_okn 161 3 0 0 0 3 = true by decide +kernel)) ?_
  refine vm_G.mono h ?_
  rintro _ m7 ⟨rfl, h⟩
  show vm_G 160 69 [some (vm_r 0), some (vm_i v1)] [] m7 _
  refine vm_gp [(.aload 0, 0, 0, []), (.getfield 2, 10, 13, [(85, 0)]), (.iconst 59, 0, 0, [])] (pc1 := 75) (ls1 := [some (vm_r 0), some (vm_i v1)]) (st1 := [vm_i 59, vm_r 85]) (m1 := m7) (ob := ((true && vm_is 0 10) && true)) (by decide +kernel) rfl (vm_u (vm_u rfl (by decide +kernel)) rfl) ?_
  refine vm_gc (g := 79) (na := 2) (av := [vm_r 85, vm_i 59]) (rest := []) (i := (.invokevirtual 0, 79, 2, [])) (len := 3) (by decide +kernel) rfl rfl rfl (by decide +kernel) (by decide +kernel) rfl rfl (vm_u (vm_okh_v (c := 6) (by decide +kernel) (by decide +kernel)) (show vm_okn 79 2 0 0 0 2 = true by decide +kernel)) ?_
  refine vm_G.mono h ?_
  rintro _ m8 ⟨rfl, h⟩
  show vm_G 160 78 [some (vm_r 0), some (vm_i v1)] [] m8 _
  exact vm_gr (r := none) (i := (.return_, 0, 0, [])) (len := 1) (by decide +kernel) rfl rfl rfl ⟨rfl, h⟩
abbrev ku10_writeSide_0 (v1 : Int) (v2 : Int) (m : vm_M) (Q : vm_M → Prop) : Prop := vm_G 161 0 [some (vm_r 0), some (vm_i v1), some (vm_i v2), none, none] [] m (vm_qv Q)
abbrev ku10_writeSide_2 (v1 : Int) (v2 : Int) (v3 : Int) (w4 : Option vm_V) (m : vm_M) (Q : vm_M → Prop) : Prop := vm_G 161 2 [some (vm_r 0), some (vm_i v1), some (vm_i v2), some (vm_i v3), w4] [] m (vm_qv Q)
set_option maxRecDepth 20000 in
theorem ru10_writeSide_0 {v1 : Int} {v2 : Int} {m : vm_M} {Q : vm_M → Prop}  (h :
    ku10_writeSide_2 v1 v2 0 none m Q) : vm_C 161 [vm_r 0, vm_i v1, vm_i v2] m (vm_qv Q) := by
  show vm_G 161 0 [some (vm_r 0), some (vm_i v1), some (vm_i v2), none, none] [] m (vm_qv Q)
  refine vm_gp [(.iconst 0, 0, 0, []), (.istore 3, 0, 0, [])] (pc1 := 2) (ls1 := [some (vm_r 0), some (vm_i v1), some (vm_i v2), some (vm_i 0), none]) (st1 := []) (m1 := m) (ob := true) (by decide +kernel) rfl rfl ?_
  exact h
set_option maxRecDepth 20000 in
theorem ru10_writeSide_2 {v1 : Int} {v2 : Int} {v3 : Int} {w4 : Option vm_V} {m : vm_M} {Q : vm_M → Prop}  (h :
    ((6 ≤ v3 →
      Q m) ∧ (¬ 6 ≤ v3 →
      (vm_C 6 [vm_r 3, vm_i v1, vm_i v2, vm_i v3] m (vm_qi (fun z1 m1 =>
        ((¬ z1 = (-1) →
          (vm_C 159 [vm_r 0, vm_r (1000 + 15), vm_i z1] m1 (vm_qv (fun m2 =>
            ((vm_32 (v3 + 1))) ∧
            ku10_writeSide_2 v1 v2 (v3 + 1) (some (vm_i z1)) m2 Q)))) ∧ (¬ ¬ z1 = (-1) →
          (vm_C 80 [vm_r 85, vm_r (1000 + 25)] m1 (vm_qv (fun m3 =>
            ((vm_32 (v3 + 1))) ∧
            ku10_writeSide_2 v1 v2 (v3 + 1) (some (vm_i z1)) m3 Q))))))))))) : ku10_writeSide_2 v1 v2 v3 w4 m Q := by
  show vm_G 161 2 [some (vm_r 0), some (vm_i v1), some (vm_i v2), some (vm_i v3), w4] [] m (vm_qv Q)
  refine vm_gp [(.iload 3, 0, 0, []), (.iconst 6, 0, 0, [])] (pc1 := 5) (ls1 := [some (vm_r 0), some (vm_i v1), some (vm_i v2), some (vm_i v3), w4]) (st1 := [vm_i 6, vm_i v3]) (m1 := m) (ob := true) (by decide +kernel) rfl rfl ?_
  refine vm_gj (c := 6 ≤ v3) (t := 54) (e := 8) (i := (.if_icmp .ge 0, 54, 0, [])) (len := 3) (st1 := []) (by decide +kernel) rfl rfl (fun c1 => ?_) (fun c1 => ?_)
  · replace h := h.1 c1
    exact vm_gr (r := none) (i := (.return_, 0, 0, [])) (len := 1) (by decide +kernel) rfl rfl rfl ⟨rfl, h⟩
  · replace h := h.2 c1
    refine vm_gp [(.aload 0, 0, 0, []), (.getfield 2, 10, 1, [(3, 0)]), (.iload 1, 0, 0, []), (.iload 2, 0, 0, []), (.iload 3, 0, 0, [])] (pc1 := 15) (ls1 := [some (vm_r 0), some (vm_i v1), some (vm_i v2), some (vm_i v3), w4]) (st1 := [vm_i v3, vm_i v2, vm_i v1, vm_r 3]) (m1 := m) (ob := ((true && vm_is 0 10) && true)) (by decide +kernel) rfl (vm_u (vm_u rfl (by decide +kernel)) rfl) ?_
    refine vm_gc (g := 6) (na := 4) (av := [vm_r 3, vm_i v1, vm_i v2, vm_i v3]) (rest := []) (i := (.invokevirtual 0, 6, 4, [])) (len := 3) (by decide +kernel) rfl rfl rfl (by decide +kernel) (by decide +kernel) rfl rfl (vm_u (vm_okh_v (c := 0) (by decide +kernel) (by decide +kernel)) (show vm_okn 6 4 0 0 0 4 = true by decide +kernel)) ?_
    refine vm_G.mono h ?_
    rintro _ m1 ⟨z1, rfl, h⟩
    show vm_G 161 18 [some (vm_r 0), some (vm_i v1), some (vm_i v2), some (vm_i v3), w4] [vm_i z1] m1 _
    refine vm_gp [(.istore 4, 0, 0, []), (.iload 4, 0, 0, []), (.iconst (-1), 0, 0, [])] (pc1 := 23) (ls1 := [some (vm_r 0), some (vm_i v1), some (vm_i v2), some (vm_i v3), some (vm_i z1)]) (st1 := [vm_i (-1), vm_i z1]) (m1 := m1) (ob := true) (by decide +kernel) rfl rfl ?_
    refine vm_gj (c := ¬ z1 = (-1)) (t := 39) (e := 26) (i := (.if_icmp .ne 0, 39, 0, [])) (len := 3) (st1 := []) (by decide +kernel) rfl rfl (fun c2 => ?_) (fun c2 => ?_)
    · replace h := h.1 c2
      refine vm_gp [(.aload 0, 0, 0, []), (.ldc 0, 15, 0, []), (.iload 4, 0, 0, [])] (pc1 := 45) (ls1 := [some (vm_r 0), some (vm_i v1), some (vm_i v2), some (vm_i v3), some (vm_i z1)]) (st1 := [vm_i z1, vm_r (1000 + 15), vm_r 0]) (m1 := m1) (ob := true) (by decide +kernel) rfl rfl ?_
      refine vm_gc (g := 159) (na := 3) (av := [vm_r 0, vm_r (1000 + 15), vm_i z1]) (rest := []) (i := (.invokevirtual 0, 159, 3, [])) (len := 3) (by decide +kernel) rfl rfl rfl (by decide +kernel) (by decide +kernel) rfl rfl (vm_u (vm_okh_v (c := 10) (by decide +kernel) (by decide +kernel)) (show vm_okn 159 3 0 0 0 3 = true by decide +kernel)) ?_
      refine vm_G.mono h ?_
      rintro _ m2 ⟨rfl, h⟩
      show vm_G 161 48 [some (vm_r 0), some (vm_i v1), some (vm_i v2), some (vm_i v3), some (vm_i z1)] [] m2 _
      obtain ⟨o6_0, h⟩ := h
      refine vm_gp [(.iinc 3 1, 0, 0, []), (.goto 0, 2, 0, [])] (pc1 := 2) (ls1 := [some (vm_r 0), some (vm_i v1), some (vm_i v2), some (vm_i (v3 + 1)), some (vm_i z1)]) (st1 := []) (m1 := m2) (ob := (true && decide (vm_32 (v3 + 1)))) (by decide +kernel) rfl (vm_t rfl o6_0) ?_
      exact h
    · replace h := h.2 c2
      refine vm_gp [(.aload 0, 0, 0, []), (.getfield 2, 10, 13, [(85, 0)]), (.ldc 0, 25, 0, [])] (pc1 := 33) (ls1 := [some (vm_r 0), some (vm_i v1), some (vm_i v2), some (vm_i v3), some (vm_i z1)]) (st1 := [vm_r (1000 + 25), vm_r 85]) (m1 := m1) (ob := ((true && vm_is 0 10) && true)) (by decide +kernel) rfl (vm_u (vm_u rfl (by decide +kernel)) rfl) ?_
      refine vm_gc (g := 80) (na := 2) (av := [vm_r 85, vm_r (1000 + 25)]) (rest := []) (i := (.invokevirtual 0, 80, 2, [])) (len := 3) (by decide +kernel) rfl rfl rfl (by decide +kernel) (by decide +kernel) rfl rfl (vm_u (vm_okh_v (c := 6) (by decide +kernel) (by decide +kernel)) (show vm_okn 80 2 0 0 0 2 = true by decide +kernel)) ?_
      refine vm_G.mono h ?_
      rintro _ m3 ⟨rfl, h⟩
      show vm_G 161 36 [some (vm_r 0), some (vm_i v1), some (vm_i v2), some (vm_i v3), some (vm_i z1)] [] m3 _
      obtain ⟨o8_0, h⟩ := h
      refine vm_gp [(.goto 0, 48, 0, []), (.iinc 3 1, 0, 0, []), (.goto 0, 2, 0, [])] (pc1 := 2) (ls1 := [some (vm_r 0), some (vm_i v1), some (vm_i v2), some (vm_i (v3 + 1)), some (vm_i z1)]) (st1 := []) (m1 := m3) (ob := (true && decide (vm_32 (v3 + 1)))) (by decide +kernel) rfl (vm_t rfl o8_0) ?_
      exact h
abbrev ku10_writePair_0 (v1 : Int) (v2 : Int) (v3 : Int) (m : vm_M) (Q : vm_M → Prop) : Prop := vm_G 162 0 [some (vm_r 0), some (vm_i v1), some (vm_i v2), some (vm_i v3)] [] m (vm_qv Q)
set_option maxRecDepth 20000 in
theorem ru10_writePair_0 {v1 : Int} {v2 : Int} {v3 : Int} {m : vm_M} {Q : vm_M → Prop}  (h :
    (vm_C 80 [vm_r 85, vm_r (1000 + 26)] m (vm_qv (fun m1 =>
      ((vm_32 (97 + v1))) ∧
      (vm_C 79 [vm_r 85, vm_i (97 + v1)] m1 (vm_qv (fun m2 =>
        (vm_C 79 [vm_r 85, vm_i 32] m2 (vm_qv (fun m3 =>
          ((vm_32 (97 + v2))) ∧
          (vm_C 79 [vm_r 85, vm_i (97 + v2)] m3 (vm_qv (fun m4 =>
            ((0 ≤ v3 →
              ((vm_32 (0 - v3))) ∧
              (vm_C 159 [vm_r 0, vm_r (1000 + 28), vm_i (if 0 ≤ v3 then v3 else 0 - v3)] m4 (vm_qv (fun m5 =>
                (vm_C 79 [vm_r 85, vm_i 59] m5 (vm_qv (fun m6 =>
                  Q m6))))))) ∧ (¬ 0 ≤ v3 →
              ((vm_32 (0 - v3))) ∧
              (vm_C 159 [vm_r 0, vm_r (1000 + 27), vm_i (if 0 ≤ v3 then v3 else 0 - v3)] m4 (vm_qv (fun m7 =>
                (vm_C 79 [vm_r 85, vm_i 59] m7 (vm_qv (fun m8 =>
                  Q m8))))))))))))))))))))) : vm_C 162 [vm_r 0, vm_i v1, vm_i v2, vm_i v3] m (vm_qv Q) := by
  show vm_G 162 0 [some (vm_r 0), some (vm_i v1), some (vm_i v2), some (vm_i v3)] [] m (vm_qv Q)
  refine vm_gp [(.aload 0, 0, 0, []), (.getfield 2, 10, 13, [(85, 0)]), (.ldc 0, 26, 0, [])] (pc1 := 7) (ls1 := [some (vm_r 0), some (vm_i v1), some (vm_i v2), some (vm_i v3)]) (st1 := [vm_r (1000 + 26), vm_r 85]) (m1 := m) (ob := ((true && vm_is 0 10) && true)) (by decide +kernel) rfl (vm_u (vm_u rfl (by decide +kernel)) rfl) ?_
  refine vm_gc (g := 80) (na := 2) (av := [vm_r 85, vm_r (1000 + 26)]) (rest := []) (i := (.invokevirtual 0, 80, 2, [])) (len := 3) (by decide +kernel) rfl rfl rfl (by decide +kernel) (by decide +kernel) rfl rfl (vm_u (vm_okh_v (c := 6) (by decide +kernel) (by decide +kernel)) (show vm_okn 80 2 0 0 0 2 = true by decide +kernel)) ?_
  refine vm_G.mono h ?_
  rintro _ m1 ⟨rfl, h⟩
  show vm_G 162 10 [some (vm_r 0), some (vm_i v1), some (vm_i v2), some (vm_i v3)] [] m1 _
  obtain ⟨o2_0, h⟩ := h
  refine vm_gp [(.aload 0, 0, 0, []), (.getfield 2, 10, 13, [(85, 0)]), (.iconst 97, 0, 0, []), (.iload 1, 0, 0, []), (.iadd, 0, 0, [])] (pc1 := 18) (ls1 := [some (vm_r 0), some (vm_i v1), some (vm_i v2), some (vm_i v3)]) (st1 := [vm_i (97 + v1), vm_r 85]) (m1 := m1) (ob := (((true && vm_is 0 10) && true) && decide (vm_32 (97 + v1)))) (by decide +kernel) rfl (vm_t (vm_u (vm_u rfl (by decide +kernel)) rfl) o2_0) ?_
  refine vm_gc (g := 79) (na := 2) (av := [vm_r 85, vm_i (97 + v1)]) (rest := []) (i := (.invokevirtual 0, 79, 2, [])) (len := 3) (by decide +kernel) rfl rfl rfl (by decide +kernel) (by decide +kernel) rfl rfl (vm_u (vm_okh_v (c := 6) (by decide +kernel) (by decide +kernel)) (show vm_okn 79 2 0 0 0 2 = true by decide +kernel)) ?_
  refine vm_G.mono h ?_
  rintro _ m2 ⟨rfl, h⟩
  show vm_G 162 21 [some (vm_r 0), some (vm_i v1), some (vm_i v2), some (vm_i v3)] [] m2 _
  refine vm_gp [(.aload 0, 0, 0, []), (.getfield 2, 10, 13, [(85, 0)]), (.iconst 32, 0, 0, [])] (pc1 := 27) (ls1 := [some (vm_r 0), some (vm_i v1), some (vm_i v2), some (vm_i v3)]) (st1 := [vm_i 32, vm_r 85]) (m1 := m2) (ob := ((true && vm_is 0 10) && true)) (by decide +kernel) rfl (vm_u (vm_u rfl (by decide +kernel)) rfl) ?_
  refine vm_gc (g := 79) (na := 2) (av := [vm_r 85, vm_i 32]) (rest := []) (i := (.invokevirtual 0, 79, 2, [])) (len := 3) (by decide +kernel) rfl rfl rfl (by decide +kernel) (by decide +kernel) rfl rfl (vm_u (vm_okh_v (c := 6) (by decide +kernel) (by decide +kernel)) (show vm_okn 79 2 0 0 0 2 = true by decide +kernel)) ?_
  refine vm_G.mono h ?_
  rintro _ m3 ⟨rfl, h⟩
  show vm_G 162 30 [some (vm_r 0), some (vm_i v1), some (vm_i v2), some (vm_i v3)] [] m3 _
  obtain ⟨o4_0, h⟩ := h
  refine vm_gp [(.aload 0, 0, 0, []), (.getfield 2, 10, 13, [(85, 0)]), (.iconst 97, 0, 0, []), (.iload 2, 0, 0, []), (.iadd, 0, 0, [])] (pc1 := 38) (ls1 := [some (vm_r 0), some (vm_i v1), some (vm_i v2), some (vm_i v3)]) (st1 := [vm_i (97 + v2), vm_r 85]) (m1 := m3) (ob := (((true && vm_is 0 10) && true) && decide (vm_32 (97 + v2)))) (by decide +kernel) rfl (vm_t (vm_u (vm_u rfl (by decide +kernel)) rfl) o4_0) ?_
  refine vm_gc (g := 79) (na := 2) (av := [vm_r 85, vm_i (97 + v2)]) (rest := []) (i := (.invokevirtual 0, 79, 2, [])) (len := 3) (by decide +kernel) rfl rfl rfl (by decide +kernel) (by decide +kernel) rfl rfl (vm_u (vm_okh_v (c := 6) (by decide +kernel) (by decide +kernel)) (show vm_okn 79 2 0 0 0 2 = true by decide +kernel)) ?_
  refine vm_G.mono h ?_
  rintro _ m4 ⟨rfl, h⟩
  show vm_G 162 41 [some (vm_r 0), some (vm_i v1), some (vm_i v2), some (vm_i v3)] [] m4 _
  refine vm_gp [(.aload 0, 0, 0, []), (.iload 3, 0, 0, [])] (pc1 := 43) (ls1 := [some (vm_r 0), some (vm_i v1), some (vm_i v2), some (vm_i v3)]) (st1 := [vm_i v3, vm_r 0]) (m1 := m4) (ob := true) (by decide +kernel) rfl rfl ?_
  refine vm_gj (c := 0 ≤ v3) (t := 52) (e := 46) (i := (.ifCond .ge 0, 52, 0, [])) (len := 3) (st1 := [vm_r 0]) (by decide +kernel) rfl rfl (fun c1 => ?_) (fun c1 => ?_)
  · replace h := h.1 c1
    obtain ⟨o6_0, h⟩ := h
    refine vm_gp [(.ldc 0, 28, 0, []), (.iload 3, 0, 0, []), (.invokestatic 0, 1002, 0, [])] (pc1 := 59) (ls1 := [some (vm_r 0), some (vm_i v1), some (vm_i v2), some (vm_i v3)]) (st1 := [vm_i (if 0 ≤ v3 then v3 else 0 - v3), vm_r (1000 + 28), vm_r 0]) (m1 := m4) (ob := ((true && decide (vm_cats [vm_r (1000 + 28), vm_r 0] ≤ 8)) && decide (vm_32 (0 - v3)))) (by decide +kernel) rfl (vm_t (vm_t rfl (by decide : (2 : Nat) ≤ 8)) o6_0) ?_
    refine vm_gc (g := 159) (na := 3) (av := [vm_r 0, vm_r (1000 + 28), vm_i (if 0 ≤ v3 then v3 else 0 - v3)]) (rest := []) (i := (.invokevirtual 0, 159, 3, [])) (len := 3) (by decide +kernel) rfl rfl rfl (by decide +kernel) (by decide +kernel) rfl rfl (vm_u (vm_okh_v (c := 10) (by decide +kernel) (by decide +kernel)) (show vm_okn 159 3 0 0 0 3 = true by decide +kernel)) ?_
    refine vm_G.mono h ?_
    rintro _ m5 ⟨rfl, h⟩
    show vm_G 162 62 [some (vm_r 0), some (vm_i v1), some (vm_i v2), some (vm_i v3)] [] m5 _
    refine vm_gp [(.aload 0, 0, 0, []), (.getfield 2, 10, 13, [(85, 0)]), (.iconst 59, 0, 0, [])] (pc1 := 68) (ls1 := [some (vm_r 0), some (vm_i v1), some (vm_i v2), some (vm_i v3)]) (st1 := [vm_i 59, vm_r 85]) (m1 := m5) (ob := ((true && vm_is 0 10) && true)) (by decide +kernel) rfl (vm_u (vm_u rfl (by decide +kernel)) rfl) ?_
    refine vm_gc (g := 79) (na := 2) (av := [vm_r 85, vm_i 59]) (rest := []) (i := (.invokevirtual 0, 79, 2, [])) (len := 3) (by decide +kernel) rfl rfl rfl (by decide +kernel) (by decide +kernel) rfl rfl (vm_u (vm_okh_v (c := 6) (by decide +kernel) (by decide +kernel)) (show vm_okn 79 2 0 0 0 2 = true by decide +kernel)) ?_
    refine vm_G.mono h ?_
    rintro _ m6 ⟨rfl, h⟩
    show vm_G 162 71 [some (vm_r 0), some (vm_i v1), some (vm_i v2), some (vm_i v3)] [] m6 _
    exact vm_gr (r := none) (i := (.return_, 0, 0, [])) (len := 1) (by decide +kernel) rfl rfl rfl ⟨rfl, h⟩
  · replace h := h.2 c1
    obtain ⟨o9_0, h⟩ := h
    refine vm_gp [(.ldc 0, 27, 0, []), (.goto 0, 55, 0, []), (.iload 3, 0, 0, []), (.invokestatic 0, 1002, 0, [])] (pc1 := 59) (ls1 := [some (vm_r 0), some (vm_i v1), some (vm_i v2), some (vm_i v3)]) (st1 := [vm_i (if 0 ≤ v3 then v3 else 0 - v3), vm_r (1000 + 27), vm_r 0]) (m1 := m4) (ob := ((true && decide (vm_cats [vm_r (1000 + 27), vm_r 0] ≤ 8)) && decide (vm_32 (0 - v3)))) (by decide +kernel) rfl (vm_t (vm_t rfl (by decide : (2 : Nat) ≤ 8)) o9_0) ?_
    refine vm_gc (g := 159) (na := 3) (av := [vm_r 0, vm_r (1000 + 27), vm_i (if 0 ≤ v3 then v3 else 0 - v3)]) (rest := []) (i := (.invokevirtual 0, 159, 3, [])) (len := 3) (by decide +kernel) rfl rfl rfl (by decide +kernel) (by decide +kernel) rfl rfl (vm_u (vm_okh_v (c := 10) (by decide +kernel) (by decide +kernel)) (show vm_okn 159 3 0 0 0 3 = true by decide +kernel)) ?_
    refine vm_G.mono h ?_
    rintro _ m7 ⟨rfl, h⟩
    show vm_G 162 62 [some (vm_r 0), some (vm_i v1), some (vm_i v2), some (vm_i v3)] [] m7 _
    refine vm_gp [(.aload 0, 0, 0, []), (.getfield 2, 10, 13, [(85, 0)]), (.iconst 59, 0, 0, [])] (pc1 := 68) (ls1 := [some (vm_r 0), some (vm_i v1), some (vm_i v2), some (vm_i v3)]) (st1 := [vm_i 59, vm_r 85]) (m1 := m7) (ob := ((true && vm_is 0 10) && true)) (by decide +kernel) rfl (vm_u (vm_u rfl (by decide +kernel)) rfl) ?_
    refine vm_gc (g := 79) (na := 2) (av := [vm_r 85, vm_i 59]) (rest := []) (i := (.invokevirtual 0, 79, 2, [])) (len := 3) (by decide +kernel) rfl rfl rfl (by decide +kernel) (by decide +kernel) rfl rfl (vm_u (vm_okh_v (c := 6) (by decide +kernel) (by decide +kernel)) (show vm_okn 79 2 0 0 0 2 = true by decide +kernel)) ?_
    refine vm_G.mono h ?_
    rintro _ m8 ⟨rfl, h⟩
    show vm_G 162 71 [some (vm_r 0), some (vm_i v1), some (vm_i v2), some (vm_i v3)] [] m8 _
    exact vm_gr (r := none) (i := (.return_, 0, 0, [])) (len := 1) (by decide +kernel) rfl rfl rfl ⟨rfl, h⟩
