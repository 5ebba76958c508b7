/-! ===== rules (printed): what must hold so that a method, begun at a cut, comes to a good end ===== -/
abbrev ku0_copyFrom_0 (th : Nat) (o1 : Nat) (m : vm_M) (Q : vm_M → Prop) : Prop := vm_G 1 0 [some (vm_r th), some (vm_r o1)] [] m (vm_qv Q)
set_option maxRecDepth 20000 in
theorem ru0_copyFrom_0 {th : Nat} {o1 : Nat} {m : vm_M} {Q : vm_M → Prop} (h_th : vm_is th 0 = true) (h_o1 : vm_is o1 0 = true) (h :
    Q (vm_st (vm_st (vm_cp (vm_cp m (o1 + 1) 0 (th + 1) 0 26) (o1 + 2) 0 (th + 2) 0 312) th 2 ((vm_cp (vm_cp m (o1 + 1) 0 (th + 1) 0 26) (o1 + 2) 0 (th + 2) 0 312) o1 2)) th 3 ((vm_st (vm_cp (vm_cp m (o1 + 1) 0 (th + 1) 0 26) (o1 + 2) 0 (th + 2) 0 312) th 2 ((vm_cp (vm_cp m (o1 + 1) 0 (th + 1) 0 26) (o1 + 2) 0 (th + 2) 0 312) o1 2)) o1 3))) : vm_C 1 [vm_r th, vm_r o1] m (vm_qv Q) := by
  show vm_G 1 0 [some (vm_r th), some (vm_r o1)] [] m (vm_qv Q)
  refine vm_gp [(.aload 1, 0, 0, []), (.getfield 2, 0, 0, [(1, 1)]), (.iconst 0, 0, 0, []), (.aload 0, 0, 0, []), (.getfield 2, 0, 0, [(1, 1)]), (.iconst 0, 0, 0, []), (.iconst 26, 0, 0, []), (.invokestatic 0, 1003, 26, []), (.aload 1, 0, 0, []), (.getfield 2, 0, 1, [(2, 1)]), (.iconst 0, 0, 0, []), (.aload 0, 0, 0, []), (.getfield 2, 0, 1, [(2, 1)]), (.iconst 0, 0, 0, []), (.iconst 312, 0, 0, []), (.invokestatic 0, 1003, 312, []), (.aload 0, 0, 0, []), (.aload 1, 0, 0, []), (.getfield 0, 0, 2, []), (.putfield 0, 0, 2, []), (.aload 0, 0, 0, []), (.aload 1, 0, 0, []), (.getfield 0, 0, 3, []), (.putfield 0, 0, 3, [])] (pc1 := 47) (ls1 := [some (vm_r th), some (vm_r o1)]) (st1 := []) (m1 := (vm_st (vm_st (vm_cp (vm_cp m (o1 + 1) 0 (th + 1) 0 26) (o1 + 2) 0 (th + 2) 0 312) th 2 ((vm_cp (vm_cp m (o1 + 1) 0 (th + 1) 0 26) (o1 + 2) 0 (th + 2) 0 312) o1 2)) th 3 ((vm_st (vm_cp (vm_cp m (o1 + 1) 0 (th + 1) 0 26) (o1 + 2) 0 (th + 2) 0 312) th 2 ((vm_cp (vm_cp m (o1 + 1) 0 (th + 1) 0 26) (o1 + 2) 0 (th + 2) 0 312) o1 2)) o1 3))) (ob := ((((((((((((((((((((true && vm_is o1 0) && true) && vm_is th 0) && true) && decide (vm_cats [] ≤ 8)) && vm_ar (o1 + 1) 100 26) && vm_ar (th + 1) 100 26) && decide ((0 : Int) ≤ 0 ∧ (0 : Int) ≤ 0 ∧ (0 : Int) ≤ 26 ∧ (0 : Int) + 26 ≤ 26 ∧ (0 : Int) + 26 ≤ 26)) && vm_is o1 0) && true) && vm_is th 0) && true) && decide (vm_cats [] ≤ 8)) && vm_ar (o1 + 2) 100 312) && vm_ar (th + 2) 100 312) && decide ((0 : Int) ≤ 0 ∧ (0 : Int) ≤ 0 ∧ (0 : Int) ≤ 312 ∧ (0 : Int) + 312 ≤ 312 ∧ (0 : Int) + 312 ≤ 312)) && vm_is o1 0) && vm_is th 0) && vm_is o1 0) && vm_is th 0)) (by decide +kernel) rfl (vm_u (vm_u (vm_u (vm_u (vm_t (vm_u (vm_u (vm_t (vm_u (vm_u (vm_u (vm_u (vm_t (vm_u (vm_u (vm_t (vm_u (vm_u (vm_u (vm_u rfl h_o1) rfl) h_th) rfl) (by decide : (0 : Nat) ≤ 8)) (vm_is_ar 1 (by decide) h_o1 (by decide +kernel))) (vm_is_ar 1 (by decide) h_th (by decide +kernel))) (by decide)) h_o1) rfl) h_th) rfl) (by decide : (0 : Nat) ≤ 8)) (vm_is_ar 2 (by decide) h_o1 (by decide +kernel))) (vm_is_ar 2 (by decide) h_th (by decide +kernel))) (by decide)) h_o1) h_th) h_o1) h_th) ?_
  exact vm_gr (r := none) (i := (.return_, 0, 0, [])) (len := 1) (by decide +kernel) rfl rfl rfl ⟨rfl, h⟩
abbrev ku0_clear_0 (th : Nat) (m : vm_M) (Q : vm_M → Prop) : Prop := vm_G 2 0 [some (vm_r th), none] [] m (vm_qv Q)
abbrev ku0_clear_2 (th : Nat) (v1 : Int) (m : vm_M) (Q : vm_M → Prop) : Prop := vm_G 2 2 [some (vm_r th), some (vm_i v1)] [] m (vm_qv Q)
set_option maxRecDepth 20000 in
theorem ru0_clear_0 {th : Nat} {m : vm_M} {Q : vm_M → Prop} (h_th : vm_is th 0 = true) (h :
    ku0_clear_2 th 0 m Q) : vm_C 2 [vm_r th] m (vm_qv Q) := by
  show vm_G 2 0 [some (vm_r th), none] [] m (vm_qv Q)
  refine vm_gp [(.iconst 0, 0, 0, []), (.istore 1, 0, 0, [])] (pc1 := 2) (ls1 := [some (vm_r th), some (vm_i 0)]) (st1 := []) (m1 := m) (ob := true) (by decide +kernel) rfl rfl ?_
  exact h
set_option maxRecDepth 20000 in
theorem ru0_clear_2 {th : Nat} {v1 : Int} {m : vm_M} {Q : vm_M → Prop} (h_th : vm_is th 0 = true) (h :
    ((26 ≤ v1 →
      Q (vm_st m th 3 0)) ∧ (¬ 26 ≤ v1 →
      ((0 ≤ v1 ∧ v1 < 26) ∧ (vm_32 (v1 + 1))) ∧
      ku0_clear_2 th (v1 + 1) (vm_st m (th + 1) v1 0) Q))) : ku0_clear_2 th v1 m Q := by
  show vm_G 2 2 [some (vm_r th), some (vm_i v1)] [] m (vm_qv Q)
  refine vm_gp [(.iload 1, 0, 0, []), (.iconst 26, 0, 0, [])] (pc1 := 5) (ls1 := [some (vm_r th), some (vm_i v1)]) (st1 := [vm_i 26, vm_i v1]) (m1 := m) (ob := true) (by decide +kernel) rfl rfl ?_
  refine vm_gj (c := 26 ≤ v1) (t := 21) (e := 8) (i := (.if_icmp .ge 0, 21, 0, [])) (len := 3) (st1 := []) (by decide +kernel) rfl rfl (fun c1 => ?_) (fun c1 => ?_)
  · replace h := h.1 c1
    refine vm_gp [(.aload 0, 0, 0, []), (.iconst 0, 0, 0, []), (.putfield 0, 0, 3, [])] (pc1 := 26) (ls1 := [some (vm_r th), some (vm_i v1)]) (st1 := []) (m1 := (vm_st m th 3 0)) (ob := (true && vm_is th 0)) (by decide +kernel) rfl (vm_u rfl h_th) ?_
    exact vm_gr (r := none) (i := (.return_, 0, 0, [])) (len := 1) (by decide +kernel) rfl rfl rfl ⟨rfl, h⟩
  · replace h := h.2 c1
    obtain ⟨⟨o3_0, o3_1⟩, h⟩ := h
    refine vm_gp [(.aload 0, 0, 0, []), (.getfield 2, 0, 0, [(1, 1)]), (.iload 1, 0, 0, []), (.iconst 0, 0, 0, []), (.iastore, 26, 0, []), (.iinc 1 1, 0, 0, []), (.goto 0, 2, 0, [])] (pc1 := 2) (ls1 := [some (vm_r th), some (vm_i (v1 + 1))]) (st1 := []) (m1 := (vm_st m (th + 1) v1 0)) (ob := (((((true && vm_is th 0) && true) && vm_ar (th + 1) 100 26) && decide (0 ≤ v1 ∧ v1 < 26)) && decide (vm_32 (v1 + 1)))) (by decide +kernel) rfl (vm_t (vm_t (vm_u (vm_u (vm_u rfl h_th) rfl) (vm_is_ar 1 (by decide) h_th (by decide +kernel))) o3_0) o3_1) ?_
    exact h
abbrev ku0_knows_0 (th : Nat) (v1 : Int) (m : vm_M) (Q : Int → vm_M → Prop) : Prop := vm_G 3 0 [some (vm_r th), some (vm_i v1)] [] m (vm_qi Q)
set_option maxRecDepth 20000 in
theorem ru0_knows_0 {th : Nat} {v1 : Int} {m : vm_M} {Q : Int → vm_M → Prop} (h_th : vm_is th 0 = true) (h :
    ((v1 < 0 →
      Q 0 m) ∧ (¬ v1 < 0 →
      ((26 ≤ v1 →
        Q 0 m) ∧ (¬ 26 ≤ v1 →
        ((0 ≤ v1 ∧ v1 < 26)) ∧
        (((m (th + 1) v1) ≤ 0 →
          Q 0 m) ∧ (¬ (m (th + 1) v1) ≤ 0 →
          Q 1 m))))))) : vm_C 3 [vm_r th, vm_i v1] m (vm_qi Q) := by
  show vm_G 3 0 [some (vm_r th), some (vm_i v1)] [] m (vm_qi Q)
  refine vm_gp [(.iload 1, 0, 0, [])] (pc1 := 1) (ls1 := [some (vm_r th), some (vm_i v1)]) (st1 := [vm_i v1]) (m1 := m) (ob := true) (by decide +kernel) rfl rfl ?_
  refine vm_gj (c := v1 < 0) (t := 23) (e := 4) (i := (.ifCond .lt 0, 23, 0, [])) (len := 3) (st1 := []) (by decide +kernel) rfl rfl (fun c1 => ?_) (fun c1 => ?_)
  · replace h := h.1 c1
    refine vm_gp [(.iconst 0, 0, 0, [])] (pc1 := 24) (ls1 := [some (vm_r th), some (vm_i v1)]) (st1 := [vm_i 0]) (m1 := m) (ob := true) (by decide +kernel) rfl rfl ?_
    exact vm_gr (r := some (vm_i 0)) (i := (.ireturn, 2, 0, [])) (len := 1) (by decide +kernel) rfl rfl (by decide) ⟨_, rfl, h⟩
  · replace h := h.2 c1
    refine vm_gp [(.iload 1, 0, 0, []), (.iconst 26, 0, 0, [])] (pc1 := 7) (ls1 := [some (vm_r th), some (vm_i v1)]) (st1 := [vm_i 26, vm_i v1]) (m1 := m) (ob := true) (by decide +kernel) rfl rfl ?_
    refine vm_gj (c := 26 ≤ v1) (t := 23) (e := 10) (i := (.if_icmp .ge 0, 23, 0, [])) (len := 3) (st1 := []) (by decide +kernel) rfl rfl (fun c2 => ?_) (fun c2 => ?_)
    · replace h := h.1 c2
      refine vm_gp [(.iconst 0, 0, 0, [])] (pc1 := 24) (ls1 := [some (vm_r th), some (vm_i v1)]) (st1 := [vm_i 0]) (m1 := m) (ob := true) (by decide +kernel) rfl rfl ?_
      exact vm_gr (r := some (vm_i 0)) (i := (.ireturn, 2, 0, [])) (len := 1) (by decide +kernel) rfl rfl (by decide) ⟨_, rfl, h⟩
    · replace h := h.2 c2
      obtain ⟨o5_0, h⟩ := h
      refine vm_gp [(.aload 0, 0, 0, []), (.getfield 2, 0, 0, [(1, 1)]), (.iload 1, 0, 0, []), (.iaload, 26, 0, [])] (pc1 := 16) (ls1 := [some (vm_r th), some (vm_i v1)]) (st1 := [vm_i (m (th + 1) v1)]) (m1 := m) (ob := ((((true && vm_is th 0) && true) && vm_ar (th + 1) 100 26) && decide (0 ≤ v1 ∧ v1 < 26))) (by decide +kernel) rfl (vm_t (vm_u (vm_u (vm_u rfl h_th) rfl) (vm_is_ar 1 (by decide) h_th (by decide +kernel))) o5_0) ?_
      refine vm_gj (c := (m (th + 1) v1) ≤ 0) (t := 23) (e := 19) (i := (.ifCond .le 0, 23, 0, [])) (len := 3) (st1 := []) (by decide +kernel) rfl rfl (fun c3 => ?_) (fun c3 => ?_)
      · replace h := h.1 c3
        refine vm_gp [(.iconst 0, 0, 0, [])] (pc1 := 24) (ls1 := [some (vm_r th), some (vm_i v1)]) (st1 := [vm_i 0]) (m1 := m) (ob := true) (by decide +kernel) rfl rfl ?_
        exact vm_gr (r := some (vm_i 0)) (i := (.ireturn, 2, 0, [])) (len := 1) (by decide +kernel) rfl rfl (by decide) ⟨_, rfl, h⟩
      · replace h := h.2 c3
        refine vm_gp [(.iconst 1, 0, 0, []), (.goto 0, 24, 0, [])] (pc1 := 24) (ls1 := [some (vm_r th), some (vm_i v1)]) (st1 := [vm_i 1]) (m1 := m) (ob := true) (by decide +kernel) rfl rfl ?_
        exact vm_gr (r := some (vm_i 1)) (i := (.ireturn, 2, 0, [])) (len := 1) (by decide +kernel) rfl rfl (by decide) ⟨_, rfl, h⟩
abbrev ku0_tell_0 (th : Nat) (v1 : Int) (v2 : Int) (m : vm_M) (Q : vm_M → Prop) : Prop := vm_G 4 0 [some (vm_r th), some (vm_i v1), some (vm_i v2)] [] m (vm_qv Q)
set_option maxRecDepth 20000 in
theorem ru0_tell_0 {th : Nat} {v1 : Int} {v2 : Int} {m : vm_M} {Q : vm_M → Prop} (h_th : vm_is th 0 = true) (h :
    ((0 ≤ v1 ∧ v1 < 26) ∧ (vm_32 (((vm_st m (th + 1) v1 v2) th 3) + 1))) ∧
    Q (vm_st (vm_st m (th + 1) v1 v2) th 3 (((vm_st m (th + 1) v1 v2) th 3) + 1))) : vm_C 4 [vm_r th, vm_i v1, vm_i v2] m (vm_qv Q) := by
  show vm_G 4 0 [some (vm_r th), some (vm_i v1), some (vm_i v2)] [] m (vm_qv Q)
  obtain ⟨⟨o1_0, o1_1⟩, h⟩ := h
  refine vm_gp [(.aload 0, 0, 0, []), (.getfield 2, 0, 0, [(1, 1)]), (.iload 1, 0, 0, []), (.iload 2, 0, 0, []), (.iastore, 26, 0, []), (.aload 0, 0, 0, []), (.dup, 0, 0, []), (.getfield 0, 0, 3, []), (.iconst 1, 0, 0, []), (.iadd, 0, 0, []), (.putfield 0, 0, 3, [])] (pc1 := 17) (ls1 := [some (vm_r th), some (vm_i v1), some (vm_i v2)]) (st1 := []) (m1 := (vm_st (vm_st m (th + 1) v1 v2) th 3 (((vm_st m (th + 1) v1 v2) th 3) + 1))) (ob := (((((((true && vm_is th 0) && true) && vm_ar (th + 1) 100 26) && decide (0 ≤ v1 ∧ v1 < 26)) && vm_is th 0) && decide (vm_32 (((vm_st m (th + 1) v1 v2) th 3) + 1))) && vm_is th 0)) (by decide +kernel) rfl (vm_u (vm_t (vm_u (vm_t (vm_u (vm_u (vm_u rfl h_th) rfl) (vm_is_ar 1 (by decide) h_th (by decide +kernel))) o1_0) h_th) o1_1) h_th) ?_
  exact vm_gr (r := none) (i := (.return_, 0, 0, [])) (len := 1) (by decide +kernel) rfl rfl rfl ⟨rfl, h⟩
abbrev ku0_setInset_0 (th : Nat) (v1 : Int) (v2 : Int) (v3 : Int) (v4 : Int) (m : vm_M) (Q : vm_M → Prop) : Prop := vm_G 5 0 [some (vm_r th), some (vm_i v1), some (vm_i v2), some (vm_i v3), some (vm_i v4)] [] m (vm_qv Q)
set_option maxRecDepth 20000 in
theorem ru0_setInset_0 {th : Nat} {v1 : Int} {v2 : Int} {v3 : Int} {v4 : Int} {m : vm_M} {Q : vm_M → Prop} (h_th : vm_is th 0 = true) (h :
    ((vm_32 (v1 * 12))) ∧
    ((v2 = 0 →
      ((vm_32 ((v1 * 12) + 0)) ∧ (vm_32 (((v1 * 12) + 0) + v3)) ∧ (0 ≤ (((v1 * 12) + 0) + v3) ∧ (((v1 * 12) + 0) + v3) < 312)) ∧
      Q (vm_st m (th + 2) (((v1 * 12) + 0) + v3) v4)) ∧ (¬ v2 = 0 →
      ((vm_32 ((v1 * 12) + 6)) ∧ (vm_32 (((v1 * 12) + 6) + v3)) ∧ (0 ≤ (((v1 * 12) + 6) + v3) ∧ (((v1 * 12) + 6) + v3) < 312)) ∧
      Q (vm_st m (th + 2) (((v1 * 12) + 6) + v3) v4)))) : vm_C 5 [vm_r th, vm_i v1, vm_i v2, vm_i v3, vm_i v4] m (vm_qv Q) := by
  show vm_G 5 0 [some (vm_r th), some (vm_i v1), some (vm_i v2), some (vm_i v3), some (vm_i v4)] [] m (vm_qv Q)
  obtain ⟨o1_0, h⟩ := h
  refine vm_gp [(.aload 0, 0, 0, []), (.getfield 2, 0, 1, [(2, 1)]), (.iload 1, 0, 0, []), (.iconst 12, 0, 0, []), (.imul, 0, 0, []), (.iload 2, 0, 0, [])] (pc1 := 9) (ls1 := [some (vm_r th), some (vm_i v1), some (vm_i v2), some (vm_i v3), some (vm_i v4)]) (st1 := [vm_i v2, vm_i (v1 * 12), vm_r (th + 2)]) (m1 := m) (ob := (((true && vm_is th 0) && true) && decide (vm_32 (v1 * 12)))) (by decide +kernel) rfl (vm_t (vm_u (vm_u rfl h_th) rfl) o1_0) ?_
  refine vm_gj (c := v2 = 0) (t := 17) (e := 12) (i := (.ifCond .eq 0, 17, 0, [])) (len := 3) (st1 := [vm_i (v1 * 12), vm_r (th + 2)]) (by decide +kernel) rfl rfl (fun c1 => ?_) (fun c1 => ?_)
  · replace h := h.1 c1
    obtain ⟨⟨o2_0, o2_1, o2_2⟩, h⟩ := h
    refine vm_gp [(.iconst 0, 0, 0, []), (.iadd, 0, 0, []), (.iload 3, 0, 0, []), (.iadd, 0, 0, []), (.iload 4, 0, 0, []), (.iastore, 312, 0, [])] (pc1 := 24) (ls1 := [some (vm_r th), some (vm_i v1), some (vm_i v2), some (vm_i v3), some (vm_i v4)]) (st1 := []) (m1 := (vm_st m (th + 2) (((v1 * 12) + 0) + v3) v4)) (ob := ((((true && decide (vm_32 ((v1 * 12) + 0))) && decide (vm_32 (((v1 * 12) + 0) + v3))) && vm_ar (th + 2) 100 312) && decide (0 ≤ (((v1 * 12) + 0) + v3) ∧ (((v1 * 12) + 0) + v3) < 312))) (by decide +kernel) rfl (vm_t (vm_u (vm_t (vm_t rfl o2_0) o2_1) (vm_is_ar 2 (by decide) h_th (by decide +kernel))) o2_2) ?_
    exact vm_gr (r := none) (i := (.return_, 0, 0, [])) (len := 1) (by decide +kernel) rfl rfl rfl ⟨rfl, h⟩
  · replace h := h.2 c1
    obtain ⟨⟨o3_0, o3_1, o3_2⟩, h⟩ := h
    refine vm_gp [(.iconst 6, 0, 0, []), (.goto 0, 18, 0, []), (.iadd, 0, 0, []), (.iload 3, 0, 0, []), (.iadd, 0, 0, []), (.iload 4, 0, 0, []), (.iastore, 312, 0, [])] (pc1 := 24) (ls1 := [some (vm_r th), some (vm_i v1), some (vm_i v2), some (vm_i v3), some (vm_i v4)]) (st1 := []) (m1 := (vm_st m (th + 2) (((v1 * 12) + 6) + v3) v4)) (ob := ((((true && decide (vm_32 ((v1 * 12) + 6))) && decide (vm_32 (((v1 * 12) + 6) + v3))) && vm_ar (th + 2) 100 312) && decide (0 ≤ (((v1 * 12) + 6) + v3) ∧ (((v1 * 12) + 6) + v3) < 312))) (by decide +kernel) rfl (vm_t (vm_u (vm_t (vm_t rfl o3_0) o3_1) (vm_is_ar 2 (by decide) h_th (by decide +kernel))) o3_2) ?_
    exact vm_gr (r := none) (i := (.return_, 0, 0, [])) (len := 1) (by decide +kernel) rfl rfl rfl ⟨rfl, h⟩
abbrev ku0_insetOf_0 (th : Nat) (v1 : Int) (v2 : Int) (v3 : Int) (m : vm_M) (Q : Int → vm_M → Prop) : Prop := vm_G 6 0 [some (vm_r th), some (vm_i v1), some (vm_i v2), some (vm_i v3)] [] m (vm_qi Q)
set_option maxRecDepth 20000 in
theorem ru0_insetOf_0 {th : Nat} {v1 : Int} {v2 : Int} {v3 : Int} {m : vm_M} {Q : Int → vm_M → Prop} (h_th : vm_is th 0 = true) (h :
    ((vm_32 (v1 * 12))) ∧
    ((v2 = 0 →
      ((vm_32 ((v1 * 12) + 0)) ∧ (vm_32 (((v1 * 12) + 0) + v3)) ∧ (0 ≤ (((v1 * 12) + 0) + v3) ∧ (((v1 * 12) + 0) + v3) < 312)) ∧
      Q (m (th + 2) (((v1 * 12) + 0) + v3)) m) ∧ (¬ v2 = 0 →
      ((vm_32 ((v1 * 12) + 6)) ∧ (vm_32 (((v1 * 12) + 6) + v3)) ∧ (0 ≤ (((v1 * 12) + 6) + v3) ∧ (((v1 * 12) + 6) + v3) < 312)) ∧
      Q (m (th + 2) (((v1 * 12) + 6) + v3)) m))) : vm_C 6 [vm_r th, vm_i v1, vm_i v2, vm_i v3] m (vm_qi Q) := by
  show vm_G 6 0 [some (vm_r th), some (vm_i v1), some (vm_i v2), some (vm_i v3)] [] m (vm_qi Q)
  obtain ⟨o1_0, h⟩ := h
  refine vm_gp [(.aload 0, 0, 0, []), (.getfield 2, 0, 1, [(2, 1)]), (.iload 1, 0, 0, []), (.iconst 12, 0, 0, []), (.imul, 0, 0, []), (.iload 2, 0, 0, [])] (pc1 := 9) (ls1 := [some (vm_r th), some (vm_i v1), some (vm_i v2), some (vm_i v3)]) (st1 := [vm_i v2, vm_i (v1 * 12), vm_r (th + 2)]) (m1 := m) (ob := (((true && vm_is th 0) && true) && decide (vm_32 (v1 * 12)))) (by decide +kernel) rfl (vm_t (vm_u (vm_u rfl h_th) rfl) o1_0) ?_
  refine vm_gj (c := v2 = 0) (t := 17) (e := 12) (i := (.ifCond .eq 0, 17, 0, [])) (len := 3) (st1 := [vm_i (v1 * 12), vm_r (th + 2)]) (by decide +kernel) rfl rfl (fun c1 => ?_) (fun c1 => ?_)
  · replace h := h.1 c1
    obtain ⟨⟨o2_0, o2_1, o2_2⟩, h⟩ := h
    refine vm_gp [(.iconst 0, 0, 0, []), (.iadd, 0, 0, []), (.iload 3, 0, 0, []), (.iadd, 0, 0, []), (.iaload, 312, 0, [])] (pc1 := 22) (ls1 := [some (vm_r th), some (vm_i v1), some (vm_i v2), some (vm_i v3)]) (st1 := [vm_i (m (th + 2) (((v1 * 12) + 0) + v3))]) (m1 := m) (ob := ((((true && decide (vm_32 ((v1 * 12) + 0))) && decide (vm_32 (((v1 * 12) + 0) + v3))) && vm_ar (th + 2) 100 312) && decide (0 ≤ (((v1 * 12) + 0) + v3) ∧ (((v1 * 12) + 0) + v3) < 312))) (by decide +kernel) rfl (vm_t (vm_u (vm_t (vm_t rfl o2_0) o2_1) (vm_is_ar 2 (by decide) h_th (by decide +kernel))) o2_2) ?_
    exact vm_gr (r := some (vm_i (m (th + 2) (((v1 * 12) + 0) + v3)))) (i := (.ireturn, 1, 0, [])) (len := 1) (by decide +kernel) rfl rfl rfl ⟨_, rfl, h⟩
  · replace h := h.2 c1
    obtain ⟨⟨o3_0, o3_1, o3_2⟩, h⟩ := h
    refine vm_gp [(.iconst 6, 0, 0, []), (.goto 0, 18, 0, []), (.iadd, 0, 0, []), (.iload 3, 0, 0, []), (.iadd, 0, 0, []), (.iaload, 312, 0, [])] (pc1 := 22) (ls1 := [some (vm_r th), some (vm_i v1), some (vm_i v2), some (vm_i v3)]) (st1 := [vm_i (m (th + 2) (((v1 * 12) + 6) + v3))]) (m1 := m) (ob := ((((true && decide (vm_32 ((v1 * 12) + 6))) && decide (vm_32 (((v1 * 12) + 6) + v3))) && vm_ar (th + 2) 100 312) && decide (0 ≤ (((v1 * 12) + 6) + v3) ∧ (((v1 * 12) + 6) + v3) < 312))) (by decide +kernel) rfl (vm_t (vm_u (vm_t (vm_t rfl o3_0) o3_1) (vm_is_ar 2 (by decide) h_th (by decide +kernel))) o3_2) ?_
    exact vm_gr (r := some (vm_i (m (th + 2) (((v1 * 12) + 6) + v3)))) (i := (.ireturn, 1, 0, [])) (len := 1) (by decide +kernel) rfl rfl rfl ⟨_, rfl, h⟩
abbrev ku0_sumOfInsets_0 (th : Nat) (v1 : Int) (v2 : Int) (m : vm_M) (Q : Int → vm_M → Prop) : Prop := vm_G 7 0 [some (vm_r th), some (vm_i v1), some (vm_i v2), none, none, none] [] m (vm_qi Q)
abbrev ku0_sumOfInsets_5 (th : Nat) (v1 : Int) (v2 : Int) (v3 : Int) (v4 : Int) (w5 : Option vm_V) (m : vm_M) (Q : Int → vm_M → Prop) : Prop := vm_G 7 5 [some (vm_r th), some (vm_i v1), some (vm_i v2), some (vm_i v3), some (vm_i v4), w5] [] m (vm_qi Q)
set_option maxRecDepth 20000 in
theorem ru0_sumOfInsets_0 {th : Nat} {v1 : Int} {v2 : Int} {m : vm_M} {Q : Int → vm_M → Prop} (h_th : vm_is th 0 = true) (h :
    ku0_sumOfInsets_5 th v1 v2 0 0 none m Q) : vm_C 7 [vm_r th, vm_i v1, vm_i v2] m (vm_qi Q) := by
  show vm_G 7 0 [some (vm_r th), some (vm_i v1), some (vm_i v2), none, none, none] [] m (vm_qi Q)
  refine vm_gp [(.iconst 0, 0, 0, []), (.istore 3, 0, 0, []), (.iconst 0, 0, 0, []), (.istore 4, 0, 0, [])] (pc1 := 5) (ls1 := [some (vm_r th), some (vm_i v1), some (vm_i v2), some (vm_i 0), some (vm_i 0), none]) (st1 := []) (m1 := m) (ob := true) (by decide +kernel) rfl rfl ?_
  exact h
set_option maxRecDepth 20000 in
theorem ru0_sumOfInsets_5 {th : Nat} {v1 : Int} {v2 : Int} {v3 : Int} {v4 : Int} {w5 : Option vm_V} {m : vm_M} {Q : Int → vm_M → Prop} (h_th : vm_is th 0 = true) (h :
    ((6 ≤ v4 →
      Q v3 m) ∧ (¬ 6 ≤ v4 →
      (vm_C 6 [vm_r th, vm_i v1, vm_i v2, vm_i v4] m (vm_qi (fun z1 m1 =>
        ((¬ z1 = (-1) →
          ((vm_32 (v3 + z1)) ∧ (vm_32 (v4 + 1))) ∧
          ku0_sumOfInsets_5 th v1 v2 (v3 + z1) (v4 + 1) (some (vm_i z1)) m1 Q) ∧ (¬ ¬ z1 = (-1) →
          ((vm_32 (v3 + 0)) ∧ (vm_32 (v4 + 1))) ∧
          ku0_sumOfInsets_5 th v1 v2 (v3 + 0) (v4 + 1) (some (vm_i z1)) m1 Q)))))))) : ku0_sumOfInsets_5 th v1 v2 v3 v4 w5 m Q := by
  show vm_G 7 5 [some (vm_r th), some (vm_i v1), some (vm_i v2), some (vm_i v3), some (vm_i v4), w5] [] m (vm_qi Q)
  refine vm_gp [(.iload 4, 0, 0, []), (.iconst 6, 0, 0, [])] (pc1 := 9) (ls1 := [some (vm_r th), some (vm_i v1), some (vm_i v2), some (vm_i v3), some (vm_i v4), w5]) (st1 := [vm_i 6, vm_i v4]) (m1 := m) (ob := true) (by decide +kernel) rfl rfl ?_
  refine vm_gj (c := 6 ≤ v4) (t := 43) (e := 12) (i := (.if_icmp .ge 0, 43, 0, [])) (len := 3) (st1 := []) (by decide +kernel) rfl rfl (fun c1 => ?_) (fun c1 => ?_)
  · replace h := h.1 c1
    refine vm_gp [(.iload 3, 0, 0, [])] (pc1 := 44) (ls1 := [some (vm_r th), some (vm_i v1), some (vm_i v2), some (vm_i v3), some (vm_i v4), w5]) (st1 := [vm_i v3]) (m1 := m) (ob := true) (by decide +kernel) rfl rfl ?_
    exact vm_gr (r := some (vm_i v3)) (i := (.ireturn, 1, 0, [])) (len := 1) (by decide +kernel) rfl rfl rfl ⟨_, rfl, h⟩
  · replace h := h.2 c1
    refine vm_gp [(.aload 0, 0, 0, []), (.iload 1, 0, 0, []), (.iload 2, 0, 0, []), (.iload 4, 0, 0, [])] (pc1 := 17) (ls1 := [some (vm_r th), some (vm_i v1), some (vm_i v2), some (vm_i v3), some (vm_i v4), w5]) (st1 := [vm_i v4, vm_i v2, vm_i v1, vm_r th]) (m1 := m) (ob := true) (by decide +kernel) rfl rfl ?_
    refine vm_gc (g := 6) (na := 4) (av := [vm_r th, vm_i v1, vm_i v2, vm_i v4]) (rest := []) (i := (.invokevirtual 0, 6, 4, [])) (len := 3) (by decide +kernel) rfl rfl rfl (by decide +kernel) (by decide +kernel) rfl rfl (vm_u (vm_okh_v (c := 0) (by decide +kernel) h_th) (show vm_okn 6 4 0 0 0 4 = true by decide +kernel)) ?_
    refine vm_G.mono h ?_
    rintro _ m1 ⟨z1, rfl, h⟩
    show vm_G 7 20 [some (vm_r th), some (vm_i v1), some (vm_i v2), some (vm_i v3), some (vm_i v4), w5] [vm_i z1] m1 _
    refine vm_gp [(.istore 5, 0, 0, []), (.iload 3, 0, 0, []), (.iload 5, 0, 0, []), (.iconst (-1), 0, 0, [])] (pc1 := 26) (ls1 := [some (vm_r th), some (vm_i v1), some (vm_i v2), some (vm_i v3), some (vm_i v4), some (vm_i z1)]) (st1 := [vm_i (-1), vm_i z1, vm_i v3]) (m1 := m1) (ob := true) (by decide +kernel) rfl rfl ?_
    refine vm_gj (c := ¬ z1 = (-1)) (t := 33) (e := 29) (i := (.if_icmp .ne 0, 33, 0, [])) (len := 3) (st1 := [vm_i v3]) (by decide +kernel) rfl rfl (fun c2 => ?_) (fun c2 => ?_)
    · replace h := h.1 c2
      obtain ⟨⟨o5_0, o5_1⟩, h⟩ := h
      refine vm_gp [(.iload 5, 0, 0, []), (.iadd, 0, 0, []), (.istore 3, 0, 0, []), (.iinc 4 1, 0, 0, []), (.goto 0, 5, 0, [])] (pc1 := 5) (ls1 := [some (vm_r th), some (vm_i v1), some (vm_i v2), some (vm_i (v3 + z1)), some (vm_i (v4 + 1)), some (vm_i z1)]) (st1 := []) (m1 := m1) (ob := ((true && decide (vm_32 (v3 + z1))) && decide (vm_32 (v4 + 1)))) (by decide +kernel) rfl (vm_t (vm_t rfl o5_0) o5_1) ?_
      exact h
    · replace h := h.2 c2
      obtain ⟨⟨o6_0, o6_1⟩, h⟩ := h
      refine vm_gp [(.iconst 0, 0, 0, []), (.goto 0, 35, 0, []), (.iadd, 0, 0, []), (.istore 3, 0, 0, []), (.iinc 4 1, 0, 0, []), (.goto 0, 5, 0, [])] (pc1 := 5) (ls1 := [some (vm_r th), some (vm_i v1), some (vm_i v2), some (vm_i (v3 + 0)), some (vm_i (v4 + 1)), some (vm_i z1)]) (st1 := []) (m1 := m1) (ob := ((true && decide (vm_32 (v3 + 0))) && decide (vm_32 (v4 + 1)))) (by decide +kernel) rfl (vm_t (vm_t rfl o6_0) o6_1) ?_
      exact h
abbrev ku0_countOpen_0 (th : Nat) (v1 : Int) (m : vm_M) (Q : Int → vm_M → Prop) : Prop := vm_G 8 0 [some (vm_r th), some (vm_i v1), none, none] [] m (vm_qi Q)
abbrev ku0_countOpen_4 (th : Nat) (v1 : Int) (v2 : Int) (v3 : Int) (m : vm_M) (Q : Int → vm_M → Prop) : Prop := vm_G 8 4 [some (vm_r th), some (vm_i v1), some (vm_i v2), some (vm_i v3)] [] m (vm_qi Q)
set_option maxRecDepth 20000 in
theorem ru0_countOpen_0 {th : Nat} {v1 : Int} {m : vm_M} {Q : Int → vm_M → Prop} (h_th : vm_is th 0 = true) (h :
    ku0_countOpen_4 th v1 0 0 m Q) : vm_C 8 [vm_r th, vm_i v1] m (vm_qi Q) := by
  show vm_G 8 0 [some (vm_r th), some (vm_i v1), none, none] [] m (vm_qi Q)
  refine vm_gp [(.iconst 0, 0, 0, []), (.istore 2, 0, 0, []), (.iconst 0, 0, 0, []), (.istore 3, 0, 0, [])] (pc1 := 4) (ls1 := [some (vm_r th), some (vm_i v1), some (vm_i 0), some (vm_i 0)]) (st1 := []) (m1 := m) (ob := true) (by decide +kernel) rfl rfl ?_
  exact h
set_option maxRecDepth 20000 in
theorem ru0_countOpen_4 {th : Nat} {v1 : Int} {v2 : Int} {v3 : Int} {m : vm_M} {Q : Int → vm_M → Prop} (h_th : vm_is th 0 = true) (h :
    ((6 ≤ v3 →
      Q v2 m) ∧ (¬ 6 ≤ v3 →
      (vm_C 6 [vm_r th, vm_i v1, vm_i 0, vm_i v3] m (vm_qi (fun z1 m1 =>
        ((¬ z1 = (-1) →
          ((vm_32 (v2 + 0))) ∧
          (vm_C 6 [vm_r th, vm_i v1, vm_i 1, vm_i v3] m1 (vm_qi (fun z2 m2 =>
            ((¬ z2 = (-1) →
              ((vm_32 ((v2 + 0) + 0)) ∧ (vm_32 (v3 + 1))) ∧
              ku0_countOpen_4 th v1 ((v2 + 0) + 0) (v3 + 1) m2 Q) ∧ (¬ ¬ z2 = (-1) →
              ((vm_32 ((v2 + 0) + 1)) ∧ (vm_32 (v3 + 1))) ∧
              ku0_countOpen_4 th v1 ((v2 + 0) + 1) (v3 + 1) m2 Q)))))) ∧ (¬ ¬ z1 = (-1) →
          ((vm_32 (v2 + 1))) ∧
          (vm_C 6 [vm_r th, vm_i v1, vm_i 1, vm_i v3] m1 (vm_qi (fun z3 m3 =>
            ((¬ z3 = (-1) →
              ((vm_32 ((v2 + 1) + 0)) ∧ (vm_32 (v3 + 1))) ∧
              ku0_countOpen_4 th v1 ((v2 + 1) + 0) (v3 + 1) m3 Q) ∧ (¬ ¬ z3 = (-1) →
              ((vm_32 ((v2 + 1) + 1)) ∧ (vm_32 (v3 + 1))) ∧
              ku0_countOpen_4 th v1 ((v2 + 1) + 1) (v3 + 1) m3 Q))))))))))))) : ku0_countOpen_4 th v1 v2 v3 m Q := by
  show vm_G 8 4 [some (vm_r th), some (vm_i v1), some (vm_i v2), some (vm_i v3)] [] m (vm_qi Q)
  refine vm_gp [(.iload 3, 0, 0, []), (.iconst 6, 0, 0, [])] (pc1 := 7) (ls1 := [some (vm_r th), some (vm_i v1), some (vm_i v2), some (vm_i v3)]) (st1 := [vm_i 6, vm_i v3]) (m1 := m) (ob := true) (by decide +kernel) rfl rfl ?_
  refine vm_gj (c := 6 ≤ v3) (t := 54) (e := 10) (i := (.if_icmp .ge 0, 54, 0, [])) (len := 3) (st1 := []) (by decide +kernel) rfl rfl (fun c1 => ?_) (fun c1 => ?_)
  · replace h := h.1 c1
    refine vm_gp [(.iload 2, 0, 0, [])] (pc1 := 55) (ls1 := [some (vm_r th), some (vm_i v1), some (vm_i v2), some (vm_i v3)]) (st1 := [vm_i v2]) (m1 := m) (ob := true) (by decide +kernel) rfl rfl ?_
    exact vm_gr (r := some (vm_i v2)) (i := (.ireturn, 1, 0, [])) (len := 1) (by decide +kernel) rfl rfl rfl ⟨_, rfl, h⟩
  · replace h := h.2 c1
    refine vm_gp [(.iload 2, 0, 0, []), (.aload 0, 0, 0, []), (.iload 1, 0, 0, []), (.iconst 0, 0, 0, []), (.iload 3, 0, 0, [])] (pc1 := 15) (ls1 := [some (vm_r th), some (vm_i v1), some (vm_i v2), some (vm_i v3)]) (st1 := [vm_i v3, vm_i 0, vm_i v1, vm_r th, vm_i v2]) (m1 := m) (ob := true) (by decide +kernel) rfl rfl ?_
    refine vm_gc (g := 6) (na := 4) (av := [vm_r th, vm_i v1, vm_i 0, vm_i v3]) (rest := [vm_i v2]) (i := (.invokevirtual 0, 6, 4, [])) (len := 3) (by decide +kernel) rfl rfl rfl (by decide +kernel) (by decide +kernel) rfl rfl (vm_u (vm_okh_v (c := 0) (by decide +kernel) h_th) (show vm_okn 6 4 1 0 0 4 = true by decide +kernel)) ?_
    refine vm_G.mono h ?_
    rintro _ m1 ⟨z1, rfl, h⟩
    show vm_G 8 18 [some (vm_r th), some (vm_i v1), some (vm_i v2), some (vm_i v3)] [vm_i z1, vm_i v2] m1 _
    refine vm_gp [(.iconst (-1), 0, 0, [])] (pc1 := 19) (ls1 := [some (vm_r th), some (vm_i v1), some (vm_i v2), some (vm_i v3)]) (st1 := [vm_i (-1), vm_i z1, vm_i v2]) (m1 := m1) (ob := true) (by decide +kernel) rfl rfl ?_
    refine vm_gj (c := ¬ z1 = (-1)) (t := 26) (e := 22) (i := (.if_icmp .ne 0, 26, 0, [])) (len := 3) (st1 := [vm_i v2]) (by decide +kernel) rfl rfl (fun c2 => ?_) (fun c2 => ?_)
    · replace h := h.1 c2
      obtain ⟨o5_0, h⟩ := h
      refine vm_gp [(.iconst 0, 0, 0, []), (.iadd, 0, 0, []), (.istore 2, 0, 0, []), (.iload 2, 0, 0, []), (.aload 0, 0, 0, []), (.iload 1, 0, 0, []), (.iconst 1, 0, 0, []), (.iload 3, 0, 0, [])] (pc1 := 34) (ls1 := [some (vm_r th), some (vm_i v1), some (vm_i (v2 + 0)), some (vm_i v3)]) (st1 := [vm_i v3, vm_i 1, vm_i v1, vm_r th, vm_i (v2 + 0)]) (m1 := m1) (ob := (true && decide (vm_32 (v2 + 0)))) (by decide +kernel) rfl (vm_t rfl o5_0) ?_
      refine vm_gc (g := 6) (na := 4) (av := [vm_r th, vm_i v1, vm_i 1, vm_i v3]) (rest := [vm_i (v2 + 0)]) (i := (.invokevirtual 0, 6, 4, [])) (len := 3) (by decide +kernel) rfl rfl rfl (by decide +kernel) (by decide +kernel) rfl rfl (vm_u (vm_okh_v (c := 0) (by decide +kernel) h_th) (show vm_okn 6 4 1 0 0 4 = true by decide +kernel)) ?_
      refine vm_G.mono h ?_
      rintro _ m2 ⟨z2, rfl, h⟩
      show vm_G 8 37 [some (vm_r th), some (vm_i v1), some (vm_i (v2 + 0)), some (vm_i v3)] [vm_i z2, vm_i (v2 + 0)] m2 _
      refine vm_gp [(.iconst (-1), 0, 0, [])] (pc1 := 38) (ls1 := [some (vm_r th), some (vm_i v1), some (vm_i (v2 + 0)), some (vm_i v3)]) (st1 := [vm_i (-1), vm_i z2, vm_i (v2 + 0)]) (m1 := m2) (ob := true) (by decide +kernel) rfl rfl ?_
      refine vm_gj (c := ¬ z2 = (-1)) (t := 45) (e := 41) (i := (.if_icmp .ne 0, 45, 0, [])) (len := 3) (st1 := [vm_i (v2 + 0)]) (by decide +kernel) rfl rfl (fun c3 => ?_) (fun c3 => ?_)
      · replace h := h.1 c3
        obtain ⟨⟨o7_0, o7_1⟩, h⟩ := h
        refine vm_gp [(.iconst 0, 0, 0, []), (.iadd, 0, 0, []), (.istore 2, 0, 0, []), (.iinc 3 1, 0, 0, []), (.goto 0, 4, 0, [])] (pc1 := 4) (ls1 := [some (vm_r th), some (vm_i v1), some (vm_i ((v2 + 0) + 0)), some (vm_i (v3 + 1))]) (st1 := []) (m1 := m2) (ob := ((true && decide (vm_32 ((v2 + 0) + 0))) && decide (vm_32 (v3 + 1)))) (by decide +kernel) rfl (vm_t (vm_t rfl o7_0) o7_1) ?_
        exact h
      · replace h := h.2 c3
        obtain ⟨⟨o8_0, o8_1⟩, h⟩ := h
        refine vm_gp [(.iconst 1, 0, 0, []), (.goto 0, 46, 0, []), (.iadd, 0, 0, []), (.istore 2, 0, 0, []), (.iinc 3 1, 0, 0, []), (.goto 0, 4, 0, [])] (pc1 := 4) (ls1 := [some (vm_r th), some (vm_i v1), some (vm_i ((v2 + 0) + 1)), some (vm_i (v3 + 1))]) (st1 := []) (m1 := m2) (ob := ((true && decide (vm_32 ((v2 + 0) + 1))) && decide (vm_32 (v3 + 1)))) (by decide +kernel) rfl (vm_t (vm_t rfl o8_0) o8_1) ?_
        exact h
    · replace h := h.2 c2
      obtain ⟨o9_0, h⟩ := h
      refine vm_gp [(.iconst 1, 0, 0, []), (.goto 0, 27, 0, []), (.iadd, 0, 0, []), (.istore 2, 0, 0, []), (.iload 2, 0, 0, []), (.aload 0, 0, 0, []), (.iload 1, 0, 0, []), (.iconst 1, 0, 0, []), (.iload 3, 0, 0, [])] (pc1 := 34) (ls1 := [some (vm_r th), some (vm_i v1), some (vm_i (v2 + 1)), some (vm_i v3)]) (st1 := [vm_i v3, vm_i 1, vm_i v1, vm_r th, vm_i (v2 + 1)]) (m1 := m1) (ob := (true && decide (vm_32 (v2 + 1)))) (by decide +kernel) rfl (vm_t rfl o9_0) ?_
      refine vm_gc (g := 6) (na := 4) (av := [vm_r th, vm_i v1, vm_i 1, vm_i v3]) (rest := [vm_i (v2 + 1)]) (i := (.invokevirtual 0, 6, 4, [])) (len := 3) (by decide +kernel) rfl rfl rfl (by decide +kernel) (by decide +kernel) rfl rfl (vm_u (vm_okh_v (c := 0) (by decide +kernel) h_th) (show vm_okn 6 4 1 0 0 4 = true by decide +kernel)) ?_
      refine vm_G.mono h ?_
      rintro _ m3 ⟨z3, rfl, h⟩
      show vm_G 8 37 [some (vm_r th), some (vm_i v1), some (vm_i (v2 + 1)), some (vm_i v3)] [vm_i z3, vm_i (v2 + 1)] m3 _
      refine vm_gp [(.iconst (-1), 0, 0, [])] (pc1 := 38) (ls1 := [some (vm_r th), some (vm_i v1), some (vm_i (v2 + 1)), some (vm_i v3)]) (st1 := [vm_i (-1), vm_i z3, vm_i (v2 + 1)]) (m1 := m3) (ob := true) (by decide +kernel) rfl rfl ?_
      refine vm_gj (c := ¬ z3 = (-1)) (t := 45) (e := 41) (i := (.if_icmp .ne 0, 45, 0, [])) (len := 3) (st1 := [vm_i (v2 + 1)]) (by decide +kernel) rfl rfl (fun c4 => ?_) (fun c4 => ?_)
      · replace h := h.1 c4
        obtain ⟨⟨o11_0, o11_1⟩, h⟩ := h
        refine vm_gp [(.iconst 0, 0, 0, []), (.iadd, 0, 0, []), (.istore 2, 0, 0, []), (.iinc 3 1, 0, 0, []), (.goto 0, 4, 0, [])] (pc1 := 4) (ls1 := [some (vm_r th), some (vm_i v1), some (vm_i ((v2 + 1) + 0)), some (vm_i (v3 + 1))]) (st1 := []) (m1 := m3) (ob := ((true && decide (vm_32 ((v2 + 1) + 0))) && decide (vm_32 (v3 + 1)))) (by decide +kernel) rfl (vm_t (vm_t rfl o11_0) o11_1) ?_
        exact h
      · replace h := h.2 c4
        obtain ⟨⟨o12_0, o12_1⟩, h⟩ := h
        refine vm_gp [(.iconst 1, 0, 0, []), (.goto 0, 46, 0, []), (.iadd, 0, 0, []), (.istore 2, 0, 0, []), (.iinc 3 1, 0, 0, []), (.goto 0, 4, 0, [])] (pc1 := 4) (ls1 := [some (vm_r th), some (vm_i v1), some (vm_i ((v2 + 1) + 1)), some (vm_i (v3 + 1))]) (st1 := []) (m1 := m3) (ob := ((true && decide (vm_32 ((v2 + 1) + 1))) && decide (vm_32 (v3 + 1)))) (by decide +kernel) rfl (vm_t (vm_t rfl o12_0) o12_1) ?_
        exact h
abbrev ku0_opticalGap_0 (th : Nat) (v1 : Int) (v2 : Int) (v3 : Int) (m : vm_M) (Q : Int → vm_M → Prop) : Prop := vm_G 10 0 [some (vm_r th), some (vm_i v1), some (vm_i v2), some (vm_i v3), none, none, none, none] [] m (vm_qi Q)
abbrev ku0_opticalGap_6 (th : Nat) (v1 : Int) (v2 : Int) (v3 : Int) (v4 : Int) (v5 : Int) (w6 : Option vm_V) (w7 : Option vm_V) (m : vm_M) (Q : Int → vm_M → Prop) : Prop := vm_G 10 6 [some (vm_r th), some (vm_i v1), some (vm_i v2), some (vm_i v3), some (vm_i v4), some (vm_i v5), w6, w7] [] m (vm_qi Q)
set_option maxRecDepth 20000 in
theorem ru0_opticalGap_0 {th : Nat} {v1 : Int} {v2 : Int} {v3 : Int} {m : vm_M} {Q : Int → vm_M → Prop} (h_th : vm_is th 0 = true) (h :
    ku0_opticalGap_6 th v1 v2 v3 0 0 none none m Q) : vm_C 10 [vm_r th, vm_i v1, vm_i v2, vm_i v3] m (vm_qi Q) := by
  show vm_G 10 0 [some (vm_r th), some (vm_i v1), some (vm_i v2), some (vm_i v3), none, none, none, none] [] m (vm_qi Q)
  refine vm_gp [(.iconst 0, 0, 0, []), (.istore 4, 0, 0, []), (.iconst 0, 0, 0, []), (.istore 5, 0, 0, [])] (pc1 := 6) (ls1 := [some (vm_r th), some (vm_i v1), some (vm_i v2), some (vm_i v3), some (vm_i 0), some (vm_i 0), none, none]) (st1 := []) (m1 := m) (ob := true) (by decide +kernel) rfl rfl ?_
  exact h
set_option maxRecDepth 20000 in
theorem ru0_opticalGap_6 {th : Nat} {v1 : Int} {v2 : Int} {v3 : Int} {v4 : Int} {v5 : Int} {w6 : Option vm_V} {w7 : Option vm_V} {m : vm_M} {Q : Int → vm_M → Prop} (h_th : vm_is th 0 = true) (h :
    ((6 ≤ v5 →
      ((0 ≤ v4 ∧ (0 : Int) < 6)) ∧
      Q (v4 / 6) m) ∧ (¬ 6 ≤ v5 →
      (vm_C 6 [vm_r th, vm_i v1, vm_i 1, vm_i v5] m (vm_qi (fun z1 m1 =>
        (vm_C 6 [vm_r th, vm_i v2, vm_i 0, vm_i v5] m1 (vm_qi (fun z2 m2 =>
          ((z1 = (-1) →
            ((vm_32 (v4 + (m2 th 2))) ∧ (vm_32 (v5 + 1))) ∧
            ku0_opticalGap_6 th v1 v2 v3 (v4 + (m2 th 2)) (v5 + 1) (some (vm_i z1)) (some (vm_i z2)) m2 Q) ∧ (¬ z1 = (-1) →
            ((¬ z2 = (-1) →
              ((vm_32 (z1 + v3)) ∧ (vm_32 ((z1 + v3) + z2)) ∧ (vm_32 (v4 + (if (if 0 < ((z1 + v3) + z2) then ((z1 + v3) + z2) else 0) < (m2 th 2) then (if 0 < ((z1 + v3) + z2) then ((z1 + v3) + z2) else 0) else (m2 th 2)))) ∧ (vm_32 (v5 + 1))) ∧
              ku0_opticalGap_6 th v1 v2 v3 (v4 + (if (if 0 < ((z1 + v3) + z2) then ((z1 + v3) + z2) else 0) < (m2 th 2) then (if 0 < ((z1 + v3) + z2) then ((z1 + v3) + z2) else 0) else (m2 th 2))) (v5 + 1) (some (vm_i z1)) (some (vm_i z2)) m2 Q) ∧ (¬ ¬ z2 = (-1) →
              ((vm_32 (v4 + (m2 th 2))) ∧ (vm_32 (v5 + 1))) ∧
              ku0_opticalGap_6 th v1 v2 v3 (v4 + (m2 th 2)) (v5 + 1) (some (vm_i z1)) (some (vm_i z2)) m2 Q))))))))))))) : ku0_opticalGap_6 th v1 v2 v3 v4 v5 w6 w7 m Q := by
  show vm_G 10 6 [some (vm_r th), some (vm_i v1), some (vm_i v2), some (vm_i v3), some (vm_i v4), some (vm_i v5), w6, w7] [] m (vm_qi Q)
  refine vm_gp [(.iload 5, 0, 0, []), (.iconst 6, 0, 0, [])] (pc1 := 10) (ls1 := [some (vm_r th), some (vm_i v1), some (vm_i v2), some (vm_i v3), some (vm_i v4), some (vm_i v5), w6, w7]) (st1 := [vm_i 6, vm_i v5]) (m1 := m) (ob := true) (by decide +kernel) rfl rfl ?_
  refine vm_gj (c := 6 ≤ v5) (t := 86) (e := 13) (i := (.if_icmp .ge 0, 86, 0, [])) (len := 3) (st1 := []) (by decide +kernel) rfl rfl (fun c1 => ?_) (fun c1 => ?_)
  · replace h := h.1 c1
    obtain ⟨o2_0, h⟩ := h
    refine vm_gp [(.iload 4, 0, 0, []), (.iconst 6, 0, 0, []), (.idiv, 0, 0, [])] (pc1 := 91) (ls1 := [some (vm_r th), some (vm_i v1), some (vm_i v2), some (vm_i v3), some (vm_i v4), some (vm_i v5), w6, w7]) (st1 := [vm_i (v4 / 6)]) (m1 := m) (ob := (true && decide (0 ≤ v4 ∧ (0 : Int) < 6))) (by decide +kernel) rfl (vm_t rfl o2_0) ?_
    exact vm_gr (r := some (vm_i (v4 / 6))) (i := (.ireturn, 1, 0, [])) (len := 1) (by decide +kernel) rfl rfl rfl ⟨_, rfl, h⟩
  · replace h := h.2 c1
    refine vm_gp [(.aload 0, 0, 0, []), (.iload 1, 0, 0, []), (.iconst 1, 0, 0, []), (.iload 5, 0, 0, [])] (pc1 := 18) (ls1 := [some (vm_r th), some (vm_i v1), some (vm_i v2), some (vm_i v3), some (vm_i v4), some (vm_i v5), w6, w7]) (st1 := [vm_i v5, vm_i 1, vm_i v1, vm_r th]) (m1 := m) (ob := true) (by decide +kernel) rfl rfl ?_
    refine vm_gc (g := 6) (na := 4) (av := [vm_r th, vm_i v1, vm_i 1, vm_i v5]) (rest := []) (i := (.invokevirtual 0, 6, 4, [])) (len := 3) (by decide +kernel) rfl rfl rfl (by decide +kernel) (by decide +kernel) rfl rfl (vm_u (vm_okh_v (c := 0) (by decide +kernel) h_th) (show vm_okn 6 4 0 0 0 4 = true by decide +kernel)) ?_
    refine vm_G.mono h ?_
    rintro _ m1 ⟨z1, rfl, h⟩
    show vm_G 10 21 [some (vm_r th), some (vm_i v1), some (vm_i v2), some (vm_i v3), some (vm_i v4), some (vm_i v5), w6, w7] [vm_i z1] m1 _
    refine vm_gp [(.istore 6, 0, 0, []), (.aload 0, 0, 0, []), (.iload 2, 0, 0, []), (.iconst 0, 0, 0, []), (.iload 5, 0, 0, [])] (pc1 := 28) (ls1 := [some (vm_r th), some (vm_i v1), some (vm_i v2), some (vm_i v3), some (vm_i v4), some (vm_i v5), some (vm_i z1), w7]) (st1 := [vm_i v5, vm_i 0, vm_i v2, vm_r th]) (m1 := m1) (ob := true) (by decide +kernel) rfl rfl ?_
    refine vm_gc (g := 6) (na := 4) (av := [vm_r th, vm_i v2, vm_i 0, vm_i v5]) (rest := []) (i := (.invokevirtual 0, 6, 4, [])) (len := 3) (by decide +kernel) rfl rfl rfl (by decide +kernel) (by decide +kernel) rfl rfl (vm_u (vm_okh_v (c := 0) (by decide +kernel) h_th) (show vm_okn 6 4 0 0 0 4 = true by decide +kernel)) ?_
    refine vm_G.mono h ?_
    rintro _ m2 ⟨z2, rfl, h⟩
    show vm_G 10 31 [some (vm_r th), some (vm_i v1), some (vm_i v2), some (vm_i v3), some (vm_i v4), some (vm_i v5), some (vm_i z1), w7] [vm_i z2] m2 _
    refine vm_gp [(.istore 7, 0, 0, []), (.iload 6, 0, 0, []), (.iconst (-1), 0, 0, [])] (pc1 := 36) (ls1 := [some (vm_r th), some (vm_i v1), some (vm_i v2), some (vm_i v3), some (vm_i v4), some (vm_i v5), some (vm_i z1), some (vm_i z2)]) (st1 := [vm_i (-1), vm_i z1]) (m1 := m2) (ob := true) (by decide +kernel) rfl rfl ?_
    refine vm_gj (c := z1 = (-1)) (t := 45) (e := 39) (i := (.if_icmp .eq 0, 45, 0, [])) (len := 3) (st1 := []) (by decide +kernel) rfl rfl (fun c2 => ?_) (fun c2 => ?_)
    · replace h := h.1 c2
      obtain ⟨⟨o6_0, o6_1⟩, h⟩ := h
      refine vm_gp [(.iload 4, 0, 0, []), (.aload 0, 0, 0, []), (.getfield 0, 0, 2, []), (.iadd, 0, 0, []), (.istore 4, 0, 0, []), (.goto 0, 80, 0, []), (.iinc 5 1, 0, 0, []), (.goto 0, 6, 0, [])] (pc1 := 6) (ls1 := [some (vm_r th), some (vm_i v1), some (vm_i v2), some (vm_i v3), some (vm_i (v4 + (m2 th 2))), some (vm_i (v5 + 1)), some (vm_i z1), some (vm_i z2)]) (st1 := []) (m1 := m2) (ob := (((true && vm_is th 0) && decide (vm_32 (v4 + (m2 th 2)))) && decide (vm_32 (v5 + 1)))) (by decide +kernel) rfl (vm_t (vm_t (vm_u rfl h_th) o6_0) o6_1) ?_
      exact h
    · replace h := h.2 c2
      refine vm_gp [(.iload 7, 0, 0, []), (.iconst (-1), 0, 0, [])] (pc1 := 42) (ls1 := [some (vm_r th), some (vm_i v1), some (vm_i v2), some (vm_i v3), some (vm_i v4), some (vm_i v5), some (vm_i z1), some (vm_i z2)]) (st1 := [vm_i (-1), vm_i z2]) (m1 := m2) (ob := true) (by decide +kernel) rfl rfl ?_
      refine vm_gj (c := ¬ z2 = (-1)) (t := 57) (e := 45) (i := (.if_icmp .ne 0, 57, 0, [])) (len := 3) (st1 := []) (by decide +kernel) rfl rfl (fun c3 => ?_) (fun c3 => ?_)
      · replace h := h.1 c3
        obtain ⟨⟨o8_0, o8_1, o8_2, o8_3⟩, h⟩ := h
        refine vm_gp [(.iload 4, 0, 0, []), (.aload 0, 0, 0, []), (.getfield 0, 0, 2, []), (.iconst 0, 0, 0, []), (.iload 6, 0, 0, []), (.iload 3, 0, 0, []), (.iadd, 0, 0, []), (.iload 7, 0, 0, []), (.iadd, 0, 0, []), (.invokestatic 0, 1000, 0, []), (.invokestatic 0, 1001, 0, []), (.iadd, 0, 0, []), (.istore 4, 0, 0, []), (.iinc 5 1, 0, 0, []), (.goto 0, 6, 0, [])] (pc1 := 6) (ls1 := [some (vm_r th), some (vm_i v1), some (vm_i v2), some (vm_i v3), some (vm_i (v4 + (if (if 0 < ((z1 + v3) + z2) then ((z1 + v3) + z2) else 0) < (m2 th 2) then (if 0 < ((z1 + v3) + z2) then ((z1 + v3) + z2) else 0) else (m2 th 2)))), some (vm_i (v5 + 1)), some (vm_i z1), some (vm_i z2)]) (st1 := []) (m1 := m2) (ob := (((((((true && vm_is th 0) && decide (vm_32 (z1 + v3))) && decide (vm_32 ((z1 + v3) + z2))) && decide (vm_cats [vm_i (m2 th 2), vm_i v4] ≤ 8)) && decide (vm_cats [vm_i v4] ≤ 8)) && decide (vm_32 (v4 + (if (if 0 < ((z1 + v3) + z2) then ((z1 + v3) + z2) else 0) < (m2 th 2) then (if 0 < ((z1 + v3) + z2) then ((z1 + v3) + z2) else 0) else (m2 th 2))))) && decide (vm_32 (v5 + 1)))) (by decide +kernel) rfl (vm_t (vm_t (vm_t (vm_t (vm_t (vm_t (vm_u rfl h_th) o8_0) o8_1) (by decide : (2 : Nat) ≤ 8)) (by decide : (1 : Nat) ≤ 8)) o8_2) o8_3) ?_
        exact h
      · replace h := h.2 c3
        obtain ⟨⟨o9_0, o9_1⟩, h⟩ := h
        refine vm_gp [(.iload 4, 0, 0, []), (.aload 0, 0, 0, []), (.getfield 0, 0, 2, []), (.iadd, 0, 0, []), (.istore 4, 0, 0, []), (.goto 0, 80, 0, []), (.iinc 5 1, 0, 0, []), (.goto 0, 6, 0, [])] (pc1 := 6) (ls1 := [some (vm_r th), some (vm_i v1), some (vm_i v2), some (vm_i v3), some (vm_i (v4 + (m2 th 2))), some (vm_i (v5 + 1)), some (vm_i z1), some (vm_i z2)]) (st1 := []) (m1 := m2) (ob := (((true && vm_is th 0) && decide (vm_32 (v4 + (m2 th 2)))) && decide (vm_32 (v5 + 1)))) (by decide +kernel) rfl (vm_t (vm_t (vm_u rfl h_th) o9_0) o9_1) ?_
        exact h
abbrev ku0_freeDistance_0 (th : Nat) (v1 : Int) (v2 : Int) (v3 : Int) (v4 : Int) (m : vm_M) (Q : Int → vm_M → Prop) : Prop := vm_G 11 0 [some (vm_r th), some (vm_i v1), some (vm_i v2), some (vm_i v3), some (vm_i v4), none] [] m (vm_qi Q)
abbrev ku0_freeDistance_4 (th : Nat) (v1 : Int) (v2 : Int) (v3 : Int) (v4 : Int) (v5 : Int) (m : vm_M) (Q : Int → vm_M → Prop) : Prop := vm_G 11 4 [some (vm_r th), some (vm_i v1), some (vm_i v2), some (vm_i v3), some (vm_i v4), some (vm_i v5)] [] m (vm_qi Q)
set_option maxRecDepth 20000 in
theorem ru0_freeDistance_0 {th : Nat} {v1 : Int} {v2 : Int} {v3 : Int} {v4 : Int} {m : vm_M} {Q : Int → vm_M → Prop} (h_th : vm_is th 0 = true) (h :
    ku0_freeDistance_4 th v1 v2 v3 v4 v4 m Q) : vm_C 11 [vm_r th, vm_i v1, vm_i v2, vm_i v3, vm_i v4] m (vm_qi Q) := by
  show vm_G 11 0 [some (vm_r th), some (vm_i v1), some (vm_i v2), some (vm_i v3), some (vm_i v4), none] [] m (vm_qi Q)
  refine vm_gp [(.iload 4, 0, 0, []), (.istore 5, 0, 0, [])] (pc1 := 4) (ls1 := [some (vm_r th), some (vm_i v1), some (vm_i v2), some (vm_i v3), some (vm_i v4), some (vm_i v4)]) (st1 := []) (m1 := m) (ob := true) (by decide +kernel) rfl rfl ?_
  exact h
set_option maxRecDepth 20000 in
theorem ru0_freeDistance_4 {th : Nat} {v1 : Int} {v2 : Int} {v3 : Int} {v4 : Int} {v5 : Int} {m : vm_M} {Q : Int → vm_M → Prop} (h_th : vm_is th 0 = true) (h :
    (((m th 2) ≤ v5 →
      Q v5 m) ∧ (¬ (m th 2) ≤ v5 →
      (vm_C 10 [vm_r th, vm_i v1, vm_i v2, vm_i v5] m (vm_qi (fun z1 m1 =>
        ((v3 ≤ z1 →
          Q v5 m1) ∧ (¬ v3 ≤ z1 →
          ((vm_32 (v5 + 1))) ∧
          ku0_freeDistance_4 th v1 v2 v3 v4 (v5 + 1) m1 Q)))))))) : ku0_freeDistance_4 th v1 v2 v3 v4 v5 m Q := by
  show vm_G 11 4 [some (vm_r th), some (vm_i v1), some (vm_i v2), some (vm_i v3), some (vm_i v4), some (vm_i v5)] [] m (vm_qi Q)
  refine vm_gp [(.iload 5, 0, 0, []), (.aload 0, 0, 0, []), (.getfield 0, 0, 2, [])] (pc1 := 10) (ls1 := [some (vm_r th), some (vm_i v1), some (vm_i v2), some (vm_i v3), some (vm_i v4), some (vm_i v5)]) (st1 := [vm_i (m th 2), vm_i v5]) (m1 := m) (ob := (true && vm_is th 0)) (by decide +kernel) rfl (vm_u rfl h_th) ?_
  refine vm_gj (c := (m th 2) ≤ v5) (t := 31) (e := 13) (i := (.if_icmp .ge 0, 31, 0, [])) (len := 3) (st1 := []) (by decide +kernel) rfl rfl (fun c1 => ?_) (fun c1 => ?_)
  · replace h := h.1 c1
    refine vm_gp [(.iload 5, 0, 0, [])] (pc1 := 33) (ls1 := [some (vm_r th), some (vm_i v1), some (vm_i v2), some (vm_i v3), some (vm_i v4), some (vm_i v5)]) (st1 := [vm_i v5]) (m1 := m) (ob := true) (by decide +kernel) rfl rfl ?_
    exact vm_gr (r := some (vm_i v5)) (i := (.ireturn, 1, 0, [])) (len := 1) (by decide +kernel) rfl rfl rfl ⟨_, rfl, h⟩
  · replace h := h.2 c1
    refine vm_gp [(.aload 0, 0, 0, []), (.iload 1, 0, 0, []), (.iload 2, 0, 0, []), (.iload 5, 0, 0, [])] (pc1 := 18) (ls1 := [some (vm_r th), some (vm_i v1), some (vm_i v2), some (vm_i v3), some (vm_i v4), some (vm_i v5)]) (st1 := [vm_i v5, vm_i v2, vm_i v1, vm_r th]) (m1 := m) (ob := true) (by decide +kernel) rfl rfl ?_
    refine vm_gc (g := 10) (na := 4) (av := [vm_r th, vm_i v1, vm_i v2, vm_i v5]) (rest := []) (i := (.invokevirtual 0, 10, 4, [])) (len := 3) (by decide +kernel) rfl rfl rfl (by decide +kernel) (by decide +kernel) rfl rfl (vm_u (vm_okh_v (c := 0) (by decide +kernel) h_th) (show vm_okn 10 4 0 0 0 4 = true by decide +kernel)) ?_
    refine vm_G.mono h ?_
    rintro _ m1 ⟨z1, rfl, h⟩
    show vm_G 11 21 [some (vm_r th), some (vm_i v1), some (vm_i v2), some (vm_i v3), some (vm_i v4), some (vm_i v5)] [vm_i z1] m1 _
    refine vm_gp [(.iload 3, 0, 0, [])] (pc1 := 22) (ls1 := [some (vm_r th), some (vm_i v1), some (vm_i v2), some (vm_i v3), some (vm_i v4), some (vm_i v5)]) (st1 := [vm_i v3, vm_i z1]) (m1 := m1) (ob := true) (by decide +kernel) rfl rfl ?_
    refine vm_gj (c := v3 ≤ z1) (t := 31) (e := 25) (i := (.if_icmp .ge 0, 31, 0, [])) (len := 3) (st1 := []) (by decide +kernel) rfl rfl (fun c2 => ?_) (fun c2 => ?_)
    · replace h := h.1 c2
      refine vm_gp [(.iload 5, 0, 0, [])] (pc1 := 33) (ls1 := [some (vm_r th), some (vm_i v1), some (vm_i v2), some (vm_i v3), some (vm_i v4), some (vm_i v5)]) (st1 := [vm_i v5]) (m1 := m1) (ob := true) (by decide +kernel) rfl rfl ?_
      exact vm_gr (r := some (vm_i v5)) (i := (.ireturn, 1, 0, [])) (len := 1) (by decide +kernel) rfl rfl rfl ⟨_, rfl, h⟩
    · replace h := h.2 c2
      obtain ⟨o6_0, h⟩ := h
      refine vm_gp [(.iinc 5 1, 0, 0, []), (.goto 0, 4, 0, [])] (pc1 := 4) (ls1 := [some (vm_r th), some (vm_i v1), some (vm_i v2), some (vm_i v3), some (vm_i v4), some (vm_i (v5 + 1))]) (st1 := []) (m1 := m1) (ob := (true && decide (vm_32 (v5 + 1)))) (by decide +kernel) rfl (vm_t rfl o6_0) ?_
      exact h
abbrev ku1_prepare_0 (th : Nat) (o1 : Nat) (v3 : Int) (v4 : Int) (m : vm_M) (Q : vm_M → Prop) : Prop := vm_G 13 0 [some (vm_r th), some (vm_r o1), some (vm_r 65), some (vm_i v3), some (vm_i v4), none] [] m (vm_qv Q)
abbrev ku1_prepare_37 (th : Nat) (o1 : Nat) (v3 : Int) (v4 : Int) (v5 : Int) (m : vm_M) (Q : vm_M → Prop) : Prop := vm_G 13 37 [some (vm_r th), some (vm_r o1), some (vm_r 65), some (vm_i v3), some (vm_i v4), some (vm_i v5)] [] m (vm_qv Q)
set_option maxRecDepth 20000 in
theorem ru1_prepare_0 {th : Nat} {o1 : Nat} {v3 : Int} {v4 : Int} {m : vm_M} {Q : vm_M → Prop} (h_th : vm_is th 1 = true) (h_o1 : vm_is o1 4 = true) (h :
    ku1_prepare_37 th o1 v3 v4 0 (vm_st (vm_st (vm_st (vm_st m th 4 (m o1 6)) th 5 ((vm_st m th 4 (m o1 6)) (o1 + 1) 0)) th 6 ((vm_st (vm_st m th 4 (m o1 6)) th 5 ((vm_st m th 4 (m o1 6)) (o1 + 1) 0)) (o1 + 1) 4)) th 7 v4) Q) : vm_C 13 [vm_r th, vm_r o1, vm_r 65, vm_i v3, vm_i v4] m (vm_qv Q) := by
  show vm_G 13 0 [some (vm_r th), some (vm_r o1), some (vm_r 65), some (vm_i v3), some (vm_i v4), none] [] m (vm_qv Q)
  refine vm_gp [(.aload 0, 0, 0, []), (.aload 1, 0, 0, []), (.getfield 0, 4, 6, []), (.putfield 0, 1, 4, []), (.aload 0, 0, 0, []), (.aload 1, 0, 0, []), (.getfield 2, 4, 0, [(1, 1)]), (.iconst 0, 0, 0, []), (.iaload, 6, 0, []), (.putfield 0, 1, 5, []), (.aload 0, 0, 0, []), (.aload 1, 0, 0, []), (.getfield 2, 4, 0, [(1, 1)]), (.iconst 4, 0, 0, []), (.iaload, 6, 0, []), (.putfield 0, 1, 6, []), (.aload 0, 0, 0, []), (.iload 4, 0, 0, []), (.putfield 0, 1, 7, []), (.iconst 0, 0, 0, []), (.istore 5, 0, 0, [])] (pc1 := 37) (ls1 := [some (vm_r th), some (vm_r o1), some (vm_r 65), some (vm_i v3), some (vm_i v4), some (vm_i 0)]) (st1 := []) (m1 := (vm_st (vm_st (vm_st (vm_st m th 4 (m o1 6)) th 5 ((vm_st m th 4 (m o1 6)) (o1 + 1) 0)) th 6 ((vm_st (vm_st m th 4 (m o1 6)) th 5 ((vm_st m th 4 (m o1 6)) (o1 + 1) 0)) (o1 + 1) 4)) th 7 v4)) (ob := (((((((((((((true && vm_is o1 4) && vm_is th 1) && vm_is o1 4) && true) && vm_ar (o1 + 1) 100 6) && decide ((0 : Int) ≤ 0 ∧ (0 : Int) < 6)) && vm_is th 1) && vm_is o1 4) && true) && vm_ar (o1 + 1) 100 6) && decide ((0 : Int) ≤ 4 ∧ (4 : Int) < 6)) && vm_is th 1) && vm_is th 1)) (by decide +kernel) rfl (vm_u (vm_u (vm_t (vm_u (vm_u (vm_u (vm_u (vm_t (vm_u (vm_u (vm_u (vm_u (vm_u rfl h_o1) h_th) h_o1) rfl) (vm_is_ar 1 (by decide) h_o1 (by decide +kernel))) (by decide)) h_th) h_o1) rfl) (vm_is_ar 1 (by decide) h_o1 (by decide +kernel))) (by decide)) h_th) h_th) ?_
  exact h
set_option maxRecDepth 20000 in
theorem ru1_prepare_37 {th : Nat} {o1 : Nat} {v3 : Int} {v4 : Int} {v5 : Int} {m : vm_M} {Q : vm_M → Prop} (h_th : vm_is th 1 = true) (h_o1 : vm_is o1 4 = true) (h :
    (((m th 4) ≤ v5 →
      (vm_C 24 [vm_r th] m (vm_qv (fun m1 =>
        Q m1)))) ∧ (¬ (m th 4) ≤ v5 →
      (vm_C 96 [vm_r 65, vm_i v5, vm_i v3] m (vm_qi (fun z2 m2 =>
        ((0 ≤ v5 ∧ v5 < 30) ∧ (vm_32 (v5 + 1))) ∧
        ku1_prepare_37 th o1 v3 v4 (v5 + 1) (vm_st m2 (th + 1) v5 z2) Q)))))) : ku1_prepare_37 th o1 v3 v4 v5 m Q := by
  show vm_G 13 37 [some (vm_r th), some (vm_r o1), some (vm_r 65), some (vm_i v3), some (vm_i v4), some (vm_i v5)] [] m (vm_qv Q)
  refine vm_gp [(.iload 5, 0, 0, []), (.aload 0, 0, 0, []), (.getfield 0, 1, 4, [])] (pc1 := 43) (ls1 := [some (vm_r th), some (vm_r o1), some (vm_r 65), some (vm_i v3), some (vm_i v4), some (vm_i v5)]) (st1 := [vm_i (m th 4), vm_i v5]) (m1 := m) (ob := (true && vm_is th 1)) (by decide +kernel) rfl (vm_u rfl h_th) ?_
  refine vm_gj (c := (m th 4) ≤ v5) (t := 66) (e := 46) (i := (.if_icmp .ge 0, 66, 0, [])) (len := 3) (st1 := []) (by decide +kernel) rfl rfl (fun c1 => ?_) (fun c1 => ?_)
  · replace h := h.1 c1
    refine vm_gp [(.aload 0, 0, 0, [])] (pc1 := 67) (ls1 := [some (vm_r th), some (vm_r o1), some (vm_r 65), some (vm_i v3), some (vm_i v4), some (vm_i v5)]) (st1 := [vm_r th]) (m1 := m) (ob := true) (by decide +kernel) rfl rfl ?_
    refine vm_gc (g := 24) (na := 1) (av := [vm_r th]) (rest := []) (i := (.invokevirtual 0, 24, 1, [])) (len := 3) (by decide +kernel) rfl rfl rfl (by decide +kernel) (by decide +kernel) rfl rfl (vm_u (vm_okh_v (c := 1) (by decide +kernel) h_th) (show vm_okn 24 1 0 0 0 1 = true by decide +kernel)) ?_
    refine vm_G.mono h ?_
    rintro _ m1 ⟨rfl, h⟩
    show vm_G 13 70 [some (vm_r th), some (vm_r o1), some (vm_r 65), some (vm_i v3), some (vm_i v4), some (vm_i v5)] [] m1 _
    exact vm_gr (r := none) (i := (.return_, 0, 0, [])) (len := 1) (by decide +kernel) rfl rfl rfl ⟨rfl, h⟩
  · replace h := h.2 c1
    refine vm_gp [(.aload 0, 0, 0, []), (.getfield 2, 1, 0, [(1, 1)]), (.iload 5, 0, 0, []), (.aload 2, 0, 0, []), (.iload 5, 0, 0, []), (.iload 3, 0, 0, [])] (pc1 := 56) (ls1 := [some (vm_r th), some (vm_r o1), some (vm_r 65), some (vm_i v3), some (vm_i v4), some (vm_i v5)]) (st1 := [vm_i v3, vm_i v5, vm_r 65, vm_i v5, vm_r (th + 1)]) (m1 := m) (ob := ((true && vm_is th 1) && true)) (by decide +kernel) rfl (vm_u (vm_u rfl h_th) rfl) ?_
    refine vm_gc (g := 96) (na := 3) (av := [vm_r 65, vm_i v5, vm_i v3]) (rest := [vm_i v5, vm_r (th + 1)]) (i := (.invokevirtual 0, 96, 3, [])) (len := 3) (by decide +kernel) rfl rfl rfl (by decide +kernel) (by decide +kernel) rfl rfl (vm_u (vm_okh_v (c := 9) (by decide +kernel) (by decide +kernel)) (show vm_okn 96 3 2 0 0 3 = true by decide +kernel)) ?_
    refine vm_G.mono h ?_
    rintro _ m2 ⟨z2, rfl, h⟩
    show vm_G 13 59 [some (vm_r th), some (vm_r o1), some (vm_r 65), some (vm_i v3), some (vm_i v4), some (vm_i v5)] [vm_i z2, vm_i v5, vm_r (th + 1)] m2 _
    obtain ⟨⟨o5_0, o5_1⟩, h⟩ := h
    refine vm_gp [(.iastore, 30, 0, []), (.iinc 5 1, 0, 0, []), (.goto 0, 37, 0, [])] (pc1 := 37) (ls1 := [some (vm_r th), some (vm_r o1), some (vm_r 65), some (vm_i v3), some (vm_i v4), some (vm_i (v5 + 1))]) (st1 := []) (m1 := (vm_st m2 (th + 1) v5 z2)) (ob := (((true && vm_ar (th + 1) 100 30) && decide (0 ≤ v5 ∧ v5 < 30)) && decide (vm_32 (v5 + 1)))) (by decide +kernel) rfl (vm_t (vm_t (vm_u rfl (vm_is_ar 1 (by decide) h_th (by decide +kernel))) o5_0) o5_1) ?_
    exact h
abbrev ku1_breakWords_0 (th : Nat) (v1 : Int) (m : vm_M) (Q : vm_M → Prop) : Prop := vm_G 14 0 [some (vm_r th), some (vm_i v1)] [] m (vm_qv Q)
set_option maxRecDepth 20000 in
theorem ru1_breakWords_0 {th : Nat} {v1 : Int} {m : vm_M} {Q : vm_M → Prop} (h_th : vm_is th 1 = true) (h :
    ((¬ v1 = 0 →
      (vm_C 23 [vm_r th] m (vm_qi (fun z1 m1 =>
        ((¬ z1 = (-1) →
          (vm_C 30 [vm_r th] m1 (vm_qv (fun m2 =>
            Q m2)))) ∧ (¬ ¬ z1 = (-1) →
          Q (vm_st m1 th 8 0))))))) ∧ (¬ ¬ v1 = 0 →
      (vm_C 29 [vm_r th] m (vm_qv (fun m3 =>
        Q m3)))))) : vm_C 14 [vm_r th, vm_i v1] m (vm_qv Q) := by
  show vm_G 14 0 [some (vm_r th), some (vm_i v1)] [] m (vm_qv Q)
  refine vm_gp [(.iload 1, 0, 0, [])] (pc1 := 1) (ls1 := [some (vm_r th), some (vm_i v1)]) (st1 := [vm_i v1]) (m1 := m) (ob := true) (by decide +kernel) rfl rfl ?_
  refine vm_gj (c := ¬ v1 = 0) (t := 11) (e := 4) (i := (.ifCond .ne 0, 11, 0, [])) (len := 3) (st1 := []) (by decide +kernel) rfl rfl (fun c1 => ?_) (fun c1 => ?_)
  · replace h := h.1 c1
    refine vm_gp [(.aload 0, 0, 0, [])] (pc1 := 12) (ls1 := [some (vm_r th), some (vm_i v1)]) (st1 := [vm_r th]) (m1 := m) (ob := true) (by decide +kernel) rfl rfl ?_
    refine vm_gc (g := 23) (na := 1) (av := [vm_r th]) (rest := []) (i := (.invokevirtual 0, 23, 1, [])) (len := 3) (by decide +kernel) rfl rfl rfl (by decide +kernel) (by decide +kernel) rfl rfl (vm_u (vm_okh_v (c := 1) (by decide +kernel) h_th) (show vm_okn 23 1 0 0 0 1 = true by decide +kernel)) ?_
    refine vm_G.mono h ?_
    rintro _ m1 ⟨z1, rfl, h⟩
    show vm_G 14 15 [some (vm_r th), some (vm_i v1)] [vm_i z1] m1 _
    refine vm_gp [(.iconst (-1), 0, 0, [])] (pc1 := 16) (ls1 := [some (vm_r th), some (vm_i v1)]) (st1 := [vm_i (-1), vm_i z1]) (m1 := m1) (ob := true) (by decide +kernel) rfl rfl ?_
    refine vm_gj (c := ¬ z1 = (-1)) (t := 27) (e := 19) (i := (.if_icmp .ne 0, 27, 0, [])) (len := 3) (st1 := []) (by decide +kernel) rfl rfl (fun c2 => ?_) (fun c2 => ?_)
    · replace h := h.1 c2
      refine vm_gp [(.aload 0, 0, 0, [])] (pc1 := 28) (ls1 := [some (vm_r th), some (vm_i v1)]) (st1 := [vm_r th]) (m1 := m1) (ob := true) (by decide +kernel) rfl rfl ?_
      refine vm_gc (g := 30) (na := 1) (av := [vm_r th]) (rest := []) (i := (.invokevirtual 0, 30, 1, [])) (len := 3) (by decide +kernel) rfl rfl rfl (by decide +kernel) (by decide +kernel) rfl rfl (vm_u (vm_okh_v (c := 1) (by decide +kernel) h_th) (show vm_okn 30 1 0 0 0 1 = true by decide +kernel)) ?_
      refine vm_G.mono h ?_
      rintro _ m2 ⟨rfl, h⟩
      show vm_G 14 31 [some (vm_r th), some (vm_i v1)] [] m2 _
      exact vm_gr (r := none) (i := (.return_, 0, 0, [])) (len := 1) (by decide +kernel) rfl rfl rfl ⟨rfl, h⟩
    · replace h := h.2 c2
      refine vm_gp [(.aload 0, 0, 0, []), (.iconst 0, 0, 0, []), (.putfield 0, 1, 8, []), (.goto 0, 31, 0, [])] (pc1 := 31) (ls1 := [some (vm_r th), some (vm_i v1)]) (st1 := []) (m1 := (vm_st m1 th 8 0)) (ob := (true && vm_is th 1)) (by decide +kernel) rfl (vm_u rfl h_th) ?_
      exact vm_gr (r := none) (i := (.return_, 0, 0, [])) (len := 1) (by decide +kernel) rfl rfl rfl ⟨rfl, h⟩
  · replace h := h.2 c1
    refine vm_gp [(.aload 0, 0, 0, [])] (pc1 := 5) (ls1 := [some (vm_r th), some (vm_i v1)]) (st1 := [vm_r th]) (m1 := m) (ob := true) (by decide +kernel) rfl rfl ?_
    refine vm_gc (g := 29) (na := 1) (av := [vm_r th]) (rest := []) (i := (.invokevirtual 0, 29, 1, [])) (len := 3) (by decide +kernel) rfl rfl rfl (by decide +kernel) (by decide +kernel) rfl rfl (vm_u (vm_okh_v (c := 1) (by decide +kernel) h_th) (show vm_okn 29 1 0 0 0 1 = true by decide +kernel)) ?_
    refine vm_G.mono h ?_
    rintro _ m3 ⟨rfl, h⟩
    show vm_G 14 8 [some (vm_r th), some (vm_i v1)] [] m3 _
    refine vm_gp [(.goto 0, 31, 0, [])] (pc1 := 31) (ls1 := [some (vm_r th), some (vm_i v1)]) (st1 := []) (m1 := m3) (ob := true) (by decide +kernel) rfl rfl ?_
    exact vm_gr (r := none) (i := (.return_, 0, 0, [])) (len := 1) (by decide +kernel) rfl rfl rfl ⟨rfl, h⟩
abbrev ku1_hasRow_0 (th : Nat) (v1 : Int) (m : vm_M) (Q : Int → vm_M → Prop) : Prop := vm_G 15 0 [some (vm_r th), some (vm_i v1)] [] m (vm_qi Q)
set_option maxRecDepth 20000 in
theorem ru1_hasRow_0 {th : Nat} {v1 : Int} {m : vm_M} {Q : Int → vm_M → Prop} (h_th : vm_is th 1 = true) (h :
    ((v1 < 0 →
      Q 0 m) ∧ (¬ v1 < 0 →
      (((m th 8) ≤ v1 →
        Q 0 m) ∧ (¬ (m th 8) ≤ v1 →
        Q 1 m))))) : vm_C 15 [vm_r th, vm_i v1] m (vm_qi Q) := by
  show vm_G 15 0 [some (vm_r th), some (vm_i v1)] [] m (vm_qi Q)
  refine vm_gp [(.iload 1, 0, 0, [])] (pc1 := 1) (ls1 := [some (vm_r th), some (vm_i v1)]) (st1 := [vm_i v1]) (m1 := m) (ob := true) (by decide +kernel) rfl rfl ?_
  refine vm_gj (c := v1 < 0) (t := 16) (e := 4) (i := (.ifCond .lt 0, 16, 0, [])) (len := 3) (st1 := []) (by decide +kernel) rfl rfl (fun c1 => ?_) (fun c1 => ?_)
  · replace h := h.1 c1
    refine vm_gp [(.iconst 0, 0, 0, [])] (pc1 := 17) (ls1 := [some (vm_r th), some (vm_i v1)]) (st1 := [vm_i 0]) (m1 := m) (ob := true) (by decide +kernel) rfl rfl ?_
    exact vm_gr (r := some (vm_i 0)) (i := (.ireturn, 2, 0, [])) (len := 1) (by decide +kernel) rfl rfl (by decide) ⟨_, rfl, h⟩
  · replace h := h.2 c1
    refine vm_gp [(.iload 1, 0, 0, []), (.aload 0, 0, 0, []), (.getfield 0, 1, 8, [])] (pc1 := 9) (ls1 := [some (vm_r th), some (vm_i v1)]) (st1 := [vm_i (m th 8), vm_i v1]) (m1 := m) (ob := (true && vm_is th 1)) (by decide +kernel) rfl (vm_u rfl h_th) ?_
    refine vm_gj (c := (m th 8) ≤ v1) (t := 16) (e := 12) (i := (.if_icmp .ge 0, 16, 0, [])) (len := 3) (st1 := []) (by decide +kernel) rfl rfl (fun c2 => ?_) (fun c2 => ?_)
    · replace h := h.1 c2
      refine vm_gp [(.iconst 0, 0, 0, [])] (pc1 := 17) (ls1 := [some (vm_r th), some (vm_i v1)]) (st1 := [vm_i 0]) (m1 := m) (ob := true) (by decide +kernel) rfl rfl ?_
      exact vm_gr (r := some (vm_i 0)) (i := (.ireturn, 2, 0, [])) (len := 1) (by decide +kernel) rfl rfl (by decide) ⟨_, rfl, h⟩
    · replace h := h.2 c2
      refine vm_gp [(.iconst 1, 0, 0, []), (.goto 0, 17, 0, [])] (pc1 := 17) (ls1 := [some (vm_r th), some (vm_i v1)]) (st1 := [vm_i 1]) (m1 := m) (ob := true) (by decide +kernel) rfl rfl ?_
      exact vm_gr (r := some (vm_i 1)) (i := (.ireturn, 2, 0, [])) (len := 1) (by decide +kernel) rfl rfl (by decide) ⟨_, rfl, h⟩
abbrev ku1_wordsIn_0 (th : Nat) (v1 : Int) (m : vm_M) (Q : Int → vm_M → Prop) : Prop := vm_G 16 0 [some (vm_r th), some (vm_i v1)] [] m (vm_qi Q)
set_option maxRecDepth 20000 in
theorem ru1_wordsIn_0 {th : Nat} {v1 : Int} {m : vm_M} {Q : Int → vm_M → Prop} (h_th : vm_is th 1 = true) (h :
    ((vm_32 (v1 + 1)) ∧ (0 ≤ (v1 + 1) ∧ (v1 + 1) < 13) ∧ (0 ≤ v1 ∧ v1 < 13) ∧ (vm_32 ((m (th + 3) (v1 + 1)) - (m (th + 3) v1)))) ∧
    Q ((m (th + 3) (v1 + 1)) - (m (th + 3) v1)) m) : vm_C 16 [vm_r th, vm_i v1] m (vm_qi Q) := by
  show vm_G 16 0 [some (vm_r th), some (vm_i v1)] [] m (vm_qi Q)
  obtain ⟨⟨o1_0, o1_1, o1_2, o1_3⟩, h⟩ := h
  refine vm_gp [(.aload 0, 0, 0, []), (.getfield 2, 1, 2, [(3, 1)]), (.iload 1, 0, 0, []), (.iconst 1, 0, 0, []), (.iadd, 0, 0, []), (.iaload, 13, 0, []), (.aload 0, 0, 0, []), (.getfield 2, 1, 2, [(3, 1)]), (.iload 1, 0, 0, []), (.iaload, 13, 0, []), (.isub, 0, 0, [])] (pc1 := 15) (ls1 := [some (vm_r th), some (vm_i v1)]) (st1 := [vm_i ((m (th + 3) (v1 + 1)) - (m (th + 3) v1))]) (m1 := m) (ob := ((((((((((true && vm_is th 1) && true) && decide (vm_32 (v1 + 1))) && vm_ar (th + 3) 100 13) && decide (0 ≤ (v1 + 1) ∧ (v1 + 1) < 13)) && vm_is th 1) && true) && vm_ar (th + 3) 100 13) && decide (0 ≤ v1 ∧ v1 < 13)) && decide (vm_32 ((m (th + 3) (v1 + 1)) - (m (th + 3) v1))))) (by decide +kernel) rfl (vm_t (vm_t (vm_u (vm_u (vm_u (vm_t (vm_u (vm_t (vm_u (vm_u rfl h_th) rfl) o1_0) (vm_is_ar 3 (by decide) h_th (by decide +kernel))) o1_1) h_th) rfl) (vm_is_ar 3 (by decide) h_th (by decide +kernel))) o1_2) o1_3) ?_
  exact vm_gr (r := some (vm_i ((m (th + 3) (v1 + 1)) - (m (th + 3) v1)))) (i := (.ireturn, 1, 0, [])) (len := 1) (by decide +kernel) rfl rfl rfl ⟨_, rfl, h⟩
abbrev ku1_rowOf_0 (th : Nat) (v1 : Int) (m : vm_M) (Q : Int → vm_M → Prop) : Prop := vm_G 17 0 [some (vm_r th), some (vm_i v1), none] [] m (vm_qi Q)
abbrev ku1_rowOf_2 (th : Nat) (v1 : Int) (v2 : Int) (m : vm_M) (Q : Int → vm_M → Prop) : Prop := vm_G 17 2 [some (vm_r th), some (vm_i v1), some (vm_i v2)] [] m (vm_qi Q)
set_option maxRecDepth 20000 in
theorem ru1_rowOf_0 {th : Nat} {v1 : Int} {m : vm_M} {Q : Int → vm_M → Prop} (h_th : vm_is th 1 = true) (h :
    ku1_rowOf_2 th v1 0 m Q) : vm_C 17 [vm_r th, vm_i v1] m (vm_qi Q) := by
  show vm_G 17 0 [some (vm_r th), some (vm_i v1), none] [] m (vm_qi Q)
  refine vm_gp [(.iconst 0, 0, 0, []), (.istore 2, 0, 0, [])] (pc1 := 2) (ls1 := [some (vm_r th), some (vm_i v1), some (vm_i 0)]) (st1 := []) (m1 := m) (ob := true) (by decide +kernel) rfl rfl ?_
  exact h
set_option maxRecDepth 20000 in
theorem ru1_rowOf_2 {th : Nat} {v1 : Int} {v2 : Int} {m : vm_M} {Q : Int → vm_M → Prop} (h_th : vm_is th 1 = true) (h :
    (((m th 8) ≤ v2 →
      Q (-2) m) ∧ (¬ (m th 8) ≤ v2 →
      ((0 ≤ v2 ∧ v2 < 13)) ∧
      ((v1 < (m (th + 3) v2) →
        ((vm_32 (v2 + 1))) ∧
        ku1_rowOf_2 th v1 (v2 + 1) m Q) ∧ (¬ v1 < (m (th + 3) v2) →
        ((vm_32 (v2 + 1)) ∧ (0 ≤ (v2 + 1) ∧ (v2 + 1) < 13)) ∧
        (((m (th + 3) (v2 + 1)) ≤ v1 →
          ((vm_32 (v2 + 1))) ∧
          ku1_rowOf_2 th v1 (v2 + 1) m Q) ∧ (¬ (m (th + 3) (v2 + 1)) ≤ v1 →
          Q v2 m))))))) : ku1_rowOf_2 th v1 v2 m Q := by
  show vm_G 17 2 [some (vm_r th), some (vm_i v1), some (vm_i v2)] [] m (vm_qi Q)
  refine vm_gp [(.iload 2, 0, 0, []), (.aload 0, 0, 0, []), (.getfield 0, 1, 8, [])] (pc1 := 7) (ls1 := [some (vm_r th), some (vm_i v1), some (vm_i v2)]) (st1 := [vm_i (m th 8), vm_i v2]) (m1 := m) (ob := (true && vm_is th 1)) (by decide +kernel) rfl (vm_u rfl h_th) ?_
  refine vm_gj (c := (m th 8) ≤ v2) (t := 40) (e := 10) (i := (.if_icmp .ge 0, 40, 0, [])) (len := 3) (st1 := []) (by decide +kernel) rfl rfl (fun c1 => ?_) (fun c1 => ?_)
  · replace h := h.1 c1
    refine vm_gp [(.iconst (-2), 0, 0, [])] (pc1 := 42) (ls1 := [some (vm_r th), some (vm_i v1), some (vm_i v2)]) (st1 := [vm_i (-2)]) (m1 := m) (ob := true) (by decide +kernel) rfl rfl ?_
    exact vm_gr (r := some (vm_i (-2))) (i := (.ireturn, 1, 0, [])) (len := 1) (by decide +kernel) rfl rfl rfl ⟨_, rfl, h⟩
  · replace h := h.2 c1
    obtain ⟨o3_0, h⟩ := h
    refine vm_gp [(.iload 1, 0, 0, []), (.aload 0, 0, 0, []), (.getfield 2, 1, 2, [(3, 1)]), (.iload 2, 0, 0, []), (.iaload, 13, 0, [])] (pc1 := 17) (ls1 := [some (vm_r th), some (vm_i v1), some (vm_i v2)]) (st1 := [vm_i (m (th + 3) v2), vm_i v1]) (m1 := m) (ob := ((((true && vm_is th 1) && true) && vm_ar (th + 3) 100 13) && decide (0 ≤ v2 ∧ v2 < 13))) (by decide +kernel) rfl (vm_t (vm_u (vm_u (vm_u rfl h_th) rfl) (vm_is_ar 3 (by decide) h_th (by decide +kernel))) o3_0) ?_
    refine vm_gj (c := v1 < (m (th + 3) v2)) (t := 34) (e := 20) (i := (.if_icmp .lt 0, 34, 0, [])) (len := 3) (st1 := []) (by decide +kernel) rfl rfl (fun c2 => ?_) (fun c2 => ?_)
    · replace h := h.1 c2
      obtain ⟨o4_0, h⟩ := h
      refine vm_gp [(.iinc 2 1, 0, 0, []), (.goto 0, 2, 0, [])] (pc1 := 2) (ls1 := [some (vm_r th), some (vm_i v1), some (vm_i (v2 + 1))]) (st1 := []) (m1 := m) (ob := (true && decide (vm_32 (v2 + 1)))) (by decide +kernel) rfl (vm_t rfl o4_0) ?_
      exact h
    · replace h := h.2 c2
      obtain ⟨⟨o5_0, o5_1⟩, h⟩ := h
      refine vm_gp [(.iload 1, 0, 0, []), (.aload 0, 0, 0, []), (.getfield 2, 1, 2, [(3, 1)]), (.iload 2, 0, 0, []), (.iconst 1, 0, 0, []), (.iadd, 0, 0, []), (.iaload, 13, 0, [])] (pc1 := 29) (ls1 := [some (vm_r th), some (vm_i v1), some (vm_i v2)]) (st1 := [vm_i (m (th + 3) (v2 + 1)), vm_i v1]) (m1 := m) (ob := (((((true && vm_is th 1) && true) && decide (vm_32 (v2 + 1))) && vm_ar (th + 3) 100 13) && decide (0 ≤ (v2 + 1) ∧ (v2 + 1) < 13))) (by decide +kernel) rfl (vm_t (vm_u (vm_t (vm_u (vm_u rfl h_th) rfl) o5_0) (vm_is_ar 3 (by decide) h_th (by decide +kernel))) o5_1) ?_
      refine vm_gj (c := (m (th + 3) (v2 + 1)) ≤ v1) (t := 34) (e := 32) (i := (.if_icmp .ge 0, 34, 0, [])) (len := 3) (st1 := []) (by decide +kernel) rfl rfl (fun c3 => ?_) (fun c3 => ?_)
      · replace h := h.1 c3
        obtain ⟨o6_0, h⟩ := h
        refine vm_gp [(.iinc 2 1, 0, 0, []), (.goto 0, 2, 0, [])] (pc1 := 2) (ls1 := [some (vm_r th), some (vm_i v1), some (vm_i (v2 + 1))]) (st1 := []) (m1 := m) (ob := (true && decide (vm_32 (v2 + 1)))) (by decide +kernel) rfl (vm_t rfl o6_0) ?_
        exact h
      · replace h := h.2 c3
        refine vm_gp [(.iload 2, 0, 0, [])] (pc1 := 33) (ls1 := [some (vm_r th), some (vm_i v1), some (vm_i v2)]) (st1 := [vm_i v2]) (m1 := m) (ob := true) (by decide +kernel) rfl rfl ?_
        exact vm_gr (r := some (vm_i v2)) (i := (.ireturn, 1, 0, [])) (len := 1) (by decide +kernel) rfl rfl rfl ⟨_, rfl, h⟩
abbrev ku1_heightWith_0 (th : Nat) (v1 : Int) (m : vm_M) (Q : Int → vm_M → Prop) : Prop := vm_G 18 0 [some (vm_r th), some (vm_i v1)] [] m (vm_qi Q)
set_option maxRecDepth 20000 in
theorem ru1_heightWith_0 {th : Nat} {v1 : Int} {m : vm_M} {Q : Int → vm_M → Prop} (h_th : vm_is th 1 = true) (h :
    ((¬ (m th 8) = 0 →
      ((vm_32 ((m th 8) * 6)) ∧ (vm_32 (((m th 8) * 6) * (m th 7))) ∧ (vm_32 ((m th 8) - 1)) ∧ (vm_32 (((m th 8) - 1) * v1)) ∧ (vm_32 ((((m th 8) * 6) * (m th 7)) + (((m th 8) - 1) * v1)))) ∧
      Q ((((m th 8) * 6) * (m th 7)) + (((m th 8) - 1) * v1)) m) ∧ (¬ ¬ (m th 8) = 0 →
      Q 0 m))) : vm_C 18 [vm_r th, vm_i v1] m (vm_qi Q) := by
  show vm_G 18 0 [some (vm_r th), some (vm_i v1)] [] m (vm_qi Q)
  refine vm_gp [(.aload 0, 0, 0, []), (.getfield 0, 1, 8, [])] (pc1 := 4) (ls1 := [some (vm_r th), some (vm_i v1)]) (st1 := [vm_i (m th 8)]) (m1 := m) (ob := (true && vm_is th 1)) (by decide +kernel) rfl (vm_u rfl h_th) ?_
  refine vm_gj (c := ¬ (m th 8) = 0) (t := 11) (e := 7) (i := (.ifCond .ne 0, 11, 0, [])) (len := 3) (st1 := []) (by decide +kernel) rfl rfl (fun c1 => ?_) (fun c1 => ?_)
  · replace h := h.1 c1
    obtain ⟨⟨o2_0, o2_1, o2_2, o2_3, o2_4⟩, h⟩ := h
    refine vm_gp [(.aload 0, 0, 0, []), (.getfield 0, 1, 8, []), (.iconst 6, 0, 0, []), (.imul, 0, 0, []), (.aload 0, 0, 0, []), (.getfield 0, 1, 7, []), (.imul, 0, 0, []), (.aload 0, 0, 0, []), (.getfield 0, 1, 8, []), (.iconst 1, 0, 0, []), (.isub, 0, 0, []), (.iload 1, 0, 0, []), (.imul, 0, 0, []), (.iadd, 0, 0, [])] (pc1 := 32) (ls1 := [some (vm_r th), some (vm_i v1)]) (st1 := [vm_i ((((m th 8) * 6) * (m th 7)) + (((m th 8) - 1) * v1))]) (m1 := m) (ob := ((((((((true && vm_is th 1) && decide (vm_32 ((m th 8) * 6))) && vm_is th 1) && decide (vm_32 (((m th 8) * 6) * (m th 7)))) && vm_is th 1) && decide (vm_32 ((m th 8) - 1))) && decide (vm_32 (((m th 8) - 1) * v1))) && decide (vm_32 ((((m th 8) * 6) * (m th 7)) + (((m th 8) - 1) * v1))))) (by decide +kernel) rfl (vm_t (vm_t (vm_t (vm_u (vm_t (vm_u (vm_t (vm_u rfl h_th) o2_0) h_th) o2_1) h_th) o2_2) o2_3) o2_4) ?_
    exact vm_gr (r := some (vm_i ((((m th 8) * 6) * (m th 7)) + (((m th 8) - 1) * v1)))) (i := (.ireturn, 1, 0, [])) (len := 1) (by decide +kernel) rfl rfl rfl ⟨_, rfl, h⟩
  · replace h := h.2 c1
    refine vm_gp [(.iconst 0, 0, 0, []), (.goto 0, 32, 0, [])] (pc1 := 32) (ls1 := [some (vm_r th), some (vm_i v1)]) (st1 := [vm_i 0]) (m1 := m) (ob := true) (by decide +kernel) rfl rfl ?_
    exact vm_gr (r := some (vm_i 0)) (i := (.ireturn, 1, 0, [])) (len := 1) (by decide +kernel) rfl rfl rfl ⟨_, rfl, h⟩
abbrev ku1_isFitting_0 (th : Nat) (v1 : Int) (v2 : Int) (m : vm_M) (Q : Int → vm_M → Prop) : Prop := vm_G 19 0 [some (vm_r th), some (vm_i v1), some (vm_i v2)] [] m (vm_qi Q)
set_option maxRecDepth 20000 in
theorem ru1_isFitting_0 {th : Nat} {v1 : Int} {v2 : Int} {m : vm_M} {Q : Int → vm_M → Prop} (h_th : vm_is th 1 = true) (h :
    ((0 < (m th 8) →
      (vm_C 28 [vm_r th] m (vm_qi (fun z1 m1 =>
        ((¬ z1 = 0 →
          Q 0 m1) ∧ (¬ ¬ z1 = 0 →
          (vm_C 18 [vm_r th, vm_i v1] m1 (vm_qi (fun z2 m2 =>
            ((v2 < z2 →
              Q 0 m2) ∧ (¬ v2 < z2 →
              Q 1 m2))))))))))) ∧ (¬ 0 < (m th 8) →
      ((¬ (m th 4) = 0 →
        Q 0 m) ∧ (¬ ¬ (m th 4) = 0 →
        (vm_C 28 [vm_r th] m (vm_qi (fun z3 m3 =>
          ((¬ z3 = 0 →
            Q 0 m3) ∧ (¬ ¬ z3 = 0 →
            (vm_C 18 [vm_r th, vm_i v1] m3 (vm_qi (fun z4 m4 =>
              ((v2 < z4 →
                Q 0 m4) ∧ (¬ v2 < z4 →
                Q 1 m4))))))))))))))) : vm_C 19 [vm_r th, vm_i v1, vm_i v2] m (vm_qi Q) := by
  show vm_G 19 0 [some (vm_r th), some (vm_i v1), some (vm_i v2)] [] m (vm_qi Q)
  refine vm_gp [(.aload 0, 0, 0, []), (.getfield 0, 1, 8, [])] (pc1 := 4) (ls1 := [some (vm_r th), some (vm_i v1), some (vm_i v2)]) (st1 := [vm_i (m th 8)]) (m1 := m) (ob := (true && vm_is th 1)) (by decide +kernel) rfl (vm_u rfl h_th) ?_
  refine vm_gj (c := 0 < (m th 8)) (t := 14) (e := 7) (i := (.ifCond .gt 0, 14, 0, [])) (len := 3) (st1 := []) (by decide +kernel) rfl rfl (fun c1 => ?_) (fun c1 => ?_)
  · replace h := h.1 c1
    refine vm_gp [(.aload 0, 0, 0, [])] (pc1 := 15) (ls1 := [some (vm_r th), some (vm_i v1), some (vm_i v2)]) (st1 := [vm_r th]) (m1 := m) (ob := true) (by decide +kernel) rfl rfl ?_
    refine vm_gc (g := 28) (na := 1) (av := [vm_r th]) (rest := []) (i := (.invokevirtual 0, 28, 1, [])) (len := 3) (by decide +kernel) rfl rfl rfl (by decide +kernel) (by decide +kernel) rfl rfl (vm_u (vm_okh_v (c := 1) (by decide +kernel) h_th) (show vm_okn 28 1 0 0 0 1 = true by decide +kernel)) ?_
    refine vm_G.mono h ?_
    rintro _ m1 ⟨z1, rfl, h⟩
    show vm_G 19 18 [some (vm_r th), some (vm_i v1), some (vm_i v2)] [vm_i z1] m1 _
    refine vm_gj (c := ¬ z1 = 0) (t := 34) (e := 21) (i := (.ifCond .ne 0, 34, 0, [])) (len := 3) (st1 := []) (by decide +kernel) rfl rfl (fun c2 => ?_) (fun c2 => ?_)
    · replace h := h.1 c2
      refine vm_gp [(.iconst 0, 0, 0, [])] (pc1 := 35) (ls1 := [some (vm_r th), some (vm_i v1), some (vm_i v2)]) (st1 := [vm_i 0]) (m1 := m1) (ob := true) (by decide +kernel) rfl rfl ?_
      exact vm_gr (r := some (vm_i 0)) (i := (.ireturn, 2, 0, [])) (len := 1) (by decide +kernel) rfl rfl (by decide) ⟨_, rfl, h⟩
    · replace h := h.2 c2
      refine vm_gp [(.aload 0, 0, 0, []), (.iload 1, 0, 0, [])] (pc1 := 23) (ls1 := [some (vm_r th), some (vm_i v1), some (vm_i v2)]) (st1 := [vm_i v1, vm_r th]) (m1 := m1) (ob := true) (by decide +kernel) rfl rfl ?_
      refine vm_gc (g := 18) (na := 2) (av := [vm_r th, vm_i v1]) (rest := []) (i := (.invokevirtual 0, 18, 2, [])) (len := 3) (by decide +kernel) rfl rfl rfl (by decide +kernel) (by decide +kernel) rfl rfl (vm_u (vm_okh_v (c := 1) (by decide +kernel) h_th) (show vm_okn 18 2 0 0 0 2 = true by decide +kernel)) ?_
      refine vm_G.mono h ?_
      rintro _ m2 ⟨z2, rfl, h⟩
      show vm_G 19 26 [some (vm_r th), some (vm_i v1), some (vm_i v2)] [vm_i z2] m2 _
      refine vm_gp [(.iload 2, 0, 0, [])] (pc1 := 27) (ls1 := [some (vm_r th), some (vm_i v1), some (vm_i v2)]) (st1 := [vm_i v2, vm_i z2]) (m1 := m2) (ob := true) (by decide +kernel) rfl rfl ?_
      refine vm_gj (c := v2 < z2) (t := 34) (e := 30) (i := (.if_icmp .gt 0, 34, 0, [])) (len := 3) (st1 := []) (by decide +kernel) rfl rfl (fun c3 => ?_) (fun c3 => ?_)
      · replace h := h.1 c3
        refine vm_gp [(.iconst 0, 0, 0, [])] (pc1 := 35) (ls1 := [some (vm_r th), some (vm_i v1), some (vm_i v2)]) (st1 := [vm_i 0]) (m1 := m2) (ob := true) (by decide +kernel) rfl rfl ?_
        exact vm_gr (r := some (vm_i 0)) (i := (.ireturn, 2, 0, [])) (len := 1) (by decide +kernel) rfl rfl (by decide) ⟨_, rfl, h⟩
      · replace h := h.2 c3
        refine vm_gp [(.iconst 1, 0, 0, []), (.goto 0, 35, 0, [])] (pc1 := 35) (ls1 := [some (vm_r th), some (vm_i v1), some (vm_i v2)]) (st1 := [vm_i 1]) (m1 := m2) (ob := true) (by decide +kernel) rfl rfl ?_
        exact vm_gr (r := some (vm_i 1)) (i := (.ireturn, 2, 0, [])) (len := 1) (by decide +kernel) rfl rfl (by decide) ⟨_, rfl, h⟩
  · replace h := h.2 c1
    refine vm_gp [(.aload 0, 0, 0, []), (.getfield 0, 1, 4, [])] (pc1 := 11) (ls1 := [some (vm_r th), some (vm_i v1), some (vm_i v2)]) (st1 := [vm_i (m th 4)]) (m1 := m) (ob := (true && vm_is th 1)) (by decide +kernel) rfl (vm_u rfl h_th) ?_
    refine vm_gj (c := ¬ (m th 4) = 0) (t := 34) (e := 14) (i := (.ifCond .ne 0, 34, 0, [])) (len := 3) (st1 := []) (by decide +kernel) rfl rfl (fun c4 => ?_) (fun c4 => ?_)
    · replace h := h.1 c4
      refine vm_gp [(.iconst 0, 0, 0, [])] (pc1 := 35) (ls1 := [some (vm_r th), some (vm_i v1), some (vm_i v2)]) (st1 := [vm_i 0]) (m1 := m) (ob := true) (by decide +kernel) rfl rfl ?_
      exact vm_gr (r := some (vm_i 0)) (i := (.ireturn, 2, 0, [])) (len := 1) (by decide +kernel) rfl rfl (by decide) ⟨_, rfl, h⟩
    · replace h := h.2 c4
      refine vm_gp [(.aload 0, 0, 0, [])] (pc1 := 15) (ls1 := [some (vm_r th), some (vm_i v1), some (vm_i v2)]) (st1 := [vm_r th]) (m1 := m) (ob := true) (by decide +kernel) rfl rfl ?_
      refine vm_gc (g := 28) (na := 1) (av := [vm_r th]) (rest := []) (i := (.invokevirtual 0, 28, 1, [])) (len := 3) (by decide +kernel) rfl rfl rfl (by decide +kernel) (by decide +kernel) rfl rfl (vm_u (vm_okh_v (c := 1) (by decide +kernel) h_th) (show vm_okn 28 1 0 0 0 1 = true by decide +kernel)) ?_
      refine vm_G.mono h ?_
      rintro _ m3 ⟨z3, rfl, h⟩
      show vm_G 19 18 [some (vm_r th), some (vm_i v1), some (vm_i v2)] [vm_i z3] m3 _
      refine vm_gj (c := ¬ z3 = 0) (t := 34) (e := 21) (i := (.ifCond .ne 0, 34, 0, [])) (len := 3) (st1 := []) (by decide +kernel) rfl rfl (fun c5 => ?_) (fun c5 => ?_)
      · replace h := h.1 c5
        refine vm_gp [(.iconst 0, 0, 0, [])] (pc1 := 35) (ls1 := [some (vm_r th), some (vm_i v1), some (vm_i v2)]) (st1 := [vm_i 0]) (m1 := m3) (ob := true) (by decide +kernel) rfl rfl ?_
        exact vm_gr (r := some (vm_i 0)) (i := (.ireturn, 2, 0, [])) (len := 1) (by decide +kernel) rfl rfl (by decide) ⟨_, rfl, h⟩
      · replace h := h.2 c5
        refine vm_gp [(.aload 0, 0, 0, []), (.iload 1, 0, 0, [])] (pc1 := 23) (ls1 := [some (vm_r th), some (vm_i v1), some (vm_i v2)]) (st1 := [vm_i v1, vm_r th]) (m1 := m3) (ob := true) (by decide +kernel) rfl rfl ?_
        refine vm_gc (g := 18) (na := 2) (av := [vm_r th, vm_i v1]) (rest := []) (i := (.invokevirtual 0, 18, 2, [])) (len := 3) (by decide +kernel) rfl rfl rfl (by decide +kernel) (by decide +kernel) rfl rfl (vm_u (vm_okh_v (c := 1) (by decide +kernel) h_th) (show vm_okn 18 2 0 0 0 2 = true by decide +kernel)) ?_
        refine vm_G.mono h ?_
        rintro _ m4 ⟨z4, rfl, h⟩
        show vm_G 19 26 [some (vm_r th), some (vm_i v1), some (vm_i v2)] [vm_i z4] m4 _
        refine vm_gp [(.iload 2, 0, 0, [])] (pc1 := 27) (ls1 := [some (vm_r th), some (vm_i v1), some (vm_i v2)]) (st1 := [vm_i v2, vm_i z4]) (m1 := m4) (ob := true) (by decide +kernel) rfl rfl ?_
        refine vm_gj (c := v2 < z4) (t := 34) (e := 30) (i := (.if_icmp .gt 0, 34, 0, [])) (len := 3) (st1 := []) (by decide +kernel) rfl rfl (fun c6 => ?_) (fun c6 => ?_)
        · replace h := h.1 c6
          refine vm_gp [(.iconst 0, 0, 0, [])] (pc1 := 35) (ls1 := [some (vm_r th), some (vm_i v1), some (vm_i v2)]) (st1 := [vm_i 0]) (m1 := m4) (ob := true) (by decide +kernel) rfl rfl ?_
          exact vm_gr (r := some (vm_i 0)) (i := (.ireturn, 2, 0, [])) (len := 1) (by decide +kernel) rfl rfl (by decide) ⟨_, rfl, h⟩
        · replace h := h.2 c6
          refine vm_gp [(.iconst 1, 0, 0, []), (.goto 0, 35, 0, [])] (pc1 := 35) (ls1 := [some (vm_r th), some (vm_i v1), some (vm_i v2)]) (st1 := [vm_i 1]) (m1 := m4) (ob := true) (by decide +kernel) rfl rfl ?_
          exact vm_gr (r := some (vm_i 1)) (i := (.ireturn, 2, 0, [])) (len := 1) (by decide +kernel) rfl rfl (by decide) ⟨_, rfl, h⟩
abbrev ku1_costOfRows_0 (th : Nat) (m : vm_M) (Q : Int → vm_M → Prop) : Prop := vm_G 20 0 [some (vm_r th), none, none] [] m (vm_qi Q)
abbrev ku1_costOfRows_4 (th : Nat) (v1 : Int) (v2 : Int) (m : vm_M) (Q : Int → vm_M → Prop) : Prop := vm_G 20 4 [some (vm_r th), some (vm_i v1), some (vm_i v2)] [] m (vm_qi Q)
set_option maxRecDepth 20000 in
theorem ru1_costOfRows_0 {th : Nat} {m : vm_M} {Q : Int → vm_M → Prop} (h_th : vm_is th 1 = true) (h :
    ku1_costOfRows_4 th 0 0 m Q) : vm_C 20 [vm_r th] m (vm_qi Q) := by
  show vm_G 20 0 [some (vm_r th), none, none] [] m (vm_qi Q)
  refine vm_gp [(.iconst 0, 0, 0, []), (.istore 1, 0, 0, []), (.iconst 0, 0, 0, []), (.istore 2, 0, 0, [])] (pc1 := 4) (ls1 := [some (vm_r th), some (vm_i 0), some (vm_i 0)]) (st1 := []) (m1 := m) (ob := true) (by decide +kernel) rfl rfl ?_
  exact h
set_option maxRecDepth 20000 in
theorem ru1_costOfRows_4 {th : Nat} {v1 : Int} {v2 : Int} {m : vm_M} {Q : Int → vm_M → Prop} (h_th : vm_is th 1 = true) (h :
    ((vm_32 ((m th 8) - 1))) ∧
    ((((m th 8) - 1) ≤ v2 →
      Q v1 m) ∧ (¬ ((m th 8) - 1) ≤ v2 →
      ((0 ≤ v2 ∧ v2 < 13) ∧ (vm_32 (v2 + 1)) ∧ (0 ≤ (v2 + 1) ∧ (v2 + 1) < 13)) ∧
      (vm_C 26 [vm_r th, vm_i (m (th + 3) v2), vm_i (m (th + 3) (v2 + 1))] m (vm_qi (fun z1 m1 =>
        (vm_C 27 [vm_r th, vm_i z1] m1 (vm_qi (fun z2 m2 =>
          ((vm_32 (v1 + z2)) ∧ (vm_32 (v2 + 1))) ∧
          ku1_costOfRows_4 th (v1 + z2) (v2 + 1) m2 Q))))))))) : ku1_costOfRows_4 th v1 v2 m Q := by
  show vm_G 20 4 [some (vm_r th), some (vm_i v1), some (vm_i v2)] [] m (vm_qi Q)
  obtain ⟨o1_0, h⟩ := h
  refine vm_gp [(.iload 2, 0, 0, []), (.aload 0, 0, 0, []), (.getfield 0, 1, 8, []), (.iconst 1, 0, 0, []), (.isub, 0, 0, [])] (pc1 := 11) (ls1 := [some (vm_r th), some (vm_i v1), some (vm_i v2)]) (st1 := [vm_i ((m th 8) - 1), vm_i v2]) (m1 := m) (ob := ((true && vm_is th 1) && decide (vm_32 ((m th 8) - 1)))) (by decide +kernel) rfl (vm_t (vm_u rfl h_th) o1_0) ?_
  refine vm_gj (c := ((m th 8) - 1) ≤ v2) (t := 45) (e := 14) (i := (.if_icmp .ge 0, 45, 0, [])) (len := 3) (st1 := []) (by decide +kernel) rfl rfl (fun c1 => ?_) (fun c1 => ?_)
  · replace h := h.1 c1
    refine vm_gp [(.iload 1, 0, 0, [])] (pc1 := 46) (ls1 := [some (vm_r th), some (vm_i v1), some (vm_i v2)]) (st1 := [vm_i v1]) (m1 := m) (ob := true) (by decide +kernel) rfl rfl ?_
    exact vm_gr (r := some (vm_i v1)) (i := (.ireturn, 1, 0, [])) (len := 1) (by decide +kernel) rfl rfl rfl ⟨_, rfl, h⟩
  · replace h := h.2 c1
    obtain ⟨⟨o3_0, o3_1, o3_2⟩, h⟩ := h
    refine vm_gp [(.iload 1, 0, 0, []), (.aload 0, 0, 0, []), (.aload 0, 0, 0, []), (.aload 0, 0, 0, []), (.getfield 2, 1, 2, [(3, 1)]), (.iload 2, 0, 0, []), (.iaload, 13, 0, []), (.aload 0, 0, 0, []), (.getfield 2, 1, 2, [(3, 1)]), (.iload 2, 0, 0, []), (.iconst 1, 0, 0, []), (.iadd, 0, 0, []), (.iaload, 13, 0, [])] (pc1 := 31) (ls1 := [some (vm_r th), some (vm_i v1), some (vm_i v2)]) (st1 := [vm_i (m (th + 3) (v2 + 1)), vm_i (m (th + 3) v2), vm_r th, vm_r th, vm_i v1]) (m1 := m) (ob := (((((((((true && vm_is th 1) && true) && vm_ar (th + 3) 100 13) && decide (0 ≤ v2 ∧ v2 < 13)) && vm_is th 1) && true) && decide (vm_32 (v2 + 1))) && vm_ar (th + 3) 100 13) && decide (0 ≤ (v2 + 1) ∧ (v2 + 1) < 13))) (by decide +kernel) rfl (vm_t (vm_u (vm_t (vm_u (vm_u (vm_t (vm_u (vm_u (vm_u rfl h_th) rfl) (vm_is_ar 3 (by decide) h_th (by decide +kernel))) o3_0) h_th) rfl) o3_1) (vm_is_ar 3 (by decide) h_th (by decide +kernel))) o3_2) ?_
    refine vm_gc (g := 26) (na := 3) (av := [vm_r th, vm_i (m (th + 3) v2), vm_i (m (th + 3) (v2 + 1))]) (rest := [vm_r th, vm_i v1]) (i := (.invokevirtual 0, 26, 3, [])) (len := 3) (by decide +kernel) rfl rfl rfl (by decide +kernel) (by decide +kernel) rfl rfl (vm_u (vm_okh_v (c := 1) (by decide +kernel) h_th) (show vm_okn 26 3 2 0 0 3 = true by decide +kernel)) ?_
    refine vm_G.mono h ?_
    rintro _ m1 ⟨z1, rfl, h⟩
    show vm_G 20 34 [some (vm_r th), some (vm_i v1), some (vm_i v2)] [vm_i z1, vm_r th, vm_i v1] m1 _
    refine vm_gc (g := 27) (na := 2) (av := [vm_r th, vm_i z1]) (rest := [vm_i v1]) (i := (.invokevirtual 0, 27, 2, [])) (len := 3) (by decide +kernel) rfl rfl rfl (by decide +kernel) (by decide +kernel) rfl rfl (vm_u (vm_okh_v (c := 1) (by decide +kernel) h_th) (show vm_okn 27 2 1 0 0 2 = true by decide +kernel)) ?_
    refine vm_G.mono h ?_
    rintro _ m2 ⟨z2, rfl, h⟩
    show vm_G 20 37 [some (vm_r th), some (vm_i v1), some (vm_i v2)] [vm_i z2, vm_i v1] m2 _
    obtain ⟨⟨o5_0, o5_1⟩, h⟩ := h
    refine vm_gp [(.iadd, 0, 0, []), (.istore 1, 0, 0, []), (.iinc 2 1, 0, 0, []), (.goto 0, 4, 0, [])] (pc1 := 4) (ls1 := [some (vm_r th), some (vm_i (v1 + z2)), some (vm_i (v2 + 1))]) (st1 := []) (m1 := m2) (ob := ((true && decide (vm_32 (v1 + z2))) && decide (vm_32 (v2 + 1)))) (by decide +kernel) rfl (vm_t (vm_t rfl o5_0) o5_1) ?_
    exact h
abbrev ku1_isBrokenWithin_0 (th : Nat) (v1 : Int) (v2 : Int) (m : vm_M) (Q : Int → vm_M → Prop) : Prop := vm_G 21 0 [some (vm_r th), some (vm_i v1), some (vm_i v2)] [] m (vm_qi Q)
set_option maxRecDepth 20000 in
theorem ru1_isBrokenWithin_0 {th : Nat} {v1 : Int} {v2 : Int} {m : vm_M} {Q : Int → vm_M → Prop} (h_th : vm_is th 1 = true) (h :
    (vm_C 29 [vm_r th] (vm_st m th 5 v2) (vm_qv (fun m1 =>
      (((m1 th 8) ≤ 0 →
        Q 0 m1) ∧ (¬ (m1 th 8) ≤ 0 →
        ((v1 < (m1 th 8) →
          Q 0 m1) ∧ (¬ v1 < (m1 th 8) →
          (vm_C 28 [vm_r th] m1 (vm_qi (fun z2 m2 =>
            ((¬ z2 = 0 →
              Q 0 m2) ∧ (¬ ¬ z2 = 0 →
              Q 1 m2))))))))))))) : vm_C 21 [vm_r th, vm_i v1, vm_i v2] m (vm_qi Q) := by
  show vm_G 21 0 [some (vm_r th), some (vm_i v1), some (vm_i v2)] [] m (vm_qi Q)
  refine vm_gp [(.aload 0, 0, 0, []), (.iload 2, 0, 0, []), (.putfield 0, 1, 5, []), (.aload 0, 0, 0, [])] (pc1 := 6) (ls1 := [some (vm_r th), some (vm_i v1), some (vm_i v2)]) (st1 := [vm_r th]) (m1 := (vm_st m th 5 v2)) (ob := (true && vm_is th 1)) (by decide +kernel) rfl (vm_u rfl h_th) ?_
  refine vm_gc (g := 29) (na := 1) (av := [vm_r th]) (rest := []) (i := (.invokevirtual 0, 29, 1, [])) (len := 3) (by decide +kernel) rfl rfl rfl (by decide +kernel) (by decide +kernel) rfl rfl (vm_u (vm_okh_v (c := 1) (by decide +kernel) h_th) (show vm_okn 29 1 0 0 0 1 = true by decide +kernel)) ?_
  refine vm_G.mono h ?_
  rintro _ m1 ⟨rfl, h⟩
  show vm_G 21 9 [some (vm_r th), some (vm_i v1), some (vm_i v2)] [] m1 _
  refine vm_gp [(.aload 0, 0, 0, []), (.getfield 0, 1, 8, [])] (pc1 := 13) (ls1 := [some (vm_r th), some (vm_i v1), some (vm_i v2)]) (st1 := [vm_i (m1 th 8)]) (m1 := m1) (ob := (true && vm_is th 1)) (by decide +kernel) rfl (vm_u rfl h_th) ?_
  refine vm_gj (c := (m1 th 8) ≤ 0) (t := 35) (e := 16) (i := (.ifCond .le 0, 35, 0, [])) (len := 3) (st1 := []) (by decide +kernel) rfl rfl (fun c1 => ?_) (fun c1 => ?_)
  · replace h := h.1 c1
    refine vm_gp [(.iconst 0, 0, 0, [])] (pc1 := 36) (ls1 := [some (vm_r th), some (vm_i v1), some (vm_i v2)]) (st1 := [vm_i 0]) (m1 := m1) (ob := true) (by decide +kernel) rfl rfl ?_
    exact vm_gr (r := some (vm_i 0)) (i := (.ireturn, 2, 0, [])) (len := 1) (by decide +kernel) rfl rfl (by decide) ⟨_, rfl, h⟩
  · replace h := h.2 c1
    refine vm_gp [(.aload 0, 0, 0, []), (.getfield 0, 1, 8, []), (.iload 1, 0, 0, [])] (pc1 := 21) (ls1 := [some (vm_r th), some (vm_i v1), some (vm_i v2)]) (st1 := [vm_i v1, vm_i (m1 th 8)]) (m1 := m1) (ob := (true && vm_is th 1)) (by decide +kernel) rfl (vm_u rfl h_th) ?_
    refine vm_gj (c := v1 < (m1 th 8)) (t := 35) (e := 24) (i := (.if_icmp .gt 0, 35, 0, [])) (len := 3) (st1 := []) (by decide +kernel) rfl rfl (fun c2 => ?_) (fun c2 => ?_)
    · replace h := h.1 c2
      refine vm_gp [(.iconst 0, 0, 0, [])] (pc1 := 36) (ls1 := [some (vm_r th), some (vm_i v1), some (vm_i v2)]) (st1 := [vm_i 0]) (m1 := m1) (ob := true) (by decide +kernel) rfl rfl ?_
      exact vm_gr (r := some (vm_i 0)) (i := (.ireturn, 2, 0, [])) (len := 1) (by decide +kernel) rfl rfl (by decide) ⟨_, rfl, h⟩
    · replace h := h.2 c2
      refine vm_gp [(.aload 0, 0, 0, [])] (pc1 := 25) (ls1 := [some (vm_r th), some (vm_i v1), some (vm_i v2)]) (st1 := [vm_r th]) (m1 := m1) (ob := true) (by decide +kernel) rfl rfl ?_
      refine vm_gc (g := 28) (na := 1) (av := [vm_r th]) (rest := []) (i := (.invokevirtual 0, 28, 1, [])) (len := 3) (by decide +kernel) rfl rfl rfl (by decide +kernel) (by decide +kernel) rfl rfl (vm_u (vm_okh_v (c := 1) (by decide +kernel) h_th) (show vm_okn 28 1 0 0 0 1 = true by decide +kernel)) ?_
      refine vm_G.mono h ?_
      rintro _ m2 ⟨z2, rfl, h⟩
      show vm_G 21 28 [some (vm_r th), some (vm_i v1), some (vm_i v2)] [vm_i z2] m2 _
      refine vm_gj (c := ¬ z2 = 0) (t := 35) (e := 31) (i := (.ifCond .ne 0, 35, 0, [])) (len := 3) (st1 := []) (by decide +kernel) rfl rfl (fun c3 => ?_) (fun c3 => ?_)
      · replace h := h.1 c3
        refine vm_gp [(.iconst 0, 0, 0, [])] (pc1 := 36) (ls1 := [some (vm_r th), some (vm_i v1), some (vm_i v2)]) (st1 := [vm_i 0]) (m1 := m2) (ob := true) (by decide +kernel) rfl rfl ?_
        exact vm_gr (r := some (vm_i 0)) (i := (.ireturn, 2, 0, [])) (len := 1) (by decide +kernel) rfl rfl (by decide) ⟨_, rfl, h⟩
      · replace h := h.2 c3
        refine vm_gp [(.iconst 1, 0, 0, []), (.goto 0, 36, 0, [])] (pc1 := 36) (ls1 := [some (vm_r th), some (vm_i v1), some (vm_i v2)]) (st1 := [vm_i 1]) (m1 := m2) (ob := true) (by decide +kernel) rfl rfl ?_
        exact vm_gr (r := some (vm_i 1)) (i := (.ireturn, 2, 0, [])) (len := 1) (by decide +kernel) rfl rfl (by decide) ⟨_, rfl, h⟩
abbrev ku1_costExchanged_0 (th : Nat) (v1 : Int) (v2 : Int) (v3 : Int) (m : vm_M) (Q : Int → vm_M → Prop) : Prop := vm_G 22 0 [some (vm_r th), some (vm_i v1), some (vm_i v2), some (vm_i v3), none] [] m (vm_qi Q)
set_option maxRecDepth 20000 in
theorem ru1_costExchanged_0 {th : Nat} {v1 : Int} {v2 : Int} {v3 : Int} {m : vm_M} {Q : Int → vm_M → Prop} (h_th : vm_is th 1 = true) (h :
    (vm_C 25 [vm_r th, vm_i v1, vm_i v2] m (vm_qv (fun m1 =>
      (vm_C 14 [vm_r th, vm_i v3] m1 (vm_qv (fun m2 =>
        ((¬ (m2 th 8) = 0 →
          (vm_C 20 [vm_r th] m2 (vm_qi (fun z3 m3 =>
            (vm_C 25 [vm_r th, vm_i v1, vm_i v2] m3 (vm_qv (fun m4 =>
              Q z3 m4))))))) ∧ (¬ ¬ (m2 th 8) = 0 →
          (vm_C 25 [vm_r th, vm_i v1, vm_i v2] m2 (vm_qv (fun m5 =>
            Q (-1) m5)))))))))))) : vm_C 22 [vm_r th, vm_i v1, vm_i v2, vm_i v3] m (vm_qi Q) := by
  show vm_G 22 0 [some (vm_r th), some (vm_i v1), some (vm_i v2), some (vm_i v3), none] [] m (vm_qi Q)
  refine vm_gp [(.aload 0, 0, 0, []), (.iload 1, 0, 0, []), (.iload 2, 0, 0, [])] (pc1 := 3) (ls1 := [some (vm_r th), some (vm_i v1), some (vm_i v2), some (vm_i v3), none]) (st1 := [vm_i v2, vm_i v1, vm_r th]) (m1 := m) (ob := true) (by decide +kernel) rfl rfl ?_
  refine vm_gc (g := 25) (na := 3) (av := [vm_r th, vm_i v1, vm_i v2]) (rest := []) (i := (.invokevirtual 0, 25, 3, [])) (len := 3) (by decide +kernel) rfl rfl rfl (by decide +kernel) (by decide +kernel) rfl rfl (vm_u (vm_okh_v (c := 1) (by decide +kernel) h_th) (show vm_okn 25 3 0 0 0 3 = true by decide +kernel)) ?_
  refine vm_G.mono h ?_
  rintro _ m1 ⟨rfl, h⟩
  show vm_G 22 6 [some (vm_r th), some (vm_i v1), some (vm_i v2), some (vm_i v3), none] [] m1 _
  refine vm_gp [(.aload 0, 0, 0, []), (.iload 3, 0, 0, [])] (pc1 := 8) (ls1 := [some (vm_r th), some (vm_i v1), some (vm_i v2), some (vm_i v3), none]) (st1 := [vm_i v3, vm_r th]) (m1 := m1) (ob := true) (by decide +kernel) rfl rfl ?_
  refine vm_gc (g := 14) (na := 2) (av := [vm_r th, vm_i v3]) (rest := []) (i := (.invokevirtual 0, 14, 2, [])) (len := 3) (by decide +kernel) rfl rfl rfl (by decide +kernel) (by decide +kernel) rfl rfl (vm_u (vm_okh_v (c := 1) (by decide +kernel) h_th) (show vm_okn 14 2 0 0 0 2 = true by decide +kernel)) ?_
  refine vm_G.mono h ?_
  rintro _ m2 ⟨rfl, h⟩
  show vm_G 22 11 [some (vm_r th), some (vm_i v1), some (vm_i v2), some (vm_i v3), none] [] m2 _
  refine vm_gp [(.aload 0, 0, 0, []), (.getfield 0, 1, 8, [])] (pc1 := 15) (ls1 := [some (vm_r th), some (vm_i v1), some (vm_i v2), some (vm_i v3), none]) (st1 := [vm_i (m2 th 8)]) (m1 := m2) (ob := (true && vm_is th 1)) (by decide +kernel) rfl (vm_u rfl h_th) ?_
  refine vm_gj (c := ¬ (m2 th 8) = 0) (t := 22) (e := 18) (i := (.ifCond .ne 0, 22, 0, [])) (len := 3) (st1 := []) (by decide +kernel) rfl rfl (fun c1 => ?_) (fun c1 => ?_)
  · replace h := h.1 c1
    refine vm_gp [(.aload 0, 0, 0, [])] (pc1 := 23) (ls1 := [some (vm_r th), some (vm_i v1), some (vm_i v2), some (vm_i v3), none]) (st1 := [vm_r th]) (m1 := m2) (ob := true) (by decide +kernel) rfl rfl ?_
    refine vm_gc (g := 20) (na := 1) (av := [vm_r th]) (rest := []) (i := (.invokevirtual 0, 20, 1, [])) (len := 3) (by decide +kernel) rfl rfl rfl (by decide +kernel) (by decide +kernel) rfl rfl (vm_u (vm_okh_v (c := 1) (by decide +kernel) h_th) (show vm_okn 20 1 0 0 0 1 = true by decide +kernel)) ?_
    refine vm_G.mono h ?_
    rintro _ m3 ⟨z3, rfl, h⟩
    show vm_G 22 26 [some (vm_r th), some (vm_i v1), some (vm_i v2), some (vm_i v3), none] [vm_i z3] m3 _
    refine vm_gp [(.istore 4, 0, 0, []), (.aload 0, 0, 0, []), (.iload 1, 0, 0, []), (.iload 2, 0, 0, [])] (pc1 := 31) (ls1 := [some (vm_r th), some (vm_i v1), some (vm_i v2), some (vm_i v3), some (vm_i z3)]) (st1 := [vm_i v2, vm_i v1, vm_r th]) (m1 := m3) (ob := true) (by decide +kernel) rfl rfl ?_
    refine vm_gc (g := 25) (na := 3) (av := [vm_r th, vm_i v1, vm_i v2]) (rest := []) (i := (.invokevirtual 0, 25, 3, [])) (len := 3) (by decide +kernel) rfl rfl rfl (by decide +kernel) (by decide +kernel) rfl rfl (vm_u (vm_okh_v (c := 1) (by decide +kernel) h_th) (show vm_okn 25 3 0 0 0 3 = true by decide +kernel)) ?_
    refine vm_G.mono h ?_
    rintro _ m4 ⟨rfl, h⟩
    show vm_G 22 34 [some (vm_r th), some (vm_i v1), some (vm_i v2), some (vm_i v3), some (vm_i z3)] [] m4 _
    refine vm_gp [(.iload 4, 0, 0, [])] (pc1 := 36) (ls1 := [some (vm_r th), some (vm_i v1), some (vm_i v2), some (vm_i v3), some (vm_i z3)]) (st1 := [vm_i z3]) (m1 := m4) (ob := true) (by decide +kernel) rfl rfl ?_
    exact vm_gr (r := some (vm_i z3)) (i := (.ireturn, 1, 0, [])) (len := 1) (by decide +kernel) rfl rfl rfl ⟨_, rfl, h⟩
  · replace h := h.2 c1
    refine vm_gp [(.iconst (-1), 0, 0, []), (.goto 0, 26, 0, []), (.istore 4, 0, 0, []), (.aload 0, 0, 0, []), (.iload 1, 0, 0, []), (.iload 2, 0, 0, [])] (pc1 := 31) (ls1 := [some (vm_r th), some (vm_i v1), some (vm_i v2), some (vm_i v3), some (vm_i (-1))]) (st1 := [vm_i v2, vm_i v1, vm_r th]) (m1 := m2) (ob := true) (by decide +kernel) rfl rfl ?_
    refine vm_gc (g := 25) (na := 3) (av := [vm_r th, vm_i v1, vm_i v2]) (rest := []) (i := (.invokevirtual 0, 25, 3, [])) (len := 3) (by decide +kernel) rfl rfl rfl (by decide +kernel) (by decide +kernel) rfl rfl (vm_u (vm_okh_v (c := 1) (by decide +kernel) h_th) (show vm_okn 25 3 0 0 0 3 = true by decide +kernel)) ?_
    refine vm_G.mono h ?_
    rintro _ m5 ⟨rfl, h⟩
    show vm_G 22 34 [some (vm_r th), some (vm_i v1), some (vm_i v2), some (vm_i v3), some (vm_i (-1))] [] m5 _
    refine vm_gp [(.iload 4, 0, 0, [])] (pc1 := 36) (ls1 := [some (vm_r th), some (vm_i v1), some (vm_i v2), some (vm_i v3), some (vm_i (-1))]) (st1 := [vm_i (-1)]) (m1 := m5) (ob := true) (by decide +kernel) rfl rfl ?_
    exact vm_gr (r := some (vm_i (-1))) (i := (.ireturn, 1, 0, [])) (len := 1) (by decide +kernel) rfl rfl rfl ⟨_, rfl, h⟩
abbrev ku1_findLeastCost_0 (th : Nat) (m : vm_M) (Q : Int → vm_M → Prop) : Prop := vm_G 23 0 [some (vm_r th), none, none] [] m (vm_qi Q)
abbrev ku1_findLeastCost_2 (th : Nat) (v1 : Int) (w2 : Option vm_V) (m : vm_M) (Q : Int → vm_M → Prop) : Prop := vm_G 23 2 [some (vm_r th), some (vm_i v1), w2] [] m (vm_qi Q)
abbrev ku1_findLeastCost_25 (th : Nat) (v1 : Int) (w2 : Option vm_V) (m : vm_M) (Q : Int → vm_M → Prop) : Prop := vm_G 23 25 [some (vm_r th), some (vm_i v1), w2] [] m (vm_qi Q)
abbrev ku1_findLeastCost_54 (th : Nat) (v1 : Int) (w2 : Option vm_V) (m : vm_M) (Q : Int → vm_M → Prop) : Prop := vm_G 23 54 [some (vm_r th), some (vm_i v1), w2] [] m (vm_qi Q)
abbrev ku1_findLeastCost_67 (th : Nat) (v1 : Int) (v2 : Int) (m : vm_M) (Q : Int → vm_M → Prop) : Prop := vm_G 23 67 [some (vm_r th), some (vm_i v1), some (vm_i v2)] [] m (vm_qi Q)
set_option maxRecDepth 20000 in
theorem ru1_findLeastCost_0 {th : Nat} {m : vm_M} {Q : Int → vm_M → Prop} (h_th : vm_is th 1 = true) (h :
    ku1_findLeastCost_2 th 0 none m Q) : vm_C 23 [vm_r th] m (vm_qi Q) := by
  show vm_G 23 0 [some (vm_r th), none, none] [] m (vm_qi Q)
  refine vm_gp [(.iconst 0, 0, 0, []), (.istore 1, 0, 0, [])] (pc1 := 2) (ls1 := [some (vm_r th), some (vm_i 0), none]) (st1 := []) (m1 := m) (ob := true) (by decide +kernel) rfl rfl ?_
  exact h
set_option maxRecDepth 20000 in
theorem ru1_findLeastCost_2 {th : Nat} {v1 : Int} {w2 : Option vm_V} {m : vm_M} {Q : Int → vm_M → Prop} (h_th : vm_is th 1 = true) (h :
    (((m th 4) ≤ v1 →
      ku1_findLeastCost_25 th 0 w2 m Q) ∧ (¬ (m th 4) ≤ v1 →
      ((0 ≤ v1 ∧ v1 < 403) ∧ (vm_32 (v1 + 1))) ∧
      ku1_findLeastCost_2 th (v1 + 1) w2 (vm_st m (th + 4) v1 (-1)) Q))) : ku1_findLeastCost_2 th v1 w2 m Q := by
  show vm_G 23 2 [some (vm_r th), some (vm_i v1), w2] [] m (vm_qi Q)
  refine vm_gp [(.iload 1, 0, 0, []), (.aload 0, 0, 0, []), (.getfield 0, 1, 4, [])] (pc1 := 7) (ls1 := [some (vm_r th), some (vm_i v1), w2]) (st1 := [vm_i (m th 4), vm_i v1]) (m1 := m) (ob := (true && vm_is th 1)) (by decide +kernel) rfl (vm_u rfl h_th) ?_
  refine vm_gj (c := (m th 4) ≤ v1) (t := 23) (e := 10) (i := (.if_icmp .ge 0, 23, 0, [])) (len := 3) (st1 := []) (by decide +kernel) rfl rfl (fun c1 => ?_) (fun c1 => ?_)
  · replace h := h.1 c1
    refine vm_gp [(.iconst 0, 0, 0, []), (.istore 1, 0, 0, [])] (pc1 := 25) (ls1 := [some (vm_r th), some (vm_i 0), w2]) (st1 := []) (m1 := m) (ob := true) (by decide +kernel) rfl rfl ?_
    exact h
  · replace h := h.2 c1
    obtain ⟨⟨o3_0, o3_1⟩, h⟩ := h
    refine vm_gp [(.aload 0, 0, 0, []), (.getfield 2, 1, 3, [(4, 1)]), (.iload 1, 0, 0, []), (.iconst (-1), 0, 0, []), (.iastore, 403, 0, []), (.iinc 1 1, 0, 0, []), (.goto 0, 2, 0, [])] (pc1 := 2) (ls1 := [some (vm_r th), some (vm_i (v1 + 1)), w2]) (st1 := []) (m1 := (vm_st m (th + 4) v1 (-1))) (ob := (((((true && vm_is th 1) && true) && vm_ar (th + 4) 100 403) && decide (0 ≤ v1 ∧ v1 < 403)) && decide (vm_32 (v1 + 1)))) (by decide +kernel) rfl (vm_t (vm_t (vm_u (vm_u (vm_u rfl h_th) rfl) (vm_is_ar 4 (by decide) h_th (by decide +kernel))) o3_0) o3_1) ?_
    exact h
set_option maxRecDepth 20000 in
theorem ru1_findLeastCost_25 {th : Nat} {v1 : Int} {w2 : Option vm_V} {m : vm_M} {Q : Int → vm_M → Prop} (h_th : vm_is th 1 = true) (h :
    ((12 < v1 →
      ku1_findLeastCost_54 th 1 w2 m Q) ∧ (¬ 12 < v1 →
      ((vm_32 (v1 * 31)) ∧ (vm_32 ((v1 * 31) + (m th 4))) ∧ (0 ≤ ((v1 * 31) + (m th 4)) ∧ ((v1 * 31) + (m th 4)) < 403) ∧ (vm_32 (v1 + 1))) ∧
      ku1_findLeastCost_25 th (v1 + 1) w2 (vm_st m (th + 4) ((v1 * 31) + (m th 4)) 0) Q))) : ku1_findLeastCost_25 th v1 w2 m Q := by
  show vm_G 23 25 [some (vm_r th), some (vm_i v1), w2] [] m (vm_qi Q)
  refine vm_gp [(.iload 1, 0, 0, []), (.iconst 12, 0, 0, [])] (pc1 := 28) (ls1 := [some (vm_r th), some (vm_i v1), w2]) (st1 := [vm_i 12, vm_i v1]) (m1 := m) (ob := true) (by decide +kernel) rfl rfl ?_
  refine vm_gj (c := 12 < v1) (t := 52) (e := 31) (i := (.if_icmp .gt 0, 52, 0, [])) (len := 3) (st1 := []) (by decide +kernel) rfl rfl (fun c1 => ?_) (fun c1 => ?_)
  · replace h := h.1 c1
    refine vm_gp [(.iconst 1, 0, 0, []), (.istore 1, 0, 0, [])] (pc1 := 54) (ls1 := [some (vm_r th), some (vm_i 1), w2]) (st1 := []) (m1 := m) (ob := true) (by decide +kernel) rfl rfl ?_
    exact h
  · replace h := h.2 c1
    obtain ⟨⟨o3_0, o3_1, o3_2, o3_3⟩, h⟩ := h
    refine vm_gp [(.aload 0, 0, 0, []), (.getfield 2, 1, 3, [(4, 1)]), (.iload 1, 0, 0, []), (.iconst 31, 0, 0, []), (.imul, 0, 0, []), (.aload 0, 0, 0, []), (.getfield 0, 1, 4, []), (.iadd, 0, 0, []), (.iconst 0, 0, 0, []), (.iastore, 403, 0, []), (.iinc 1 1, 0, 0, []), (.goto 0, 25, 0, [])] (pc1 := 25) (ls1 := [some (vm_r th), some (vm_i (v1 + 1)), w2]) (st1 := []) (m1 := (vm_st m (th + 4) ((v1 * 31) + (m th 4)) 0)) (ob := ((((((((true && vm_is th 1) && true) && decide (vm_32 (v1 * 31))) && vm_is th 1) && decide (vm_32 ((v1 * 31) + (m th 4)))) && vm_ar (th + 4) 100 403) && decide (0 ≤ ((v1 * 31) + (m th 4)) ∧ ((v1 * 31) + (m th 4)) < 403)) && decide (vm_32 (v1 + 1)))) (by decide +kernel) rfl (vm_t (vm_t (vm_u (vm_t (vm_u (vm_t (vm_u (vm_u rfl h_th) rfl) o3_0) h_th) o3_1) (vm_is_ar 4 (by decide) h_th (by decide +kernel))) o3_2) o3_3) ?_
    exact h
set_option maxRecDepth 20000 in
theorem ru1_findLeastCost_54 {th : Nat} {v1 : Int} {w2 : Option vm_V} {m : vm_M} {Q : Int → vm_M → Prop} (h_th : vm_is th 1 = true) (h :
    ((12 < v1 →
      Q (m (th + 4) 372) m) ∧ (¬ 12 < v1 →
      ((vm_32 ((m th 4) - 1))) ∧
      ku1_findLeastCost_67 th v1 ((m th 4) - 1) m Q))) : ku1_findLeastCost_54 th v1 w2 m Q := by
  show vm_G 23 54 [some (vm_r th), some (vm_i v1), w2] [] m (vm_qi Q)
  refine vm_gp [(.iload 1, 0, 0, []), (.iconst 12, 0, 0, [])] (pc1 := 57) (ls1 := [some (vm_r th), some (vm_i v1), w2]) (st1 := [vm_i 12, vm_i v1]) (m1 := m) (ob := true) (by decide +kernel) rfl rfl ?_
  refine vm_gj (c := 12 < v1) (t := 100) (e := 60) (i := (.if_icmp .gt 0, 100, 0, [])) (len := 3) (st1 := []) (by decide +kernel) rfl rfl (fun c1 => ?_) (fun c1 => ?_)
  · replace h := h.1 c1
    refine vm_gp [(.aload 0, 0, 0, []), (.getfield 2, 1, 3, [(4, 1)]), (.iconst 372, 0, 0, []), (.iaload, 403, 0, [])] (pc1 := 108) (ls1 := [some (vm_r th), some (vm_i v1), w2]) (st1 := [vm_i (m (th + 4) 372)]) (m1 := m) (ob := ((((true && vm_is th 1) && true) && vm_ar (th + 4) 100 403) && decide ((0 : Int) ≤ 372 ∧ (372 : Int) < 403))) (by decide +kernel) rfl (vm_t (vm_u (vm_u (vm_u rfl h_th) rfl) (vm_is_ar 4 (by decide) h_th (by decide +kernel))) (by decide)) ?_
    exact vm_gr (r := some (vm_i (m (th + 4) 372))) (i := (.ireturn, 1, 0, [])) (len := 1) (by decide +kernel) rfl rfl rfl ⟨_, rfl, h⟩
  · replace h := h.2 c1
    obtain ⟨o3_0, h⟩ := h
    refine vm_gp [(.aload 0, 0, 0, []), (.getfield 0, 1, 4, []), (.iconst 1, 0, 0, []), (.isub, 0, 0, []), (.istore 2, 0, 0, [])] (pc1 := 67) (ls1 := [some (vm_r th), some (vm_i v1), some (vm_i ((m th 4) - 1))]) (st1 := []) (m1 := m) (ob := ((true && vm_is th 1) && decide (vm_32 ((m th 4) - 1)))) (by decide +kernel) rfl (vm_t (vm_u rfl h_th) o3_0) ?_
    exact h
set_option maxRecDepth 20000 in
theorem ru1_findLeastCost_67 {th : Nat} {v1 : Int} {v2 : Int} {m : vm_M} {Q : Int → vm_M → Prop} (h_th : vm_is th 1 = true) (h :
    ((v2 < 0 →
      ((vm_32 (v1 + 1))) ∧
      ku1_findLeastCost_54 th (v1 + 1) (some (vm_i v2)) m Q) ∧ (¬ v2 < 0 →
      ((vm_32 (v1 * 31)) ∧ (vm_32 ((v1 * 31) + v2))) ∧
      (vm_C 31 [vm_r th, vm_i v2, vm_i v1] m (vm_qi (fun z1 m1 =>
        ((0 ≤ ((v1 * 31) + v2) ∧ ((v1 * 31) + v2) < 403) ∧ (vm_32 (v2 + (-1)))) ∧
        ku1_findLeastCost_67 th v1 (v2 + (-1)) (vm_st m1 (th + 4) ((v1 * 31) + v2) z1) Q)))))) : ku1_findLeastCost_67 th v1 v2 m Q := by
  show vm_G 23 67 [some (vm_r th), some (vm_i v1), some (vm_i v2)] [] m (vm_qi Q)
  refine vm_gp [(.iload 2, 0, 0, [])] (pc1 := 68) (ls1 := [some (vm_r th), some (vm_i v1), some (vm_i v2)]) (st1 := [vm_i v2]) (m1 := m) (ob := true) (by decide +kernel) rfl rfl ?_
  refine vm_gj (c := v2 < 0) (t := 94) (e := 71) (i := (.ifCond .lt 0, 94, 0, [])) (len := 3) (st1 := []) (by decide +kernel) rfl rfl (fun c1 => ?_) (fun c1 => ?_)
  · replace h := h.1 c1
    obtain ⟨o2_0, h⟩ := h
    refine vm_gp [(.iinc 1 1, 0, 0, []), (.goto 0, 54, 0, [])] (pc1 := 54) (ls1 := [some (vm_r th), some (vm_i (v1 + 1)), some (vm_i v2)]) (st1 := []) (m1 := m) (ob := (true && decide (vm_32 (v1 + 1)))) (by decide +kernel) rfl (vm_t rfl o2_0) ?_
    exact h
  · replace h := h.2 c1
    obtain ⟨⟨o3_0, o3_1⟩, h⟩ := h
    refine vm_gp [(.aload 0, 0, 0, []), (.getfield 2, 1, 3, [(4, 1)]), (.iload 1, 0, 0, []), (.iconst 31, 0, 0, []), (.imul, 0, 0, []), (.iload 2, 0, 0, []), (.iadd, 0, 0, []), (.aload 0, 0, 0, []), (.iload 2, 0, 0, []), (.iload 1, 0, 0, [])] (pc1 := 84) (ls1 := [some (vm_r th), some (vm_i v1), some (vm_i v2)]) (st1 := [vm_i v1, vm_i v2, vm_r th, vm_i ((v1 * 31) + v2), vm_r (th + 4)]) (m1 := m) (ob := ((((true && vm_is th 1) && true) && decide (vm_32 (v1 * 31))) && decide (vm_32 ((v1 * 31) + v2)))) (by decide +kernel) rfl (vm_t (vm_t (vm_u (vm_u rfl h_th) rfl) o3_0) o3_1) ?_
    refine vm_gc (g := 31) (na := 3) (av := [vm_r th, vm_i v2, vm_i v1]) (rest := [vm_i ((v1 * 31) + v2), vm_r (th + 4)]) (i := (.invokevirtual 0, 31, 3, [])) (len := 3) (by decide +kernel) rfl rfl rfl (by decide +kernel) (by decide +kernel) rfl rfl (vm_u (vm_okh_v (c := 1) (by decide +kernel) h_th) (show vm_okn 31 3 2 0 0 3 = true by decide +kernel)) ?_
    refine vm_G.mono h ?_
    rintro _ m1 ⟨z1, rfl, h⟩
    show vm_G 23 87 [some (vm_r th), some (vm_i v1), some (vm_i v2)] [vm_i z1, vm_i ((v1 * 31) + v2), vm_r (th + 4)] m1 _
    obtain ⟨⟨o4_0, o4_1⟩, h⟩ := h
    refine vm_gp [(.iastore, 403, 0, []), (.iinc 2 (-1), 0, 0, []), (.goto 0, 67, 0, [])] (pc1 := 67) (ls1 := [some (vm_r th), some (vm_i v1), some (vm_i (v2 + (-1)))]) (st1 := []) (m1 := (vm_st m1 (th + 4) ((v1 * 31) + v2) z1)) (ob := (((true && vm_ar (th + 4) 100 403) && decide (0 ≤ ((v1 * 31) + v2) ∧ ((v1 * 31) + v2) < 403)) && decide (vm_32 (v2 + (-1))))) (by decide +kernel) rfl (vm_t (vm_t (vm_u rfl (vm_is_ar 4 (by decide) h_th (by decide +kernel))) o4_0) o4_1) ?_
    exact h
abbrev ku1_addUp_0 (th : Nat) (m : vm_M) (Q : vm_M → Prop) : Prop := vm_G 24 0 [some (vm_r th), none] [] m (vm_qv Q)
abbrev ku1_addUp_2 (th : Nat) (v1 : Int) (m : vm_M) (Q : vm_M → Prop) : Prop := vm_G 24 2 [some (vm_r th), some (vm_i v1)] [] m (vm_qv Q)
set_option maxRecDepth 20000 in
theorem ru1_addUp_0 {th : Nat} {m : vm_M} {Q : vm_M → Prop} (h_th : vm_is th 1 = true) (h :
    ku1_addUp_2 th 0 m Q) : vm_C 24 [vm_r th] m (vm_qv Q) := by
  show vm_G 24 0 [some (vm_r th), none] [] m (vm_qv Q)
  refine vm_gp [(.iconst 0, 0, 0, []), (.istore 1, 0, 0, [])] (pc1 := 2) (ls1 := [some (vm_r th), some (vm_i 0)]) (st1 := []) (m1 := m) (ob := true) (by decide +kernel) rfl rfl ?_
  exact h
set_option maxRecDepth 20000 in
theorem ru1_addUp_2 {th : Nat} {v1 : Int} {m : vm_M} {Q : vm_M → Prop} (h_th : vm_is th 1 = true) (h :
    (((m th 4) ≤ v1 →
      Q m) ∧ (¬ (m th 4) ≤ v1 →
      ((vm_32 (v1 + 1)) ∧ (0 ≤ v1 ∧ v1 < 31) ∧ (0 ≤ v1 ∧ v1 < 30) ∧ (vm_32 ((m (th + 2) v1) + (m (th + 1) v1))) ∧ (0 ≤ (v1 + 1) ∧ (v1 + 1) < 31) ∧ (vm_32 (v1 + 1))) ∧
      ku1_addUp_2 th (v1 + 1) (vm_st m (th + 2) (v1 + 1) ((m (th + 2) v1) + (m (th + 1) v1))) Q))) : ku1_addUp_2 th v1 m Q := by
  show vm_G 24 2 [some (vm_r th), some (vm_i v1)] [] m (vm_qv Q)
  refine vm_gp [(.iload 1, 0, 0, []), (.aload 0, 0, 0, []), (.getfield 0, 1, 4, [])] (pc1 := 7) (ls1 := [some (vm_r th), some (vm_i v1)]) (st1 := [vm_i (m th 4), vm_i v1]) (m1 := m) (ob := (true && vm_is th 1)) (by decide +kernel) rfl (vm_u rfl h_th) ?_
  refine vm_gj (c := (m th 4) ≤ v1) (t := 37) (e := 10) (i := (.if_icmp .ge 0, 37, 0, [])) (len := 3) (st1 := []) (by decide +kernel) rfl rfl (fun c1 => ?_) (fun c1 => ?_)
  · replace h := h.1 c1
    exact vm_gr (r := none) (i := (.return_, 0, 0, [])) (len := 1) (by decide +kernel) rfl rfl rfl ⟨rfl, h⟩
  · replace h := h.2 c1
    obtain ⟨⟨o3_0, o3_1, o3_2, o3_3, o3_4, o3_5⟩, h⟩ := h
    refine vm_gp [(.aload 0, 0, 0, []), (.getfield 2, 1, 1, [(2, 1)]), (.iload 1, 0, 0, []), (.iconst 1, 0, 0, []), (.iadd, 0, 0, []), (.aload 0, 0, 0, []), (.getfield 2, 1, 1, [(2, 1)]), (.iload 1, 0, 0, []), (.iaload, 31, 0, []), (.aload 0, 0, 0, []), (.getfield 2, 1, 0, [(1, 1)]), (.iload 1, 0, 0, []), (.iaload, 30, 0, []), (.iadd, 0, 0, []), (.iastore, 31, 0, []), (.iinc 1 1, 0, 0, []), (.goto 0, 2, 0, [])] (pc1 := 2) (ls1 := [some (vm_r th), some (vm_i (v1 + 1))]) (st1 := []) (m1 := (vm_st m (th + 2) (v1 + 1) ((m (th + 2) v1) + (m (th + 1) v1)))) (ob := (((((((((((((((true && vm_is th 1) && true) && decide (vm_32 (v1 + 1))) && vm_is th 1) && true) && vm_ar (th + 2) 100 31) && decide (0 ≤ v1 ∧ v1 < 31)) && vm_is th 1) && true) && vm_ar (th + 1) 100 30) && decide (0 ≤ v1 ∧ v1 < 30)) && decide (vm_32 ((m (th + 2) v1) + (m (th + 1) v1)))) && vm_ar (th + 2) 100 31) && decide (0 ≤ (v1 + 1) ∧ (v1 + 1) < 31)) && decide (vm_32 (v1 + 1)))) (by decide +kernel) rfl (vm_t (vm_t (vm_u (vm_t (vm_t (vm_u (vm_u (vm_u (vm_t (vm_u (vm_u (vm_u (vm_t (vm_u (vm_u rfl h_th) rfl) o3_0) h_th) rfl) (vm_is_ar 2 (by decide) h_th (by decide +kernel))) o3_1) h_th) rfl) (vm_is_ar 1 (by decide) h_th (by decide +kernel))) o3_2) o3_3) (vm_is_ar 2 (by decide) h_th (by decide +kernel))) o3_4) o3_5) ?_
    exact h
abbrev ku1_exchange_0 (th : Nat) (v1 : Int) (v2 : Int) (m : vm_M) (Q : vm_M → Prop) : Prop := vm_G 25 0 [some (vm_r th), some (vm_i v1), some (vm_i v2), none] [] m (vm_qv Q)
set_option maxRecDepth 20000 in
theorem ru1_exchange_0 {th : Nat} {v1 : Int} {v2 : Int} {m : vm_M} {Q : vm_M → Prop} (h_th : vm_is th 1 = true) (h :
    ((0 ≤ v1 ∧ v1 < 30) ∧ (0 ≤ v2 ∧ v2 < 30) ∧ (0 ≤ v1 ∧ v1 < 30) ∧ (0 ≤ v2 ∧ v2 < 30)) ∧
    (vm_C 24 [vm_r th] (vm_st (vm_st m (th + 1) v1 (m (th + 1) v2)) (th + 1) v2 (m (th + 1) v1)) (vm_qv (fun m1 =>
      Q m1)))) : vm_C 25 [vm_r th, vm_i v1, vm_i v2] m (vm_qv Q) := by
  show vm_G 25 0 [some (vm_r th), some (vm_i v1), some (vm_i v2), none] [] m (vm_qv Q)
  obtain ⟨⟨o1_0, o1_1, o1_2, o1_3⟩, h⟩ := h
  refine vm_gp [(.aload 0, 0, 0, []), (.getfield 2, 1, 0, [(1, 1)]), (.iload 1, 0, 0, []), (.iaload, 30, 0, []), (.istore 3, 0, 0, []), (.aload 0, 0, 0, []), (.getfield 2, 1, 0, [(1, 1)]), (.iload 1, 0, 0, []), (.aload 0, 0, 0, []), (.getfield 2, 1, 0, [(1, 1)]), (.iload 2, 0, 0, []), (.iaload, 30, 0, []), (.iastore, 30, 0, []), (.aload 0, 0, 0, []), (.getfield 2, 1, 0, [(1, 1)]), (.iload 2, 0, 0, []), (.iload 3, 0, 0, []), (.iastore, 30, 0, []), (.aload 0, 0, 0, [])] (pc1 := 27) (ls1 := [some (vm_r th), some (vm_i v1), some (vm_i v2), some (vm_i (m (th + 1) v1))]) (st1 := [vm_r th]) (m1 := (vm_st (vm_st m (th + 1) v1 (m (th + 1) v2)) (th + 1) v2 (m (th + 1) v1))) (ob := ((((((((((((((((true && vm_is th 1) && true) && vm_ar (th + 1) 100 30) && decide (0 ≤ v1 ∧ v1 < 30)) && vm_is th 1) && true) && vm_is th 1) && true) && vm_ar (th + 1) 100 30) && decide (0 ≤ v2 ∧ v2 < 30)) && vm_ar (th + 1) 100 30) && decide (0 ≤ v1 ∧ v1 < 30)) && vm_is th 1) && true) && vm_ar (th + 1) 100 30) && decide (0 ≤ v2 ∧ v2 < 30))) (by decide +kernel) rfl (vm_t (vm_u (vm_u (vm_u (vm_t (vm_u (vm_t (vm_u (vm_u (vm_u (vm_u (vm_u (vm_t (vm_u (vm_u (vm_u rfl h_th) rfl) (vm_is_ar 1 (by decide) h_th (by decide +kernel))) o1_0) h_th) rfl) h_th) rfl) (vm_is_ar 1 (by decide) h_th (by decide +kernel))) o1_1) (vm_is_ar 1 (by decide) h_th (by decide +kernel))) o1_2) h_th) rfl) (vm_is_ar 1 (by decide) h_th (by decide +kernel))) o1_3) ?_
  refine vm_gc (g := 24) (na := 1) (av := [vm_r th]) (rest := []) (i := (.invokevirtual 0, 24, 1, [])) (len := 3) (by decide +kernel) rfl rfl rfl (by decide +kernel) (by decide +kernel) rfl rfl (vm_u (vm_okh_v (c := 1) (by decide +kernel) h_th) (show vm_okn 24 1 0 0 0 1 = true by decide +kernel)) ?_
  refine vm_G.mono h ?_
  rintro _ m1 ⟨rfl, h⟩
  show vm_G 25 30 [some (vm_r th), some (vm_i v1), some (vm_i v2), some (vm_i (m (th + 1) v1))] [] m1 _
  exact vm_gr (r := none) (i := (.return_, 0, 0, [])) (len := 1) (by decide +kernel) rfl rfl rfl ⟨rfl, h⟩
abbrev ku1_rowWidth_0 (th : Nat) (v1 : Int) (v2 : Int) (m : vm_M) (Q : Int → vm_M → Prop) : Prop := vm_G 26 0 [some (vm_r th), some (vm_i v1), some (vm_i v2)] [] m (vm_qi Q)
set_option maxRecDepth 20000 in
theorem ru1_rowWidth_0 {th : Nat} {v1 : Int} {v2 : Int} {m : vm_M} {Q : Int → vm_M → Prop} (h_th : vm_is th 1 = true) (h :
    ((0 ≤ v2 ∧ v2 < 31) ∧ (0 ≤ v1 ∧ v1 < 31) ∧ (vm_32 ((m (th + 2) v2) - (m (th + 2) v1))) ∧ (vm_32 (v2 - v1)) ∧ (vm_32 ((v2 - v1) - 1)) ∧ (vm_32 (((v2 - v1) - 1) * (m th 6))) ∧ (vm_32 (((m (th + 2) v2) - (m (th + 2) v1)) + (((v2 - v1) - 1) * (m th 6)))) ∧ (vm_32 ((((m (th + 2) v2) - (m (th + 2) v1)) + (((v2 - v1) - 1) * (m th 6))) * (m th 7)))) ∧
    Q ((((m (th + 2) v2) - (m (th + 2) v1)) + (((v2 - v1) - 1) * (m th 6))) * (m th 7)) m) : vm_C 26 [vm_r th, vm_i v1, vm_i v2] m (vm_qi Q) := by
  show vm_G 26 0 [some (vm_r th), some (vm_i v1), some (vm_i v2)] [] m (vm_qi Q)
  obtain ⟨⟨o1_0, o1_1, o1_2, o1_3, o1_4, o1_5, o1_6, o1_7⟩, h⟩ := h
  refine vm_gp [(.aload 0, 0, 0, []), (.getfield 2, 1, 1, [(2, 1)]), (.iload 2, 0, 0, []), (.iaload, 31, 0, []), (.aload 0, 0, 0, []), (.getfield 2, 1, 1, [(2, 1)]), (.iload 1, 0, 0, []), (.iaload, 31, 0, []), (.isub, 0, 0, []), (.iload 2, 0, 0, []), (.iload 1, 0, 0, []), (.isub, 0, 0, []), (.iconst 1, 0, 0, []), (.isub, 0, 0, []), (.aload 0, 0, 0, []), (.getfield 0, 1, 6, []), (.imul, 0, 0, []), (.iadd, 0, 0, []), (.aload 0, 0, 0, []), (.getfield 0, 1, 7, []), (.imul, 0, 0, [])] (pc1 := 29) (ls1 := [some (vm_r th), some (vm_i v1), some (vm_i v2)]) (st1 := [vm_i ((((m (th + 2) v2) - (m (th + 2) v1)) + (((v2 - v1) - 1) * (m th 6))) * (m th 7))]) (m1 := m) (ob := ((((((((((((((((true && vm_is th 1) && true) && vm_ar (th + 2) 100 31) && decide (0 ≤ v2 ∧ v2 < 31)) && vm_is th 1) && true) && vm_ar (th + 2) 100 31) && decide (0 ≤ v1 ∧ v1 < 31)) && decide (vm_32 ((m (th + 2) v2) - (m (th + 2) v1)))) && decide (vm_32 (v2 - v1))) && decide (vm_32 ((v2 - v1) - 1))) && vm_is th 1) && decide (vm_32 (((v2 - v1) - 1) * (m th 6)))) && decide (vm_32 (((m (th + 2) v2) - (m (th + 2) v1)) + (((v2 - v1) - 1) * (m th 6))))) && vm_is th 1) && decide (vm_32 ((((m (th + 2) v2) - (m (th + 2) v1)) + (((v2 - v1) - 1) * (m th 6))) * (m th 7))))) (by decide +kernel) rfl (vm_t (vm_u (vm_t (vm_t (vm_u (vm_t (vm_t (vm_t (vm_t (vm_u (vm_u (vm_u (vm_t (vm_u (vm_u (vm_u rfl h_th) rfl) (vm_is_ar 2 (by decide) h_th (by decide +kernel))) o1_0) h_th) rfl) (vm_is_ar 2 (by decide) h_th (by decide +kernel))) o1_1) o1_2) o1_3) o1_4) h_th) o1_5) o1_6) h_th) o1_7) ?_
  exact vm_gr (r := some (vm_i ((((m (th + 2) v2) - (m (th + 2) v1)) + (((v2 - v1) - 1) * (m th 6))) * (m th 7)))) (i := (.ireturn, 1, 0, [])) (len := 1) (by decide +kernel) rfl rfl rfl ⟨_, rfl, h⟩
abbrev ku1_squareOfLack_0 (th : Nat) (v1 : Int) (m : vm_M) (Q : Int → vm_M → Prop) : Prop := vm_G 27 0 [some (vm_r th), some (vm_i v1)] [] m (vm_qi Q)
set_option maxRecDepth 20000 in
theorem ru1_squareOfLack_0 {th : Nat} {v1 : Int} {m : vm_M} {Q : Int → vm_M → Prop} (h_th : vm_is th 1 = true) (h :
    (((m th 5) ≤ v1 →
      Q 0 m) ∧ (¬ (m th 5) ≤ v1 →
      ((vm_32 ((m th 5) - v1)) ∧ (vm_32 ((m th 5) - v1)) ∧ (vm_32 (((m th 5) - v1) * ((m th 5) - v1)))) ∧
      Q (((m th 5) - v1) * ((m th 5) - v1)) m))) : vm_C 27 [vm_r th, vm_i v1] m (vm_qi Q) := by
  show vm_G 27 0 [some (vm_r th), some (vm_i v1)] [] m (vm_qi Q)
  refine vm_gp [(.iload 1, 0, 0, []), (.aload 0, 0, 0, []), (.getfield 0, 1, 5, [])] (pc1 := 5) (ls1 := [some (vm_r th), some (vm_i v1)]) (st1 := [vm_i (m th 5), vm_i v1]) (m1 := m) (ob := (true && vm_is th 1)) (by decide +kernel) rfl (vm_u rfl h_th) ?_
  refine vm_gj (c := (m th 5) ≤ v1) (t := 24) (e := 8) (i := (.if_icmp .ge 0, 24, 0, [])) (len := 3) (st1 := []) (by decide +kernel) rfl rfl (fun c1 => ?_) (fun c1 => ?_)
  · replace h := h.1 c1
    refine vm_gp [(.iconst 0, 0, 0, [])] (pc1 := 25) (ls1 := [some (vm_r th), some (vm_i v1)]) (st1 := [vm_i 0]) (m1 := m) (ob := true) (by decide +kernel) rfl rfl ?_
    exact vm_gr (r := some (vm_i 0)) (i := (.ireturn, 1, 0, [])) (len := 1) (by decide +kernel) rfl rfl rfl ⟨_, rfl, h⟩
  · replace h := h.2 c1
    obtain ⟨⟨o3_0, o3_1, o3_2⟩, h⟩ := h
    refine vm_gp [(.aload 0, 0, 0, []), (.getfield 0, 1, 5, []), (.iload 1, 0, 0, []), (.isub, 0, 0, []), (.aload 0, 0, 0, []), (.getfield 0, 1, 5, []), (.iload 1, 0, 0, []), (.isub, 0, 0, []), (.imul, 0, 0, []), (.goto 0, 25, 0, [])] (pc1 := 25) (ls1 := [some (vm_r th), some (vm_i v1)]) (st1 := [vm_i (((m th 5) - v1) * ((m th 5) - v1))]) (m1 := m) (ob := (((((true && vm_is th 1) && decide (vm_32 ((m th 5) - v1))) && vm_is th 1) && decide (vm_32 ((m th 5) - v1))) && decide (vm_32 (((m th 5) - v1) * ((m th 5) - v1))))) (by decide +kernel) rfl (vm_t (vm_t (vm_u (vm_t (vm_u rfl h_th) o3_0) h_th) o3_1) o3_2) ?_
    exact vm_gr (r := some (vm_i (((m th 5) - v1) * ((m th 5) - v1)))) (i := (.ireturn, 1, 0, [])) (len := 1) (by decide +kernel) rfl rfl rfl ⟨_, rfl, h⟩
abbrev ku1_hasWiderRow_0 (th : Nat) (m : vm_M) (Q : Int → vm_M → Prop) : Prop := vm_G 28 0 [some (vm_r th), none] [] m (vm_qi Q)
abbrev ku1_hasWiderRow_2 (th : Nat) (v1 : Int) (m : vm_M) (Q : Int → vm_M → Prop) : Prop := vm_G 28 2 [some (vm_r th), some (vm_i v1)] [] m (vm_qi Q)
set_option maxRecDepth 20000 in
theorem ru1_hasWiderRow_0 {th : Nat} {m : vm_M} {Q : Int → vm_M → Prop} (h_th : vm_is th 1 = true) (h :
    ku1_hasWiderRow_2 th 0 m Q) : vm_C 28 [vm_r th] m (vm_qi Q) := by
  show vm_G 28 0 [some (vm_r th), none] [] m (vm_qi Q)
  refine vm_gp [(.iconst 0, 0, 0, []), (.istore 1, 0, 0, [])] (pc1 := 2) (ls1 := [some (vm_r th), some (vm_i 0)]) (st1 := []) (m1 := m) (ob := true) (by decide +kernel) rfl rfl ?_
  exact h
set_option maxRecDepth 20000 in
theorem ru1_hasWiderRow_2 {th : Nat} {v1 : Int} {m : vm_M} {Q : Int → vm_M → Prop} (h_th : vm_is th 1 = true) (h :
    (((m th 8) ≤ v1 →
      Q 0 m) ∧ (¬ (m th 8) ≤ v1 →
      ((0 ≤ v1 ∧ v1 < 13) ∧ (vm_32 (v1 + 1)) ∧ (0 ≤ (v1 + 1) ∧ (v1 + 1) < 13)) ∧
      (vm_C 26 [vm_r th, vm_i (m (th + 3) v1), vm_i (m (th + 3) (v1 + 1))] m (vm_qi (fun z1 m1 =>
        ((z1 ≤ (m1 th 5) →
          ((vm_32 (v1 + 1))) ∧
          ku1_hasWiderRow_2 th (v1 + 1) m1 Q) ∧ (¬ z1 ≤ (m1 th 5) →
          Q 1 m1)))))))) : ku1_hasWiderRow_2 th v1 m Q := by
  show vm_G 28 2 [some (vm_r th), some (vm_i v1)] [] m (vm_qi Q)
  refine vm_gp [(.iload 1, 0, 0, []), (.aload 0, 0, 0, []), (.getfield 0, 1, 8, [])] (pc1 := 7) (ls1 := [some (vm_r th), some (vm_i v1)]) (st1 := [vm_i (m th 8), vm_i v1]) (m1 := m) (ob := (true && vm_is th 1)) (by decide +kernel) rfl (vm_u rfl h_th) ?_
  refine vm_gj (c := (m th 8) ≤ v1) (t := 43) (e := 10) (i := (.if_icmp .ge 0, 43, 0, [])) (len := 3) (st1 := []) (by decide +kernel) rfl rfl (fun c1 => ?_) (fun c1 => ?_)
  · replace h := h.1 c1
    refine vm_gp [(.iconst 0, 0, 0, [])] (pc1 := 44) (ls1 := [some (vm_r th), some (vm_i v1)]) (st1 := [vm_i 0]) (m1 := m) (ob := true) (by decide +kernel) rfl rfl ?_
    exact vm_gr (r := some (vm_i 0)) (i := (.ireturn, 2, 0, [])) (len := 1) (by decide +kernel) rfl rfl (by decide) ⟨_, rfl, h⟩
  · replace h := h.2 c1
    obtain ⟨⟨o3_0, o3_1, o3_2⟩, h⟩ := h
    refine vm_gp [(.aload 0, 0, 0, []), (.aload 0, 0, 0, []), (.getfield 2, 1, 2, [(3, 1)]), (.iload 1, 0, 0, []), (.iaload, 13, 0, []), (.aload 0, 0, 0, []), (.getfield 2, 1, 2, [(3, 1)]), (.iload 1, 0, 0, []), (.iconst 1, 0, 0, []), (.iadd, 0, 0, []), (.iaload, 13, 0, [])] (pc1 := 25) (ls1 := [some (vm_r th), some (vm_i v1)]) (st1 := [vm_i (m (th + 3) (v1 + 1)), vm_i (m (th + 3) v1), vm_r th]) (m1 := m) (ob := (((((((((true && vm_is th 1) && true) && vm_ar (th + 3) 100 13) && decide (0 ≤ v1 ∧ v1 < 13)) && vm_is th 1) && true) && decide (vm_32 (v1 + 1))) && vm_ar (th + 3) 100 13) && decide (0 ≤ (v1 + 1) ∧ (v1 + 1) < 13))) (by decide +kernel) rfl (vm_t (vm_u (vm_t (vm_u (vm_u (vm_t (vm_u (vm_u (vm_u rfl h_th) rfl) (vm_is_ar 3 (by decide) h_th (by decide +kernel))) o3_0) h_th) rfl) o3_1) (vm_is_ar 3 (by decide) h_th (by decide +kernel))) o3_2) ?_
    refine vm_gc (g := 26) (na := 3) (av := [vm_r th, vm_i (m (th + 3) v1), vm_i (m (th + 3) (v1 + 1))]) (rest := []) (i := (.invokevirtual 0, 26, 3, [])) (len := 3) (by decide +kernel) rfl rfl rfl (by decide +kernel) (by decide +kernel) rfl rfl (vm_u (vm_okh_v (c := 1) (by decide +kernel) h_th) (show vm_okn 26 3 0 0 0 3 = true by decide +kernel)) ?_
    refine vm_G.mono h ?_
    rintro _ m1 ⟨z1, rfl, h⟩
    show vm_G 28 28 [some (vm_r th), some (vm_i v1)] [vm_i z1] m1 _
    refine vm_gp [(.aload 0, 0, 0, []), (.getfield 0, 1, 5, [])] (pc1 := 32) (ls1 := [some (vm_r th), some (vm_i v1)]) (st1 := [vm_i (m1 th 5), vm_i z1]) (m1 := m1) (ob := (true && vm_is th 1)) (by decide +kernel) rfl (vm_u rfl h_th) ?_
    refine vm_gj (c := z1 ≤ (m1 th 5)) (t := 37) (e := 35) (i := (.if_icmp .le 0, 37, 0, [])) (len := 3) (st1 := []) (by decide +kernel) rfl rfl (fun c2 => ?_) (fun c2 => ?_)
    · replace h := h.1 c2
      obtain ⟨o5_0, h⟩ := h
      refine vm_gp [(.iinc 1 1, 0, 0, []), (.goto 0, 2, 0, [])] (pc1 := 2) (ls1 := [some (vm_r th), some (vm_i (v1 + 1))]) (st1 := []) (m1 := m1) (ob := (true && decide (vm_32 (v1 + 1)))) (by decide +kernel) rfl (vm_t rfl o5_0) ?_
      exact h
    · replace h := h.2 c2
      refine vm_gp [(.iconst 1, 0, 0, [])] (pc1 := 36) (ls1 := [some (vm_r th), some (vm_i v1)]) (st1 := [vm_i 1]) (m1 := m1) (ob := true) (by decide +kernel) rfl rfl ?_
      exact vm_gr (r := some (vm_i 1)) (i := (.ireturn, 2, 0, [])) (len := 1) (by decide +kernel) rfl rfl (by decide) ⟨_, rfl, h⟩
abbrev ku1_breakEarly_0 (th : Nat) (m : vm_M) (Q : vm_M → Prop) : Prop := vm_G 29 0 [some (vm_r th), none] [] m (vm_qv Q)
abbrev ku1_breakEarly_7 (th : Nat) (v1 : Int) (m : vm_M) (Q : vm_M → Prop) : Prop := vm_G 29 7 [some (vm_r th), some (vm_i v1)] [] m (vm_qv Q)
abbrev ku1_breakEarly_47 (th : Nat) (v1 : Int) (m : vm_M) (Q : vm_M → Prop) : Prop := vm_G 29 47 [some (vm_r th), some (vm_i v1)] [] m (vm_qv Q)
set_option maxRecDepth 20000 in
theorem ru1_breakEarly_0 {th : Nat} {m : vm_M} {Q : vm_M → Prop} (h_th : vm_is th 1 = true) (h :
    ku1_breakEarly_7 th 0 (vm_st m th 8 0) Q) : vm_C 29 [vm_r th] m (vm_qv Q) := by
  show vm_G 29 0 [some (vm_r th), none] [] m (vm_qv Q)
  refine vm_gp [(.iconst 0, 0, 0, []), (.istore 1, 0, 0, []), (.aload 0, 0, 0, []), (.iconst 0, 0, 0, []), (.putfield 0, 1, 8, [])] (pc1 := 7) (ls1 := [some (vm_r th), some (vm_i 0)]) (st1 := []) (m1 := (vm_st m th 8 0)) (ob := (true && vm_is th 1)) (by decide +kernel) rfl (vm_u rfl h_th) ?_
  exact h
set_option maxRecDepth 20000 in
theorem ru1_breakEarly_7 {th : Nat} {v1 : Int} {m : vm_M} {Q : vm_M → Prop} (h_th : vm_is th 1 = true) (h :
    ((12 ≤ (m th 8) →
      ((0 ≤ (m th 8) ∧ (m th 8) < 13)) ∧
      ((((vm_st m (th + 3) (m th 8) v1) th 4) ≤ v1 →
        Q (vm_st m (th + 3) (m th 8) v1)) ∧ (¬ ((vm_st m (th + 3) (m th 8) v1) th 4) ≤ v1 →
        Q (vm_st (vm_st m (th + 3) (m th 8) v1) th 8 0)))) ∧ (¬ 12 ≤ (m th 8) →
      (((m th 4) ≤ v1 →
        ((0 ≤ (m th 8) ∧ (m th 8) < 13)) ∧
        ((((vm_st m (th + 3) (m th 8) v1) th 4) ≤ v1 →
          Q (vm_st m (th + 3) (m th 8) v1)) ∧ (¬ ((vm_st m (th + 3) (m th 8) v1) th 4) ≤ v1 →
          Q (vm_st (vm_st m (th + 3) (m th 8) v1) th 8 0)))) ∧ (¬ (m th 4) ≤ v1 →
        ((0 ≤ (m th 8) ∧ (m th 8) < 13) ∧ (vm_32 (((vm_st m (th + 3) (m th 8) v1) th 8) + 1)) ∧ (vm_32 (v1 + 1))) ∧
        ku1_breakEarly_47 th (v1 + 1) (vm_st (vm_st m (th + 3) (m th 8) v1) th 8 (((vm_st m (th + 3) (m th 8) v1) th 8) + 1)) Q))))) : ku1_breakEarly_7 th v1 m Q := by
  show vm_G 29 7 [some (vm_r th), some (vm_i v1)] [] m (vm_qv Q)
  refine vm_gp [(.aload 0, 0, 0, []), (.getfield 0, 1, 8, []), (.iconst 12, 0, 0, [])] (pc1 := 13) (ls1 := [some (vm_r th), some (vm_i v1)]) (st1 := [vm_i 12, vm_i (m th 8)]) (m1 := m) (ob := (true && vm_is th 1)) (by decide +kernel) rfl (vm_u rfl h_th) ?_
  refine vm_gj (c := 12 ≤ (m th 8)) (t := 86) (e := 16) (i := (.if_icmp .ge 0, 86, 0, [])) (len := 3) (st1 := []) (by decide +kernel) rfl rfl (fun c1 => ?_) (fun c1 => ?_)
  · replace h := h.1 c1
    obtain ⟨o2_0, h⟩ := h
    refine vm_gp [(.aload 0, 0, 0, []), (.getfield 2, 1, 2, [(3, 1)]), (.aload 0, 0, 0, []), (.getfield 0, 1, 8, []), (.iload 1, 0, 0, []), (.iastore, 13, 0, []), (.iload 1, 0, 0, []), (.aload 0, 0, 0, []), (.getfield 0, 1, 4, [])] (pc1 := 101) (ls1 := [some (vm_r th), some (vm_i v1)]) (st1 := [vm_i ((vm_st m (th + 3) (m th 8) v1) th 4), vm_i v1]) (m1 := (vm_st m (th + 3) (m th 8) v1)) (ob := ((((((true && vm_is th 1) && true) && vm_is th 1) && vm_ar (th + 3) 100 13) && decide (0 ≤ (m th 8) ∧ (m th 8) < 13)) && vm_is th 1)) (by decide +kernel) rfl (vm_u (vm_t (vm_u (vm_u (vm_u (vm_u rfl h_th) rfl) h_th) (vm_is_ar 3 (by decide) h_th (by decide +kernel))) o2_0) h_th) ?_
    refine vm_gj (c := ((vm_st m (th + 3) (m th 8) v1) th 4) ≤ v1) (t := 109) (e := 104) (i := (.if_icmp .ge 0, 109, 0, [])) (len := 3) (st1 := []) (by decide +kernel) rfl rfl (fun c2 => ?_) (fun c2 => ?_)
    · replace h := h.1 c2
      exact vm_gr (r := none) (i := (.return_, 0, 0, [])) (len := 1) (by decide +kernel) rfl rfl rfl ⟨rfl, h⟩
    · replace h := h.2 c2
      refine vm_gp [(.aload 0, 0, 0, []), (.iconst 0, 0, 0, []), (.putfield 0, 1, 8, [])] (pc1 := 109) (ls1 := [some (vm_r th), some (vm_i v1)]) (st1 := []) (m1 := (vm_st (vm_st m (th + 3) (m th 8) v1) th 8 0)) (ob := (true && vm_is th 1)) (by decide +kernel) rfl (vm_u rfl h_th) ?_
      exact vm_gr (r := none) (i := (.return_, 0, 0, [])) (len := 1) (by decide +kernel) rfl rfl rfl ⟨rfl, h⟩
  · replace h := h.2 c1
    refine vm_gp [(.iload 1, 0, 0, []), (.aload 0, 0, 0, []), (.getfield 0, 1, 4, [])] (pc1 := 21) (ls1 := [some (vm_r th), some (vm_i v1)]) (st1 := [vm_i (m th 4), vm_i v1]) (m1 := m) (ob := (true && vm_is th 1)) (by decide +kernel) rfl (vm_u rfl h_th) ?_
    refine vm_gj (c := (m th 4) ≤ v1) (t := 86) (e := 24) (i := (.if_icmp .ge 0, 86, 0, [])) (len := 3) (st1 := []) (by decide +kernel) rfl rfl (fun c3 => ?_) (fun c3 => ?_)
    · replace h := h.1 c3
      obtain ⟨o6_0, h⟩ := h
      refine vm_gp [(.aload 0, 0, 0, []), (.getfield 2, 1, 2, [(3, 1)]), (.aload 0, 0, 0, []), (.getfield 0, 1, 8, []), (.iload 1, 0, 0, []), (.iastore, 13, 0, []), (.iload 1, 0, 0, []), (.aload 0, 0, 0, []), (.getfield 0, 1, 4, [])] (pc1 := 101) (ls1 := [some (vm_r th), some (vm_i v1)]) (st1 := [vm_i ((vm_st m (th + 3) (m th 8) v1) th 4), vm_i v1]) (m1 := (vm_st m (th + 3) (m th 8) v1)) (ob := ((((((true && vm_is th 1) && true) && vm_is th 1) && vm_ar (th + 3) 100 13) && decide (0 ≤ (m th 8) ∧ (m th 8) < 13)) && vm_is th 1)) (by decide +kernel) rfl (vm_u (vm_t (vm_u (vm_u (vm_u (vm_u rfl h_th) rfl) h_th) (vm_is_ar 3 (by decide) h_th (by decide +kernel))) o6_0) h_th) ?_
      refine vm_gj (c := ((vm_st m (th + 3) (m th 8) v1) th 4) ≤ v1) (t := 109) (e := 104) (i := (.if_icmp .ge 0, 109, 0, [])) (len := 3) (st1 := []) (by decide +kernel) rfl rfl (fun c4 => ?_) (fun c4 => ?_)
      · replace h := h.1 c4
        exact vm_gr (r := none) (i := (.return_, 0, 0, [])) (len := 1) (by decide +kernel) rfl rfl rfl ⟨rfl, h⟩
      · replace h := h.2 c4
        refine vm_gp [(.aload 0, 0, 0, []), (.iconst 0, 0, 0, []), (.putfield 0, 1, 8, [])] (pc1 := 109) (ls1 := [some (vm_r th), some (vm_i v1)]) (st1 := []) (m1 := (vm_st (vm_st m (th + 3) (m th 8) v1) th 8 0)) (ob := (true && vm_is th 1)) (by decide +kernel) rfl (vm_u rfl h_th) ?_
        exact vm_gr (r := none) (i := (.return_, 0, 0, [])) (len := 1) (by decide +kernel) rfl rfl rfl ⟨rfl, h⟩
    · replace h := h.2 c3
      obtain ⟨⟨o9_0, o9_1, o9_2⟩, h⟩ := h
      refine vm_gp [(.aload 0, 0, 0, []), (.getfield 2, 1, 2, [(3, 1)]), (.aload 0, 0, 0, []), (.getfield 0, 1, 8, []), (.iload 1, 0, 0, []), (.iastore, 13, 0, []), (.aload 0, 0, 0, []), (.dup, 0, 0, []), (.getfield 0, 1, 8, []), (.iconst 1, 0, 0, []), (.iadd, 0, 0, []), (.putfield 0, 1, 8, []), (.iinc 1 1, 0, 0, [])] (pc1 := 47) (ls1 := [some (vm_r th), some (vm_i (v1 + 1))]) (st1 := []) (m1 := (vm_st (vm_st m (th + 3) (m th 8) v1) th 8 (((vm_st m (th + 3) (m th 8) v1) th 8) + 1))) (ob := (((((((((true && vm_is th 1) && true) && vm_is th 1) && vm_ar (th + 3) 100 13) && decide (0 ≤ (m th 8) ∧ (m th 8) < 13)) && vm_is th 1) && decide (vm_32 (((vm_st m (th + 3) (m th 8) v1) th 8) + 1))) && vm_is th 1) && decide (vm_32 (v1 + 1)))) (by decide +kernel) rfl (vm_t (vm_u (vm_t (vm_u (vm_t (vm_u (vm_u (vm_u (vm_u rfl h_th) rfl) h_th) (vm_is_ar 3 (by decide) h_th (by decide +kernel))) o9_0) h_th) o9_1) h_th) o9_2) ?_
      exact h
set_option maxRecDepth 20000 in
theorem ru1_breakEarly_47 {th : Nat} {v1 : Int} {m : vm_M} {Q : vm_M → Prop} (h_th : vm_is th 1 = true) (h :
    (((m th 4) ≤ v1 →
      ku1_breakEarly_7 th v1 m Q) ∧ (¬ (m th 4) ≤ v1 →
      ((vm_32 ((m th 8) - 1)) ∧ (0 ≤ ((m th 8) - 1) ∧ ((m th 8) - 1) < 13) ∧ (vm_32 (v1 + 1))) ∧
      (vm_C 26 [vm_r th, vm_i (m (th + 3) ((m th 8) - 1)), vm_i (v1 + 1)] m (vm_qi (fun z1 m1 =>
        (((m1 th 5) < z1 →
          ku1_breakEarly_7 th v1 m1 Q) ∧ (¬ (m1 th 5) < z1 →
          ((vm_32 (v1 + 1))) ∧
          ku1_breakEarly_47 th (v1 + 1) m1 Q)))))))) : ku1_breakEarly_47 th v1 m Q := by
  show vm_G 29 47 [some (vm_r th), some (vm_i v1)] [] m (vm_qv Q)
  refine vm_gp [(.iload 1, 0, 0, []), (.aload 0, 0, 0, []), (.getfield 0, 1, 4, [])] (pc1 := 52) (ls1 := [some (vm_r th), some (vm_i v1)]) (st1 := [vm_i (m th 4), vm_i v1]) (m1 := m) (ob := (true && vm_is th 1)) (by decide +kernel) rfl (vm_u rfl h_th) ?_
  refine vm_gj (c := (m th 4) ≤ v1) (t := 7) (e := 55) (i := (.if_icmp .ge 0, 7, 0, [])) (len := 3) (st1 := []) (by decide +kernel) rfl rfl (fun c1 => ?_) (fun c1 => ?_)
  · replace h := h.1 c1
    exact h
  · replace h := h.2 c1
    obtain ⟨⟨o3_0, o3_1, o3_2⟩, h⟩ := h
    refine vm_gp [(.aload 0, 0, 0, []), (.aload 0, 0, 0, []), (.getfield 2, 1, 2, [(3, 1)]), (.aload 0, 0, 0, []), (.getfield 0, 1, 8, []), (.iconst 1, 0, 0, []), (.isub, 0, 0, []), (.iaload, 13, 0, []), (.iload 1, 0, 0, []), (.iconst 1, 0, 0, []), (.iadd, 0, 0, [])] (pc1 := 70) (ls1 := [some (vm_r th), some (vm_i v1)]) (st1 := [vm_i (v1 + 1), vm_i (m (th + 3) ((m th 8) - 1)), vm_r th]) (m1 := m) (ob := (((((((true && vm_is th 1) && true) && vm_is th 1) && decide (vm_32 ((m th 8) - 1))) && vm_ar (th + 3) 100 13) && decide (0 ≤ ((m th 8) - 1) ∧ ((m th 8) - 1) < 13)) && decide (vm_32 (v1 + 1)))) (by decide +kernel) rfl (vm_t (vm_t (vm_u (vm_t (vm_u (vm_u (vm_u rfl h_th) rfl) h_th) o3_0) (vm_is_ar 3 (by decide) h_th (by decide +kernel))) o3_1) o3_2) ?_
    refine vm_gc (g := 26) (na := 3) (av := [vm_r th, vm_i (m (th + 3) ((m th 8) - 1)), vm_i (v1 + 1)]) (rest := []) (i := (.invokevirtual 0, 26, 3, [])) (len := 3) (by decide +kernel) rfl rfl rfl (by decide +kernel) (by decide +kernel) rfl rfl (vm_u (vm_okh_v (c := 1) (by decide +kernel) h_th) (show vm_okn 26 3 0 0 0 3 = true by decide +kernel)) ?_
    refine vm_G.mono h ?_
    rintro _ m1 ⟨z1, rfl, h⟩
    show vm_G 29 73 [some (vm_r th), some (vm_i v1)] [vm_i z1] m1 _
    refine vm_gp [(.aload 0, 0, 0, []), (.getfield 0, 1, 5, [])] (pc1 := 77) (ls1 := [some (vm_r th), some (vm_i v1)]) (st1 := [vm_i (m1 th 5), vm_i z1]) (m1 := m1) (ob := (true && vm_is th 1)) (by decide +kernel) rfl (vm_u rfl h_th) ?_
    refine vm_gj (c := (m1 th 5) < z1) (t := 7) (e := 80) (i := (.if_icmp .gt 0, 7, 0, [])) (len := 3) (st1 := []) (by decide +kernel) rfl rfl (fun c2 => ?_) (fun c2 => ?_)
    · replace h := h.1 c2
      exact h
    · replace h := h.2 c2
      obtain ⟨o6_0, h⟩ := h
      refine vm_gp [(.iinc 1 1, 0, 0, []), (.goto 0, 47, 0, [])] (pc1 := 47) (ls1 := [some (vm_r th), some (vm_i (v1 + 1))]) (st1 := []) (m1 := m1) (ob := (true && decide (vm_32 (v1 + 1)))) (by decide +kernel) rfl (vm_t rfl o6_0) ?_
      exact h
abbrev ku1_breakCheaply_0 (th : Nat) (m : vm_M) (Q : vm_M → Prop) : Prop := vm_G 30 0 [some (vm_r th), none] [] m (vm_qv Q)
abbrev ku1_breakCheaply_7 (th : Nat) (v1 : Int) (m : vm_M) (Q : vm_M → Prop) : Prop := vm_G 30 7 [some (vm_r th), some (vm_i v1)] [] m (vm_qv Q)
set_option maxRecDepth 20000 in
theorem ru1_breakCheaply_0 {th : Nat} {m : vm_M} {Q : vm_M → Prop} (h_th : vm_is th 1 = true) (h :
    ku1_breakCheaply_7 th 0 (vm_st m th 8 0) Q) : vm_C 30 [vm_r th] m (vm_qv Q) := by
  show vm_G 30 0 [some (vm_r th), none] [] m (vm_qv Q)
  refine vm_gp [(.iconst 0, 0, 0, []), (.istore 1, 0, 0, []), (.aload 0, 0, 0, []), (.iconst 0, 0, 0, []), (.putfield 0, 1, 8, [])] (pc1 := 7) (ls1 := [some (vm_r th), some (vm_i 0)]) (st1 := []) (m1 := (vm_st m th 8 0)) (ob := (true && vm_is th 1)) (by decide +kernel) rfl (vm_u rfl h_th) ?_
  exact h
set_option maxRecDepth 20000 in
theorem ru1_breakCheaply_7 {th : Nat} {v1 : Int} {m : vm_M} {Q : vm_M → Prop} (h_th : vm_is th 1 = true) (h :
    ((12 ≤ (m th 8) →
      ((0 ≤ (m th 8) ∧ (m th 8) < 13)) ∧
      Q (vm_st m (th + 3) (m th 8) v1)) ∧ (¬ 12 ≤ (m th 8) →
      (((m th 4) ≤ v1 →
        ((0 ≤ (m th 8) ∧ (m th 8) < 13)) ∧
        Q (vm_st m (th + 3) (m th 8) v1)) ∧ (¬ (m th 4) ≤ v1 →
        ((0 ≤ (m th 8) ∧ (m th 8) < 13) ∧ (vm_32 (12 - ((vm_st m (th + 3) (m th 8) v1) th 8)))) ∧
        (vm_C 32 [vm_r th, vm_i v1, vm_i (12 - ((vm_st m (th + 3) (m th 8) v1) th 8))] (vm_st m (th + 3) (m th 8) v1) (vm_qi (fun z1 m1 =>
          ((vm_32 ((m1 th 8) + 1))) ∧
          ku1_breakCheaply_7 th z1 (vm_st m1 th 8 ((m1 th 8) + 1)) Q)))))))) : ku1_breakCheaply_7 th v1 m Q := by
  show vm_G 30 7 [some (vm_r th), some (vm_i v1)] [] m (vm_qv Q)
  refine vm_gp [(.aload 0, 0, 0, []), (.getfield 0, 1, 8, []), (.iconst 12, 0, 0, [])] (pc1 := 13) (ls1 := [some (vm_r th), some (vm_i v1)]) (st1 := [vm_i 12, vm_i (m th 8)]) (m1 := m) (ob := (true && vm_is th 1)) (by decide +kernel) rfl (vm_u rfl h_th) ?_
  refine vm_gj (c := 12 ≤ (m th 8)) (t := 60) (e := 16) (i := (.if_icmp .ge 0, 60, 0, [])) (len := 3) (st1 := []) (by decide +kernel) rfl rfl (fun c1 => ?_) (fun c1 => ?_)
  · replace h := h.1 c1
    obtain ⟨o2_0, h⟩ := h
    refine vm_gp [(.aload 0, 0, 0, []), (.getfield 2, 1, 2, [(3, 1)]), (.aload 0, 0, 0, []), (.getfield 0, 1, 8, []), (.iload 1, 0, 0, []), (.iastore, 13, 0, [])] (pc1 := 70) (ls1 := [some (vm_r th), some (vm_i v1)]) (st1 := []) (m1 := (vm_st m (th + 3) (m th 8) v1)) (ob := (((((true && vm_is th 1) && true) && vm_is th 1) && vm_ar (th + 3) 100 13) && decide (0 ≤ (m th 8) ∧ (m th 8) < 13))) (by decide +kernel) rfl (vm_t (vm_u (vm_u (vm_u (vm_u rfl h_th) rfl) h_th) (vm_is_ar 3 (by decide) h_th (by decide +kernel))) o2_0) ?_
    exact vm_gr (r := none) (i := (.return_, 0, 0, [])) (len := 1) (by decide +kernel) rfl rfl rfl ⟨rfl, h⟩
  · replace h := h.2 c1
    refine vm_gp [(.iload 1, 0, 0, []), (.aload 0, 0, 0, []), (.getfield 0, 1, 4, [])] (pc1 := 21) (ls1 := [some (vm_r th), some (vm_i v1)]) (st1 := [vm_i (m th 4), vm_i v1]) (m1 := m) (ob := (true && vm_is th 1)) (by decide +kernel) rfl (vm_u rfl h_th) ?_
    refine vm_gj (c := (m th 4) ≤ v1) (t := 60) (e := 24) (i := (.if_icmp .ge 0, 60, 0, [])) (len := 3) (st1 := []) (by decide +kernel) rfl rfl (fun c2 => ?_) (fun c2 => ?_)
    · replace h := h.1 c2
      obtain ⟨o4_0, h⟩ := h
      refine vm_gp [(.aload 0, 0, 0, []), (.getfield 2, 1, 2, [(3, 1)]), (.aload 0, 0, 0, []), (.getfield 0, 1, 8, []), (.iload 1, 0, 0, []), (.iastore, 13, 0, [])] (pc1 := 70) (ls1 := [some (vm_r th), some (vm_i v1)]) (st1 := []) (m1 := (vm_st m (th + 3) (m th 8) v1)) (ob := (((((true && vm_is th 1) && true) && vm_is th 1) && vm_ar (th + 3) 100 13) && decide (0 ≤ (m th 8) ∧ (m th 8) < 13))) (by decide +kernel) rfl (vm_t (vm_u (vm_u (vm_u (vm_u rfl h_th) rfl) h_th) (vm_is_ar 3 (by decide) h_th (by decide +kernel))) o4_0) ?_
      exact vm_gr (r := none) (i := (.return_, 0, 0, [])) (len := 1) (by decide +kernel) rfl rfl rfl ⟨rfl, h⟩
    · replace h := h.2 c2
      obtain ⟨⟨o5_0, o5_1⟩, h⟩ := h
      refine vm_gp [(.aload 0, 0, 0, []), (.getfield 2, 1, 2, [(3, 1)]), (.aload 0, 0, 0, []), (.getfield 0, 1, 8, []), (.iload 1, 0, 0, []), (.iastore, 13, 0, []), (.aload 0, 0, 0, []), (.iload 1, 0, 0, []), (.iconst 12, 0, 0, []), (.aload 0, 0, 0, []), (.getfield 0, 1, 8, []), (.isub, 0, 0, [])] (pc1 := 43) (ls1 := [some (vm_r th), some (vm_i v1)]) (st1 := [vm_i (12 - ((vm_st m (th + 3) (m th 8) v1) th 8)), vm_i v1, vm_r th]) (m1 := (vm_st m (th + 3) (m th 8) v1)) (ob := (((((((true && vm_is th 1) && true) && vm_is th 1) && vm_ar (th + 3) 100 13) && decide (0 ≤ (m th 8) ∧ (m th 8) < 13)) && vm_is th 1) && decide (vm_32 (12 - ((vm_st m (th + 3) (m th 8) v1) th 8))))) (by decide +kernel) rfl (vm_t (vm_u (vm_t (vm_u (vm_u (vm_u (vm_u rfl h_th) rfl) h_th) (vm_is_ar 3 (by decide) h_th (by decide +kernel))) o5_0) h_th) o5_1) ?_
      refine vm_gc (g := 32) (na := 3) (av := [vm_r th, vm_i v1, vm_i (12 - ((vm_st m (th + 3) (m th 8) v1) th 8))]) (rest := []) (i := (.invokevirtual 0, 32, 3, [])) (len := 3) (by decide +kernel) rfl rfl rfl (by decide +kernel) (by decide +kernel) rfl rfl (vm_u (vm_okh_v (c := 1) (by decide +kernel) h_th) (show vm_okn 32 3 0 0 0 3 = true by decide +kernel)) ?_
      refine vm_G.mono h ?_
      rintro _ m1 ⟨z1, rfl, h⟩
      show vm_G 30 46 [some (vm_r th), some (vm_i v1)] [vm_i z1] m1 _
      obtain ⟨o6_0, h⟩ := h
      refine vm_gp [(.istore 1, 0, 0, []), (.aload 0, 0, 0, []), (.dup, 0, 0, []), (.getfield 0, 1, 8, []), (.iconst 1, 0, 0, []), (.iadd, 0, 0, []), (.putfield 0, 1, 8, []), (.goto 0, 7, 0, [])] (pc1 := 7) (ls1 := [some (vm_r th), some (vm_i z1)]) (st1 := []) (m1 := (vm_st m1 th 8 ((m1 th 8) + 1))) (ob := (((true && vm_is th 1) && decide (vm_32 ((m1 th 8) + 1))) && vm_is th 1)) (by decide +kernel) rfl (vm_u (vm_t (vm_u rfl h_th) o6_0) h_th) ?_
      exact h
abbrev ku1_leastCostFrom_0 (th : Nat) (v1 : Int) (v2 : Int) (m : vm_M) (Q : Int → vm_M → Prop) : Prop := vm_G 31 0 [some (vm_r th), some (vm_i v1), some (vm_i v2), none, none, none, none] [] m (vm_qi Q)
abbrev ku1_leastCostFrom_7 (th : Nat) (v1 : Int) (v2 : Int) (v3 : Int) (v4 : Int) (w5 : Option vm_V) (w6 : Option vm_V) (m : vm_M) (Q : Int → vm_M → Prop) : Prop := vm_G 31 7 [some (vm_r th), some (vm_i v1), some (vm_i v2), some (vm_i v3), some (vm_i v4), w5, w6] [] m (vm_qi Q)
set_option maxRecDepth 20000 in
theorem ru1_leastCostFrom_0 {th : Nat} {v1 : Int} {v2 : Int} {m : vm_M} {Q : Int → vm_M → Prop} (h_th : vm_is th 1 = true) (h :
    ((vm_32 (v1 + 1))) ∧
    ku1_leastCostFrom_7 th v1 v2 (-1) (v1 + 1) none none m Q) : vm_C 31 [vm_r th, vm_i v1, vm_i v2] m (vm_qi Q) := by
  show vm_G 31 0 [some (vm_r th), some (vm_i v1), some (vm_i v2), none, none, none, none] [] m (vm_qi Q)
  obtain ⟨o1_0, h⟩ := h
  refine vm_gp [(.iconst (-1), 0, 0, []), (.istore 3, 0, 0, []), (.iload 1, 0, 0, []), (.iconst 1, 0, 0, []), (.iadd, 0, 0, []), (.istore 4, 0, 0, [])] (pc1 := 7) (ls1 := [some (vm_r th), some (vm_i v1), some (vm_i v2), some (vm_i (-1)), some (vm_i (v1 + 1)), none, none]) (st1 := []) (m1 := m) (ob := (true && decide (vm_32 (v1 + 1)))) (by decide +kernel) rfl (vm_t rfl o1_0) ?_
  exact h
set_option maxRecDepth 20000 in
theorem ru1_leastCostFrom_7 {th : Nat} {v1 : Int} {v2 : Int} {v3 : Int} {v4 : Int} {w5 : Option vm_V} {w6 : Option vm_V} {m : vm_M} {Q : Int → vm_M → Prop} (h_th : vm_is th 1 = true) (h :
    (((m th 4) < v4 →
      Q v3 m) ∧ (¬ (m th 4) < v4 →
      (vm_C 26 [vm_r th, vm_i v1, vm_i v4] m (vm_qi (fun z1 m1 =>
        ((vm_32 (v1 + 1))) ∧
        ((v4 ≤ (v1 + 1) →
          (vm_C 33 [vm_r th, vm_i z1, vm_i v4, vm_i v2] m1 (vm_qi (fun z2 m2 =>
            ((z2 = (-1) →
              ((vm_32 (v4 + 1))) ∧
              ku1_leastCostFrom_7 th v1 v2 v3 (v4 + 1) (some (vm_i z1)) (some (vm_i z2)) m2 Q) ∧ (¬ z2 = (-1) →
              ((v3 = (-1) →
                ((vm_32 (v4 + 1))) ∧
                ku1_leastCostFrom_7 th v1 v2 z2 (v4 + 1) (some (vm_i z1)) (some (vm_i z2)) m2 Q) ∧ (¬ v3 = (-1) →
                ((v3 ≤ z2 →
                  ((vm_32 (v4 + 1))) ∧
                  ku1_leastCostFrom_7 th v1 v2 v3 (v4 + 1) (some (vm_i z1)) (some (vm_i z2)) m2 Q) ∧ (¬ v3 ≤ z2 →
                  ((vm_32 (v4 + 1))) ∧
                  ku1_leastCostFrom_7 th v1 v2 z2 (v4 + 1) (some (vm_i z1)) (some (vm_i z2)) m2 Q)))))))))) ∧ (¬ v4 ≤ (v1 + 1) →
          ((z1 ≤ (m1 th 5) →
            (vm_C 33 [vm_r th, vm_i z1, vm_i v4, vm_i v2] m1 (vm_qi (fun z3 m3 =>
              ((z3 = (-1) →
                ((vm_32 (v4 + 1))) ∧
                ku1_leastCostFrom_7 th v1 v2 v3 (v4 + 1) (some (vm_i z1)) (some (vm_i z3)) m3 Q) ∧ (¬ z3 = (-1) →
                ((v3 = (-1) →
                  ((vm_32 (v4 + 1))) ∧
                  ku1_leastCostFrom_7 th v1 v2 z3 (v4 + 1) (some (vm_i z1)) (some (vm_i z3)) m3 Q) ∧ (¬ v3 = (-1) →
                  ((v3 ≤ z3 →
                    ((vm_32 (v4 + 1))) ∧
                    ku1_leastCostFrom_7 th v1 v2 v3 (v4 + 1) (some (vm_i z1)) (some (vm_i z3)) m3 Q) ∧ (¬ v3 ≤ z3 →
                    ((vm_32 (v4 + 1))) ∧
                    ku1_leastCostFrom_7 th v1 v2 z3 (v4 + 1) (some (vm_i z1)) (some (vm_i z3)) m3 Q)))))))))) ∧ (¬ z1 ≤ (m1 th 5) →
            Q v3 m1)))))))))) : ku1_leastCostFrom_7 th v1 v2 v3 v4 w5 w6 m Q := by
  show vm_G 31 7 [some (vm_r th), some (vm_i v1), some (vm_i v2), some (vm_i v3), some (vm_i v4), w5, w6] [] m (vm_qi Q)
  refine vm_gp [(.iload 4, 0, 0, []), (.aload 0, 0, 0, []), (.getfield 0, 1, 4, [])] (pc1 := 13) (ls1 := [some (vm_r th), some (vm_i v1), some (vm_i v2), some (vm_i v3), some (vm_i v4), w5, w6]) (st1 := [vm_i (m th 4), vm_i v4]) (m1 := m) (ob := (true && vm_is th 1)) (by decide +kernel) rfl (vm_u rfl h_th) ?_
  refine vm_gj (c := (m th 4) < v4) (t := 82) (e := 16) (i := (.if_icmp .gt 0, 82, 0, [])) (len := 3) (st1 := []) (by decide +kernel) rfl rfl (fun c1 => ?_) (fun c1 => ?_)
  · replace h := h.1 c1
    refine vm_gp [(.iload 3, 0, 0, [])] (pc1 := 83) (ls1 := [some (vm_r th), some (vm_i v1), some (vm_i v2), some (vm_i v3), some (vm_i v4), w5, w6]) (st1 := [vm_i v3]) (m1 := m) (ob := true) (by decide +kernel) rfl rfl ?_
    exact vm_gr (r := some (vm_i v3)) (i := (.ireturn, 1, 0, [])) (len := 1) (by decide +kernel) rfl rfl rfl ⟨_, rfl, h⟩
  · replace h := h.2 c1
    refine vm_gp [(.aload 0, 0, 0, []), (.iload 1, 0, 0, []), (.iload 4, 0, 0, [])] (pc1 := 20) (ls1 := [some (vm_r th), some (vm_i v1), some (vm_i v2), some (vm_i v3), some (vm_i v4), w5, w6]) (st1 := [vm_i v4, vm_i v1, vm_r th]) (m1 := m) (ob := true) (by decide +kernel) rfl rfl ?_
    refine vm_gc (g := 26) (na := 3) (av := [vm_r th, vm_i v1, vm_i v4]) (rest := []) (i := (.invokevirtual 0, 26, 3, [])) (len := 3) (by decide +kernel) rfl rfl rfl (by decide +kernel) (by decide +kernel) rfl rfl (vm_u (vm_okh_v (c := 1) (by decide +kernel) h_th) (show vm_okn 26 3 0 0 0 3 = true by decide +kernel)) ?_
    refine vm_G.mono h ?_
    rintro _ m1 ⟨z1, rfl, h⟩
    show vm_G 31 23 [some (vm_r th), some (vm_i v1), some (vm_i v2), some (vm_i v3), some (vm_i v4), w5, w6] [vm_i z1] m1 _
    obtain ⟨o4_0, h⟩ := h
    refine vm_gp [(.istore 5, 0, 0, []), (.iload 4, 0, 0, []), (.iload 1, 0, 0, []), (.iconst 1, 0, 0, []), (.iadd, 0, 0, [])] (pc1 := 30) (ls1 := [some (vm_r th), some (vm_i v1), some (vm_i v2), some (vm_i v3), some (vm_i v4), some (vm_i z1), w6]) (st1 := [vm_i (v1 + 1), vm_i v4]) (m1 := m1) (ob := (true && decide (vm_32 (v1 + 1)))) (by decide +kernel) rfl (vm_t rfl o4_0) ?_
    refine vm_gj (c := v4 ≤ (v1 + 1)) (t := 45) (e := 33) (i := (.if_icmp .le 0, 45, 0, [])) (len := 3) (st1 := []) (by decide +kernel) rfl rfl (fun c2 => ?_) (fun c2 => ?_)
    · replace h := h.1 c2
      refine vm_gp [(.aload 0, 0, 0, []), (.iload 5, 0, 0, []), (.iload 4, 0, 0, []), (.iload 2, 0, 0, [])] (pc1 := 51) (ls1 := [some (vm_r th), some (vm_i v1), some (vm_i v2), some (vm_i v3), some (vm_i v4), some (vm_i z1), w6]) (st1 := [vm_i v2, vm_i v4, vm_i z1, vm_r th]) (m1 := m1) (ob := true) (by decide +kernel) rfl rfl ?_
      refine vm_gc (g := 33) (na := 4) (av := [vm_r th, vm_i z1, vm_i v4, vm_i v2]) (rest := []) (i := (.invokevirtual 0, 33, 4, [])) (len := 3) (by decide +kernel) rfl rfl rfl (by decide +kernel) (by decide +kernel) rfl rfl (vm_u (vm_okh_v (c := 1) (by decide +kernel) h_th) (show vm_okn 33 4 0 0 0 4 = true by decide +kernel)) ?_
      refine vm_G.mono h ?_
      rintro _ m2 ⟨z2, rfl, h⟩
      show vm_G 31 54 [some (vm_r th), some (vm_i v1), some (vm_i v2), some (vm_i v3), some (vm_i v4), some (vm_i z1), w6] [vm_i z2] m2 _
      refine vm_gp [(.istore 6, 0, 0, []), (.iload 6, 0, 0, []), (.iconst (-1), 0, 0, [])] (pc1 := 59) (ls1 := [some (vm_r th), some (vm_i v1), some (vm_i v2), some (vm_i v3), some (vm_i v4), some (vm_i z1), some (vm_i z2)]) (st1 := [vm_i (-1), vm_i z2]) (m1 := m2) (ob := true) (by decide +kernel) rfl rfl ?_
      refine vm_gj (c := z2 = (-1)) (t := 76) (e := 62) (i := (.if_icmp .eq 0, 76, 0, [])) (len := 3) (st1 := []) (by decide +kernel) rfl rfl (fun c3 => ?_) (fun c3 => ?_)
      · replace h := h.1 c3
        obtain ⟨o7_0, h⟩ := h
        refine vm_gp [(.iinc 4 1, 0, 0, []), (.goto 0, 7, 0, [])] (pc1 := 7) (ls1 := [some (vm_r th), some (vm_i v1), some (vm_i v2), some (vm_i v3), some (vm_i (v4 + 1)), some (vm_i z1), some (vm_i z2)]) (st1 := []) (m1 := m2) (ob := (true && decide (vm_32 (v4 + 1)))) (by decide +kernel) rfl (vm_t rfl o7_0) ?_
        exact h
      · replace h := h.2 c3
        refine vm_gp [(.iload 3, 0, 0, []), (.iconst (-1), 0, 0, [])] (pc1 := 64) (ls1 := [some (vm_r th), some (vm_i v1), some (vm_i v2), some (vm_i v3), some (vm_i v4), some (vm_i z1), some (vm_i z2)]) (st1 := [vm_i (-1), vm_i v3]) (m1 := m2) (ob := true) (by decide +kernel) rfl rfl ?_
        refine vm_gj (c := v3 = (-1)) (t := 73) (e := 67) (i := (.if_icmp .eq 0, 73, 0, [])) (len := 3) (st1 := []) (by decide +kernel) rfl rfl (fun c4 => ?_) (fun c4 => ?_)
        · replace h := h.1 c4
          obtain ⟨o9_0, h⟩ := h
          refine vm_gp [(.iload 6, 0, 0, []), (.istore 3, 0, 0, []), (.iinc 4 1, 0, 0, []), (.goto 0, 7, 0, [])] (pc1 := 7) (ls1 := [some (vm_r th), some (vm_i v1), some (vm_i v2), some (vm_i z2), some (vm_i (v4 + 1)), some (vm_i z1), some (vm_i z2)]) (st1 := []) (m1 := m2) (ob := (true && decide (vm_32 (v4 + 1)))) (by decide +kernel) rfl (vm_t rfl o9_0) ?_
          exact h
        · replace h := h.2 c4
          refine vm_gp [(.iload 6, 0, 0, []), (.iload 3, 0, 0, [])] (pc1 := 70) (ls1 := [some (vm_r th), some (vm_i v1), some (vm_i v2), some (vm_i v3), some (vm_i v4), some (vm_i z1), some (vm_i z2)]) (st1 := [vm_i v3, vm_i z2]) (m1 := m2) (ob := true) (by decide +kernel) rfl rfl ?_
          refine vm_gj (c := v3 ≤ z2) (t := 76) (e := 73) (i := (.if_icmp .ge 0, 76, 0, [])) (len := 3) (st1 := []) (by decide +kernel) rfl rfl (fun c5 => ?_) (fun c5 => ?_)
          · replace h := h.1 c5
            obtain ⟨o11_0, h⟩ := h
            refine vm_gp [(.iinc 4 1, 0, 0, []), (.goto 0, 7, 0, [])] (pc1 := 7) (ls1 := [some (vm_r th), some (vm_i v1), some (vm_i v2), some (vm_i v3), some (vm_i (v4 + 1)), some (vm_i z1), some (vm_i z2)]) (st1 := []) (m1 := m2) (ob := (true && decide (vm_32 (v4 + 1)))) (by decide +kernel) rfl (vm_t rfl o11_0) ?_
            exact h
          · replace h := h.2 c5
            obtain ⟨o12_0, h⟩ := h
            refine vm_gp [(.iload 6, 0, 0, []), (.istore 3, 0, 0, []), (.iinc 4 1, 0, 0, []), (.goto 0, 7, 0, [])] (pc1 := 7) (ls1 := [some (vm_r th), some (vm_i v1), some (vm_i v2), some (vm_i z2), some (vm_i (v4 + 1)), some (vm_i z1), some (vm_i z2)]) (st1 := []) (m1 := m2) (ob := (true && decide (vm_32 (v4 + 1)))) (by decide +kernel) rfl (vm_t rfl o12_0) ?_
            exact h
    · replace h := h.2 c2
      refine vm_gp [(.iload 5, 0, 0, []), (.aload 0, 0, 0, []), (.getfield 0, 1, 5, [])] (pc1 := 39) (ls1 := [some (vm_r th), some (vm_i v1), some (vm_i v2), some (vm_i v3), some (vm_i v4), some (vm_i z1), w6]) (st1 := [vm_i (m1 th 5), vm_i z1]) (m1 := m1) (ob := (true && vm_is th 1)) (by decide +kernel) rfl (vm_u rfl h_th) ?_
      refine vm_gj (c := z1 ≤ (m1 th 5)) (t := 45) (e := 42) (i := (.if_icmp .le 0, 45, 0, [])) (len := 3) (st1 := []) (by decide +kernel) rfl rfl (fun c6 => ?_) (fun c6 => ?_)
      · replace h := h.1 c6
        refine vm_gp [(.aload 0, 0, 0, []), (.iload 5, 0, 0, []), (.iload 4, 0, 0, []), (.iload 2, 0, 0, [])] (pc1 := 51) (ls1 := [some (vm_r th), some (vm_i v1), some (vm_i v2), some (vm_i v3), some (vm_i v4), some (vm_i z1), w6]) (st1 := [vm_i v2, vm_i v4, vm_i z1, vm_r th]) (m1 := m1) (ob := true) (by decide +kernel) rfl rfl ?_
        refine vm_gc (g := 33) (na := 4) (av := [vm_r th, vm_i z1, vm_i v4, vm_i v2]) (rest := []) (i := (.invokevirtual 0, 33, 4, [])) (len := 3) (by decide +kernel) rfl rfl rfl (by decide +kernel) (by decide +kernel) rfl rfl (vm_u (vm_okh_v (c := 1) (by decide +kernel) h_th) (show vm_okn 33 4 0 0 0 4 = true by decide +kernel)) ?_
        refine vm_G.mono h ?_
        rintro _ m3 ⟨z3, rfl, h⟩
        show vm_G 31 54 [some (vm_r th), some (vm_i v1), some (vm_i v2), some (vm_i v3), some (vm_i v4), some (vm_i z1), w6] [vm_i z3] m3 _
        refine vm_gp [(.istore 6, 0, 0, []), (.iload 6, 0, 0, []), (.iconst (-1), 0, 0, [])] (pc1 := 59) (ls1 := [some (vm_r th), some (vm_i v1), some (vm_i v2), some (vm_i v3), some (vm_i v4), some (vm_i z1), some (vm_i z3)]) (st1 := [vm_i (-1), vm_i z3]) (m1 := m3) (ob := true) (by decide +kernel) rfl rfl ?_
        refine vm_gj (c := z3 = (-1)) (t := 76) (e := 62) (i := (.if_icmp .eq 0, 76, 0, [])) (len := 3) (st1 := []) (by decide +kernel) rfl rfl (fun c7 => ?_) (fun c7 => ?_)
        · replace h := h.1 c7
          obtain ⟨o16_0, h⟩ := h
          refine vm_gp [(.iinc 4 1, 0, 0, []), (.goto 0, 7, 0, [])] (pc1 := 7) (ls1 := [some (vm_r th), some (vm_i v1), some (vm_i v2), some (vm_i v3), some (vm_i (v4 + 1)), some (vm_i z1), some (vm_i z3)]) (st1 := []) (m1 := m3) (ob := (true && decide (vm_32 (v4 + 1)))) (by decide +kernel) rfl (vm_t rfl o16_0) ?_
          exact h
        · replace h := h.2 c7
          refine vm_gp [(.iload 3, 0, 0, []), (.iconst (-1), 0, 0, [])] (pc1 := 64) (ls1 := [some (vm_r th), some (vm_i v1), some (vm_i v2), some (vm_i v3), some (vm_i v4), some (vm_i z1), some (vm_i z3)]) (st1 := [vm_i (-1), vm_i v3]) (m1 := m3) (ob := true) (by decide +kernel) rfl rfl ?_
          refine vm_gj (c := v3 = (-1)) (t := 73) (e := 67) (i := (.if_icmp .eq 0, 73, 0, [])) (len := 3) (st1 := []) (by decide +kernel) rfl rfl (fun c8 => ?_) (fun c8 => ?_)
          · replace h := h.1 c8
            obtain ⟨o18_0, h⟩ := h
            refine vm_gp [(.iload 6, 0, 0, []), (.istore 3, 0, 0, []), (.iinc 4 1, 0, 0, []), (.goto 0, 7, 0, [])] (pc1 := 7) (ls1 := [some (vm_r th), some (vm_i v1), some (vm_i v2), some (vm_i z3), some (vm_i (v4 + 1)), some (vm_i z1), some (vm_i z3)]) (st1 := []) (m1 := m3) (ob := (true && decide (vm_32 (v4 + 1)))) (by decide +kernel) rfl (vm_t rfl o18_0) ?_
            exact h
          · replace h := h.2 c8
            refine vm_gp [(.iload 6, 0, 0, []), (.iload 3, 0, 0, [])] (pc1 := 70) (ls1 := [some (vm_r th), some (vm_i v1), some (vm_i v2), some (vm_i v3), some (vm_i v4), some (vm_i z1), some (vm_i z3)]) (st1 := [vm_i v3, vm_i z3]) (m1 := m3) (ob := true) (by decide +kernel) rfl rfl ?_
            refine vm_gj (c := v3 ≤ z3) (t := 76) (e := 73) (i := (.if_icmp .ge 0, 76, 0, [])) (len := 3) (st1 := []) (by decide +kernel) rfl rfl (fun c9 => ?_) (fun c9 => ?_)
            · replace h := h.1 c9
              obtain ⟨o20_0, h⟩ := h
              refine vm_gp [(.iinc 4 1, 0, 0, []), (.goto 0, 7, 0, [])] (pc1 := 7) (ls1 := [some (vm_r th), some (vm_i v1), some (vm_i v2), some (vm_i v3), some (vm_i (v4 + 1)), some (vm_i z1), some (vm_i z3)]) (st1 := []) (m1 := m3) (ob := (true && decide (vm_32 (v4 + 1)))) (by decide +kernel) rfl (vm_t rfl o20_0) ?_
              exact h
            · replace h := h.2 c9
              obtain ⟨o21_0, h⟩ := h
              refine vm_gp [(.iload 6, 0, 0, []), (.istore 3, 0, 0, []), (.iinc 4 1, 0, 0, []), (.goto 0, 7, 0, [])] (pc1 := 7) (ls1 := [some (vm_r th), some (vm_i v1), some (vm_i v2), some (vm_i z3), some (vm_i (v4 + 1)), some (vm_i z1), some (vm_i z3)]) (st1 := []) (m1 := m3) (ob := (true && decide (vm_32 (v4 + 1)))) (by decide +kernel) rfl (vm_t rfl o21_0) ?_
              exact h
      · replace h := h.2 c6
        refine vm_gp [(.goto 0, 82, 0, []), (.iload 3, 0, 0, [])] (pc1 := 83) (ls1 := [some (vm_r th), some (vm_i v1), some (vm_i v2), some (vm_i v3), some (vm_i v4), some (vm_i z1), w6]) (st1 := [vm_i v3]) (m1 := m1) (ob := true) (by decide +kernel) rfl rfl ?_
        exact vm_gr (r := some (vm_i v3)) (i := (.ireturn, 1, 0, [])) (len := 1) (by decide +kernel) rfl rfl rfl ⟨_, rfl, h⟩
abbrev ku1_cheapestEnd_0 (th : Nat) (v1 : Int) (v2 : Int) (m : vm_M) (Q : Int → vm_M → Prop) : Prop := vm_G 32 0 [some (vm_r th), some (vm_i v1), some (vm_i v2), none, none, none, none] [] m (vm_qi Q)
abbrev ku1_cheapestEnd_23 (th : Nat) (v1 : Int) (v2 : Int) (v3 : Int) (v4 : Int) (v5 : Int) (w6 : Option vm_V) (m : vm_M) (Q : Int → vm_M → Prop) : Prop := vm_G 32 23 [some (vm_r th), some (vm_i v1), some (vm_i v2), some (vm_i v3), some (vm_i v4), some (vm_i v5), w6] [] m (vm_qi Q)
set_option maxRecDepth 20000 in
theorem ru1_cheapestEnd_0 {th : Nat} {v1 : Int} {v2 : Int} {m : vm_M} {Q : Int → vm_M → Prop} (h_th : vm_is th 1 = true) (h :
    ((vm_32 (v2 * 31)) ∧ (vm_32 ((v2 * 31) + v1)) ∧ (0 ≤ ((v2 * 31) + v1) ∧ ((v2 * 31) + v1) < 403) ∧ (vm_32 (v1 + 1))) ∧
    ku1_cheapestEnd_23 th v1 v2 (m (th + 4) ((v2 * 31) + v1)) (m th 4) (v1 + 1) none m Q) : vm_C 32 [vm_r th, vm_i v1, vm_i v2] m (vm_qi Q) := by
  show vm_G 32 0 [some (vm_r th), some (vm_i v1), some (vm_i v2), none, none, none, none] [] m (vm_qi Q)
  obtain ⟨⟨o1_0, o1_1, o1_2, o1_3⟩, h⟩ := h
  refine vm_gp [(.aload 0, 0, 0, []), (.getfield 2, 1, 3, [(4, 1)]), (.iload 2, 0, 0, []), (.iconst 31, 0, 0, []), (.imul, 0, 0, []), (.iload 1, 0, 0, []), (.iadd, 0, 0, []), (.iaload, 403, 0, []), (.istore 3, 0, 0, []), (.aload 0, 0, 0, []), (.getfield 0, 1, 4, []), (.istore 4, 0, 0, []), (.iload 1, 0, 0, []), (.iconst 1, 0, 0, []), (.iadd, 0, 0, []), (.istore 5, 0, 0, [])] (pc1 := 23) (ls1 := [some (vm_r th), some (vm_i v1), some (vm_i v2), some (vm_i (m (th + 4) ((v2 * 31) + v1))), some (vm_i (m th 4)), some (vm_i (v1 + 1)), none]) (st1 := []) (m1 := m) (ob := ((((((((true && vm_is th 1) && true) && decide (vm_32 (v2 * 31))) && decide (vm_32 ((v2 * 31) + v1))) && vm_ar (th + 4) 100 403) && decide (0 ≤ ((v2 * 31) + v1) ∧ ((v2 * 31) + v1) < 403)) && vm_is th 1) && decide (vm_32 (v1 + 1)))) (by decide +kernel) rfl (vm_t (vm_u (vm_t (vm_u (vm_t (vm_t (vm_u (vm_u rfl h_th) rfl) o1_0) o1_1) (vm_is_ar 4 (by decide) h_th (by decide +kernel))) o1_2) h_th) o1_3) ?_
  exact h
set_option maxRecDepth 20000 in
theorem ru1_cheapestEnd_23 {th : Nat} {v1 : Int} {v2 : Int} {v3 : Int} {v4 : Int} {v5 : Int} {w6 : Option vm_V} {m : vm_M} {Q : Int → vm_M → Prop} (h_th : vm_is th 1 = true) (h :
    (((m th 4) < v5 →
      Q v4 m) ∧ (¬ (m th 4) < v5 →
      (vm_C 26 [vm_r th, vm_i v1, vm_i v5] m (vm_qi (fun z1 m1 =>
        ((vm_32 (v1 + 1))) ∧
        ((v5 ≤ (v1 + 1) →
          (vm_C 33 [vm_r th, vm_i z1, vm_i v5, vm_i v2] m1 (vm_qi (fun z2 m2 =>
            ((¬ z2 = v3 →
              ((vm_32 (v5 + 1))) ∧
              ku1_cheapestEnd_23 th v1 v2 v3 v4 (v5 + 1) (some (vm_i z1)) m2 Q) ∧ (¬ ¬ z2 = v3 →
              ((vm_32 (v5 + 1))) ∧
              ku1_cheapestEnd_23 th v1 v2 v3 v5 (v5 + 1) (some (vm_i z1)) m2 Q)))))) ∧ (¬ v5 ≤ (v1 + 1) →
          ((z1 ≤ (m1 th 5) →
            (vm_C 33 [vm_r th, vm_i z1, vm_i v5, vm_i v2] m1 (vm_qi (fun z3 m3 =>
              ((¬ z3 = v3 →
                ((vm_32 (v5 + 1))) ∧
                ku1_cheapestEnd_23 th v1 v2 v3 v4 (v5 + 1) (some (vm_i z1)) m3 Q) ∧ (¬ ¬ z3 = v3 →
                ((vm_32 (v5 + 1))) ∧
                ku1_cheapestEnd_23 th v1 v2 v3 v5 (v5 + 1) (some (vm_i z1)) m3 Q)))))) ∧ (¬ z1 ≤ (m1 th 5) →
            Q v4 m1)))))))))) : ku1_cheapestEnd_23 th v1 v2 v3 v4 v5 w6 m Q := by
  show vm_G 32 23 [some (vm_r th), some (vm_i v1), some (vm_i v2), some (vm_i v3), some (vm_i v4), some (vm_i v5), w6] [] m (vm_qi Q)
  refine vm_gp [(.iload 5, 0, 0, []), (.aload 0, 0, 0, []), (.getfield 0, 1, 4, [])] (pc1 := 29) (ls1 := [some (vm_r th), some (vm_i v1), some (vm_i v2), some (vm_i v3), some (vm_i v4), some (vm_i v5), w6]) (st1 := [vm_i (m th 4), vm_i v5]) (m1 := m) (ob := (true && vm_is th 1)) (by decide +kernel) rfl (vm_u rfl h_th) ?_
  refine vm_gj (c := (m th 4) < v5) (t := 84) (e := 32) (i := (.if_icmp .gt 0, 84, 0, [])) (len := 3) (st1 := []) (by decide +kernel) rfl rfl (fun c1 => ?_) (fun c1 => ?_)
  · replace h := h.1 c1
    refine vm_gp [(.iload 4, 0, 0, [])] (pc1 := 86) (ls1 := [some (vm_r th), some (vm_i v1), some (vm_i v2), some (vm_i v3), some (vm_i v4), some (vm_i v5), w6]) (st1 := [vm_i v4]) (m1 := m) (ob := true) (by decide +kernel) rfl rfl ?_
    exact vm_gr (r := some (vm_i v4)) (i := (.ireturn, 1, 0, [])) (len := 1) (by decide +kernel) rfl rfl rfl ⟨_, rfl, h⟩
  · replace h := h.2 c1
    refine vm_gp [(.aload 0, 0, 0, []), (.iload 1, 0, 0, []), (.iload 5, 0, 0, [])] (pc1 := 36) (ls1 := [some (vm_r th), some (vm_i v1), some (vm_i v2), some (vm_i v3), some (vm_i v4), some (vm_i v5), w6]) (st1 := [vm_i v5, vm_i v1, vm_r th]) (m1 := m) (ob := true) (by decide +kernel) rfl rfl ?_
    refine vm_gc (g := 26) (na := 3) (av := [vm_r th, vm_i v1, vm_i v5]) (rest := []) (i := (.invokevirtual 0, 26, 3, [])) (len := 3) (by decide +kernel) rfl rfl rfl (by decide +kernel) (by decide +kernel) rfl rfl (vm_u (vm_okh_v (c := 1) (by decide +kernel) h_th) (show vm_okn 26 3 0 0 0 3 = true by decide +kernel)) ?_
    refine vm_G.mono h ?_
    rintro _ m1 ⟨z1, rfl, h⟩
    show vm_G 32 39 [some (vm_r th), some (vm_i v1), some (vm_i v2), some (vm_i v3), some (vm_i v4), some (vm_i v5), w6] [vm_i z1] m1 _
    obtain ⟨o4_0, h⟩ := h
    refine vm_gp [(.istore 6, 0, 0, []), (.iload 5, 0, 0, []), (.iload 1, 0, 0, []), (.iconst 1, 0, 0, []), (.iadd, 0, 0, [])] (pc1 := 46) (ls1 := [some (vm_r th), some (vm_i v1), some (vm_i v2), some (vm_i v3), some (vm_i v4), some (vm_i v5), some (vm_i z1)]) (st1 := [vm_i (v1 + 1), vm_i v5]) (m1 := m1) (ob := (true && decide (vm_32 (v1 + 1)))) (by decide +kernel) rfl (vm_t rfl o4_0) ?_
    refine vm_gj (c := v5 ≤ (v1 + 1)) (t := 61) (e := 49) (i := (.if_icmp .le 0, 61, 0, [])) (len := 3) (st1 := []) (by decide +kernel) rfl rfl (fun c2 => ?_) (fun c2 => ?_)
    · replace h := h.1 c2
      refine vm_gp [(.aload 0, 0, 0, []), (.iload 6, 0, 0, []), (.iload 5, 0, 0, []), (.iload 2, 0, 0, [])] (pc1 := 67) (ls1 := [some (vm_r th), some (vm_i v1), some (vm_i v2), some (vm_i v3), some (vm_i v4), some (vm_i v5), some (vm_i z1)]) (st1 := [vm_i v2, vm_i v5, vm_i z1, vm_r th]) (m1 := m1) (ob := true) (by decide +kernel) rfl rfl ?_
      refine vm_gc (g := 33) (na := 4) (av := [vm_r th, vm_i z1, vm_i v5, vm_i v2]) (rest := []) (i := (.invokevirtual 0, 33, 4, [])) (len := 3) (by decide +kernel) rfl rfl rfl (by decide +kernel) (by decide +kernel) rfl rfl (vm_u (vm_okh_v (c := 1) (by decide +kernel) h_th) (show vm_okn 33 4 0 0 0 4 = true by decide +kernel)) ?_
      refine vm_G.mono h ?_
      rintro _ m2 ⟨z2, rfl, h⟩
      show vm_G 32 70 [some (vm_r th), some (vm_i v1), some (vm_i v2), some (vm_i v3), some (vm_i v4), some (vm_i v5), some (vm_i z1)] [vm_i z2] m2 _
      refine vm_gp [(.iload 3, 0, 0, [])] (pc1 := 71) (ls1 := [some (vm_r th), some (vm_i v1), some (vm_i v2), some (vm_i v3), some (vm_i v4), some (vm_i v5), some (vm_i z1)]) (st1 := [vm_i v3, vm_i z2]) (m1 := m2) (ob := true) (by decide +kernel) rfl rfl ?_
      refine vm_gj (c := ¬ z2 = v3) (t := 78) (e := 74) (i := (.if_icmp .ne 0, 78, 0, [])) (len := 3) (st1 := []) (by decide +kernel) rfl rfl (fun c3 => ?_) (fun c3 => ?_)
      · replace h := h.1 c3
        obtain ⟨o7_0, h⟩ := h
        refine vm_gp [(.iinc 5 1, 0, 0, []), (.goto 0, 23, 0, [])] (pc1 := 23) (ls1 := [some (vm_r th), some (vm_i v1), some (vm_i v2), some (vm_i v3), some (vm_i v4), some (vm_i (v5 + 1)), some (vm_i z1)]) (st1 := []) (m1 := m2) (ob := (true && decide (vm_32 (v5 + 1)))) (by decide +kernel) rfl (vm_t rfl o7_0) ?_
        exact h
      · replace h := h.2 c3
        obtain ⟨o8_0, h⟩ := h
        refine vm_gp [(.iload 5, 0, 0, []), (.istore 4, 0, 0, []), (.iinc 5 1, 0, 0, []), (.goto 0, 23, 0, [])] (pc1 := 23) (ls1 := [some (vm_r th), some (vm_i v1), some (vm_i v2), some (vm_i v3), some (vm_i v5), some (vm_i (v5 + 1)), some (vm_i z1)]) (st1 := []) (m1 := m2) (ob := (true && decide (vm_32 (v5 + 1)))) (by decide +kernel) rfl (vm_t rfl o8_0) ?_
        exact h
    · replace h := h.2 c2
      refine vm_gp [(.iload 6, 0, 0, []), (.aload 0, 0, 0, []), (.getfield 0, 1, 5, [])] (pc1 := 55) (ls1 := [some (vm_r th), some (vm_i v1), some (vm_i v2), some (vm_i v3), some (vm_i v4), some (vm_i v5), some (vm_i z1)]) (st1 := [vm_i (m1 th 5), vm_i z1]) (m1 := m1) (ob := (true && vm_is th 1)) (by decide +kernel) rfl (vm_u rfl h_th) ?_
      refine vm_gj (c := z1 ≤ (m1 th 5)) (t := 61) (e := 58) (i := (.if_icmp .le 0, 61, 0, [])) (len := 3) (st1 := []) (by decide +kernel) rfl rfl (fun c4 => ?_) (fun c4 => ?_)
      · replace h := h.1 c4
        refine vm_gp [(.aload 0, 0, 0, []), (.iload 6, 0, 0, []), (.iload 5, 0, 0, []), (.iload 2, 0, 0, [])] (pc1 := 67) (ls1 := [some (vm_r th), some (vm_i v1), some (vm_i v2), some (vm_i v3), some (vm_i v4), some (vm_i v5), some (vm_i z1)]) (st1 := [vm_i v2, vm_i v5, vm_i z1, vm_r th]) (m1 := m1) (ob := true) (by decide +kernel) rfl rfl ?_
        refine vm_gc (g := 33) (na := 4) (av := [vm_r th, vm_i z1, vm_i v5, vm_i v2]) (rest := []) (i := (.invokevirtual 0, 33, 4, [])) (len := 3) (by decide +kernel) rfl rfl rfl (by decide +kernel) (by decide +kernel) rfl rfl (vm_u (vm_okh_v (c := 1) (by decide +kernel) h_th) (show vm_okn 33 4 0 0 0 4 = true by decide +kernel)) ?_
        refine vm_G.mono h ?_
        rintro _ m3 ⟨z3, rfl, h⟩
        show vm_G 32 70 [some (vm_r th), some (vm_i v1), some (vm_i v2), some (vm_i v3), some (vm_i v4), some (vm_i v5), some (vm_i z1)] [vm_i z3] m3 _
        refine vm_gp [(.iload 3, 0, 0, [])] (pc1 := 71) (ls1 := [some (vm_r th), some (vm_i v1), some (vm_i v2), some (vm_i v3), some (vm_i v4), some (vm_i v5), some (vm_i z1)]) (st1 := [vm_i v3, vm_i z3]) (m1 := m3) (ob := true) (by decide +kernel) rfl rfl ?_
        refine vm_gj (c := ¬ z3 = v3) (t := 78) (e := 74) (i := (.if_icmp .ne 0, 78, 0, [])) (len := 3) (st1 := []) (by decide +kernel) rfl rfl (fun c5 => ?_) (fun c5 => ?_)
        · replace h := h.1 c5
          obtain ⟨o12_0, h⟩ := h
          refine vm_gp [(.iinc 5 1, 0, 0, []), (.goto 0, 23, 0, [])] (pc1 := 23) (ls1 := [some (vm_r th), some (vm_i v1), some (vm_i v2), some (vm_i v3), some (vm_i v4), some (vm_i (v5 + 1)), some (vm_i z1)]) (st1 := []) (m1 := m3) (ob := (true && decide (vm_32 (v5 + 1)))) (by decide +kernel) rfl (vm_t rfl o12_0) ?_
          exact h
        · replace h := h.2 c5
          obtain ⟨o13_0, h⟩ := h
          refine vm_gp [(.iload 5, 0, 0, []), (.istore 4, 0, 0, []), (.iinc 5 1, 0, 0, []), (.goto 0, 23, 0, [])] (pc1 := 23) (ls1 := [some (vm_r th), some (vm_i v1), some (vm_i v2), some (vm_i v3), some (vm_i v5), some (vm_i (v5 + 1)), some (vm_i z1)]) (st1 := []) (m1 := m3) (ob := (true && decide (vm_32 (v5 + 1)))) (by decide +kernel) rfl (vm_t rfl o13_0) ?_
          exact h
      · replace h := h.2 c4
        refine vm_gp [(.goto 0, 84, 0, []), (.iload 4, 0, 0, [])] (pc1 := 86) (ls1 := [some (vm_r th), some (vm_i v1), some (vm_i v2), some (vm_i v3), some (vm_i v4), some (vm_i v5), some (vm_i z1)]) (st1 := [vm_i v4]) (m1 := m1) (ob := true) (by decide +kernel) rfl rfl ?_
        exact vm_gr (r := some (vm_i v4)) (i := (.ireturn, 1, 0, [])) (len := 1) (by decide +kernel) rfl rfl rfl ⟨_, rfl, h⟩
abbrev ku1_costThrough_0 (th : Nat) (v1 : Int) (v2 : Int) (v3 : Int) (m : vm_M) (Q : Int → vm_M → Prop) : Prop := vm_G 33 0 [some (vm_r th), some (vm_i v1), some (vm_i v2), some (vm_i v3), none] [] m (vm_qi Q)
set_option maxRecDepth 20000 in
theorem ru1_costThrough_0 {th : Nat} {v1 : Int} {v2 : Int} {v3 : Int} {m : vm_M} {Q : Int → vm_M → Prop} (h_th : vm_is th 1 = true) (h :
    ((vm_32 (v3 - 1)) ∧ (vm_32 ((v3 - 1) * 31)) ∧ (vm_32 (((v3 - 1) * 31) + v2)) ∧ (0 ≤ (((v3 - 1) * 31) + v2) ∧ (((v3 - 1) * 31) + v2) < 403)) ∧
    (((m (th + 4) (((v3 - 1) * 31) + v2)) = (-1) →
      Q (m (th + 4) (((v3 - 1) * 31) + v2)) m) ∧ (¬ (m (th + 4) (((v3 - 1) * 31) + v2)) = (-1) →
      ((¬ v2 = (m th 4) →
        (vm_C 27 [vm_r th, vm_i v1] m (vm_qi (fun z1 m1 =>
          ((vm_32 ((m (th + 4) (((v3 - 1) * 31) + v2)) + z1))) ∧
          Q ((m (th + 4) (((v3 - 1) * 31) + v2)) + z1) m1)))) ∧ (¬ ¬ v2 = (m th 4) →
        Q (m (th + 4) (((v3 - 1) * 31) + v2)) m))))) : vm_C 33 [vm_r th, vm_i v1, vm_i v2, vm_i v3] m (vm_qi Q) := by
  show vm_G 33 0 [some (vm_r th), some (vm_i v1), some (vm_i v2), some (vm_i v3), none] [] m (vm_qi Q)
  obtain ⟨⟨o1_0, o1_1, o1_2, o1_3⟩, h⟩ := h
  refine vm_gp [(.aload 0, 0, 0, []), (.getfield 2, 1, 3, [(4, 1)]), (.iload 3, 0, 0, []), (.iconst 1, 0, 0, []), (.isub, 0, 0, []), (.iconst 31, 0, 0, []), (.imul, 0, 0, []), (.iload 2, 0, 0, []), (.iadd, 0, 0, []), (.iaload, 403, 0, []), (.istore 4, 0, 0, []), (.iload 4, 0, 0, []), (.iconst (-1), 0, 0, [])] (pc1 := 18) (ls1 := [some (vm_r th), some (vm_i v1), some (vm_i v2), some (vm_i v3), some (vm_i (m (th + 4) (((v3 - 1) * 31) + v2)))]) (st1 := [vm_i (-1), vm_i (m (th + 4) (((v3 - 1) * 31) + v2))]) (m1 := m) (ob := (((((((true && vm_is th 1) && true) && decide (vm_32 (v3 - 1))) && decide (vm_32 ((v3 - 1) * 31))) && decide (vm_32 (((v3 - 1) * 31) + v2))) && vm_ar (th + 4) 100 403) && decide (0 ≤ (((v3 - 1) * 31) + v2) ∧ (((v3 - 1) * 31) + v2) < 403))) (by decide +kernel) rfl (vm_t (vm_u (vm_t (vm_t (vm_t (vm_u (vm_u rfl h_th) rfl) o1_0) o1_1) o1_2) (vm_is_ar 4 (by decide) h_th (by decide +kernel))) o1_3) ?_
  refine vm_gj (c := (m (th + 4) (((v3 - 1) * 31) + v2)) = (-1)) (t := 29) (e := 21) (i := (.if_icmp .eq 0, 29, 0, [])) (len := 3) (st1 := []) (by decide +kernel) rfl rfl (fun c1 => ?_) (fun c1 => ?_)
  · replace h := h.1 c1
    refine vm_gp [(.iload 4, 0, 0, [])] (pc1 := 31) (ls1 := [some (vm_r th), some (vm_i v1), some (vm_i v2), some (vm_i v3), some (vm_i (m (th + 4) (((v3 - 1) * 31) + v2)))]) (st1 := [vm_i (m (th + 4) (((v3 - 1) * 31) + v2))]) (m1 := m) (ob := true) (by decide +kernel) rfl rfl ?_
    exact vm_gr (r := some (vm_i (m (th + 4) (((v3 - 1) * 31) + v2)))) (i := (.ireturn, 1, 0, [])) (len := 1) (by decide +kernel) rfl rfl rfl ⟨_, rfl, h⟩
  · replace h := h.2 c1
    refine vm_gp [(.iload 2, 0, 0, []), (.aload 0, 0, 0, []), (.getfield 0, 1, 4, [])] (pc1 := 26) (ls1 := [some (vm_r th), some (vm_i v1), some (vm_i v2), some (vm_i v3), some (vm_i (m (th + 4) (((v3 - 1) * 31) + v2)))]) (st1 := [vm_i (m th 4), vm_i v2]) (m1 := m) (ob := (true && vm_is th 1)) (by decide +kernel) rfl (vm_u rfl h_th) ?_
    refine vm_gj (c := ¬ v2 = (m th 4)) (t := 32) (e := 29) (i := (.if_icmp .ne 0, 32, 0, [])) (len := 3) (st1 := []) (by decide +kernel) rfl rfl (fun c2 => ?_) (fun c2 => ?_)
    · replace h := h.1 c2
      refine vm_gp [(.iload 4, 0, 0, []), (.aload 0, 0, 0, []), (.iload 1, 0, 0, [])] (pc1 := 36) (ls1 := [some (vm_r th), some (vm_i v1), some (vm_i v2), some (vm_i v3), some (vm_i (m (th + 4) (((v3 - 1) * 31) + v2)))]) (st1 := [vm_i v1, vm_r th, vm_i (m (th + 4) (((v3 - 1) * 31) + v2))]) (m1 := m) (ob := true) (by decide +kernel) rfl rfl ?_
      refine vm_gc (g := 27) (na := 2) (av := [vm_r th, vm_i v1]) (rest := [vm_i (m (th + 4) (((v3 - 1) * 31) + v2))]) (i := (.invokevirtual 0, 27, 2, [])) (len := 3) (by decide +kernel) rfl rfl rfl (by decide +kernel) (by decide +kernel) rfl rfl (vm_u (vm_okh_v (c := 1) (by decide +kernel) h_th) (show vm_okn 27 2 1 0 0 2 = true by decide +kernel)) ?_
      refine vm_G.mono h ?_
      rintro _ m1 ⟨z1, rfl, h⟩
      show vm_G 33 39 [some (vm_r th), some (vm_i v1), some (vm_i v2), some (vm_i v3), some (vm_i (m (th + 4) (((v3 - 1) * 31) + v2)))] [vm_i z1, vm_i (m (th + 4) (((v3 - 1) * 31) + v2))] m1 _
      obtain ⟨o5_0, h⟩ := h
      refine vm_gp [(.iadd, 0, 0, [])] (pc1 := 40) (ls1 := [some (vm_r th), some (vm_i v1), some (vm_i v2), some (vm_i v3), some (vm_i (m (th + 4) (((v3 - 1) * 31) + v2)))]) (st1 := [vm_i ((m (th + 4) (((v3 - 1) * 31) + v2)) + z1)]) (m1 := m1) (ob := (true && decide (vm_32 ((m (th + 4) (((v3 - 1) * 31) + v2)) + z1)))) (by decide +kernel) rfl (vm_t rfl o5_0) ?_
      exact vm_gr (r := some (vm_i ((m (th + 4) (((v3 - 1) * 31) + v2)) + z1))) (i := (.ireturn, 1, 0, [])) (len := 1) (by decide +kernel) rfl rfl rfl ⟨_, rfl, h⟩
    · replace h := h.2 c2
      refine vm_gp [(.iload 4, 0, 0, [])] (pc1 := 31) (ls1 := [some (vm_r th), some (vm_i v1), some (vm_i v2), some (vm_i v3), some (vm_i (m (th + 4) (((v3 - 1) * 31) + v2)))]) (st1 := [vm_i (m (th + 4) (((v3 - 1) * 31) + v2))]) (m1 := m) (ob := true) (by decide +kernel) rfl rfl ?_
      exact vm_gr (r := some (vm_i (m (th + 4) (((v3 - 1) * 31) + v2)))) (i := (.ireturn, 1, 0, [])) (len := 1) (by decide +kernel) rfl rfl rfl ⟨_, rfl, h⟩
abbrev ku2_remember_0 (o1 : Nat) (m : vm_M) (Q : vm_M → Prop) : Prop := vm_G 35 0 [some (vm_r 21), some (vm_r o1)] [] m (vm_qv Q)
set_option maxRecDepth 20000 in
theorem ru2_remember_0 {o1 : Nat} {m : vm_M} {Q : vm_M → Prop} (h_o1 : vm_is o1 4 = true) (h :
    ((0 ≤ (m 21 1) ∧ (m 21 1) < 8)) ∧
    ((0 ≤ (m 21 1) ∧ (m 21 1) < 8)) ∧
    (vm_C 54 [vm_r (23 + 5 * ((m 21 1)).toNat), vm_r o1] m (vm_qv (fun m1 =>
      ((vm_32 ((m1 21 1) + 1)) ∧ (0 ≤ ((m1 21 1) + 1) ∧ (0 : Int) < 8) ∧ (vm_32 (((vm_st m1 21 1 (((m1 21 1) + 1) % 8)) 21 2) + 1))) ∧
      Q (vm_st (vm_st m1 21 1 (((m1 21 1) + 1) % 8)) 21 2 (if (((vm_st m1 21 1 (((m1 21 1) + 1) % 8)) 21 2) + 1) < 8 then (((vm_st m1 21 1 (((m1 21 1) + 1) % 8)) 21 2) + 1) else 8)))))) : vm_C 35 [vm_r 21, vm_r o1] m (vm_qv Q) := by
  show vm_G 35 0 [some (vm_r 21), some (vm_r o1)] [] m (vm_qv Q)
  obtain ⟨o1_0, h⟩ := h
  refine vm_gp [(.aload 0, 0, 0, []), (.getfield 2, 2, 0, [(22, 0)]), (.aload 0, 0, 0, []), (.getfield 0, 2, 1, []), (.aaload, 8, 22, [(23, 0)])] (pc1 := 9) (ls1 := [some (vm_r 21), some (vm_r o1)]) (st1 := [vm_r (23 + 5 * ((m 21 1)).toNat)]) (m1 := m) (ob := ((((((true && vm_is 21 2) && true) && vm_is 21 2) && decide (22 = 22)) && decide (0 ≤ (m 21 1) ∧ (m 21 1) < 8)) && true)) (by decide +kernel) rfl (vm_u (vm_t (vm_t (vm_u (vm_u (vm_u rfl (by decide +kernel)) rfl) (by decide +kernel)) rfl) o1_0) rfl) ?_
  refine vm_gj1 (i := (.ifnull 0, 25, 0, [])) (len := 3) (t := 12) (st1 := []) (by decide +kernel) rfl rfl ?_
  obtain ⟨o2_0, h⟩ := h
  refine vm_gp [(.aload 0, 0, 0, []), (.getfield 2, 2, 0, [(22, 0)]), (.aload 0, 0, 0, []), (.getfield 0, 2, 1, []), (.aaload, 8, 22, [(23, 0)]), (.aload 1, 0, 0, [])] (pc1 := 22) (ls1 := [some (vm_r 21), some (vm_r o1)]) (st1 := [vm_r o1, vm_r (23 + 5 * ((m 21 1)).toNat)]) (m1 := m) (ob := ((((((true && vm_is 21 2) && true) && vm_is 21 2) && decide (22 = 22)) && decide (0 ≤ (m 21 1) ∧ (m 21 1) < 8)) && true)) (by decide +kernel) rfl (vm_u (vm_t (vm_t (vm_u (vm_u (vm_u rfl (by decide +kernel)) rfl) (by decide +kernel)) rfl) o2_0) rfl) ?_
  refine vm_gc (g := 54) (na := 2) (av := [vm_r (23 + 5 * ((m 21 1)).toNat), vm_r o1]) (rest := []) (i := (.invokevirtual 0, 54, 2, [])) (len := 3) (by decide +kernel) rfl rfl rfl (by decide +kernel) (by decide +kernel) rfl rfl (vm_u (vm_okh_v (c := 4) (by decide +kernel) (vm_is_st 8 o2_0 (by decide +kernel))) (show vm_okn 54 2 0 0 0 2 = true by decide +kernel)) ?_
  refine vm_G.mono h ?_
  rintro _ m1 ⟨rfl, h⟩
  show vm_G 35 25 [some (vm_r 21), some (vm_r o1)] [] m1 _
  obtain ⟨⟨o3_0, o3_1, o3_2⟩, h⟩ := h
  refine vm_gp [(.aload 0, 0, 0, []), (.aload 0, 0, 0, []), (.getfield 0, 2, 1, []), (.iconst 1, 0, 0, []), (.iadd, 0, 0, []), (.iconst 8, 0, 0, []), (.irem, 0, 0, []), (.putfield 0, 2, 1, []), (.aload 0, 0, 0, []), (.iconst 8, 0, 0, []), (.aload 0, 0, 0, []), (.getfield 0, 2, 2, []), (.iconst 1, 0, 0, []), (.iadd, 0, 0, []), (.invokestatic 0, 1001, 0, []), (.putfield 0, 2, 2, [])] (pc1 := 53) (ls1 := [some (vm_r 21), some (vm_r o1)]) (st1 := []) (m1 := (vm_st (vm_st m1 21 1 (((m1 21 1) + 1) % 8)) 21 2 (if (((vm_st m1 21 1 (((m1 21 1) + 1) % 8)) 21 2) + 1) < 8 then (((vm_st m1 21 1 (((m1 21 1) + 1) % 8)) 21 2) + 1) else 8))) (ob := ((((((((true && vm_is 21 2) && decide (vm_32 ((m1 21 1) + 1))) && decide (0 ≤ ((m1 21 1) + 1) ∧ (0 : Int) < 8)) && vm_is 21 2) && vm_is 21 2) && decide (vm_32 (((vm_st m1 21 1 (((m1 21 1) + 1) % 8)) 21 2) + 1))) && decide (vm_cats [vm_r 21] ≤ 8)) && vm_is 21 2)) (by decide +kernel) rfl (vm_u (vm_t (vm_t (vm_u (vm_u (vm_t (vm_t (vm_u rfl (by decide +kernel)) o3_0) o3_1) (by decide +kernel)) (by decide +kernel)) o3_2) (by decide : (1 : Nat) ≤ 8)) (by decide +kernel)) ?_
  exact vm_gr (r := none) (i := (.return_, 0, 0, [])) (len := 1) (by decide +kernel) rfl rfl rfl ⟨rfl, h⟩
abbrev ku2_bringBack_0 (o1 : Nat) (m : vm_M) (Q : vm_M → Prop) : Prop := vm_G 36 0 [some (vm_r 21), some (vm_r o1)] [] m (vm_qv Q)
set_option maxRecDepth 20000 in
theorem ru2_bringBack_0 {o1 : Nat} {m : vm_M} {Q : vm_M → Prop} (h_o1 : vm_is o1 4 = true) (h :
    ((vm_32 ((m 21 1) + 8)) ∧ (vm_32 (((m 21 1) + 8) - 1)) ∧ (0 ≤ (((m 21 1) + 8) - 1) ∧ (0 : Int) < 8) ∧ (vm_32 (((vm_st m 21 1 ((((m 21 1) + 8) - 1) % 8)) 21 2) - 1)) ∧ (0 ≤ ((vm_st (vm_st m 21 1 ((((m 21 1) + 8) - 1) % 8)) 21 2 (((vm_st m 21 1 ((((m 21 1) + 8) - 1) % 8)) 21 2) - 1)) 21 1) ∧ ((vm_st (vm_st m 21 1 ((((m 21 1) + 8) - 1) % 8)) 21 2 (((vm_st m 21 1 ((((m 21 1) + 8) - 1) % 8)) 21 2) - 1)) 21 1) < 8)) ∧
    ((0 ≤ ((vm_st (vm_st m 21 1 ((((m 21 1) + 8) - 1) % 8)) 21 2 (((vm_st m 21 1 ((((m 21 1) + 8) - 1) % 8)) 21 2) - 1)) 21 1) ∧ ((vm_st (vm_st m 21 1 ((((m 21 1) + 8) - 1) % 8)) 21 2 (((vm_st m 21 1 ((((m 21 1) + 8) - 1) % 8)) 21 2) - 1)) 21 1) < 8)) ∧
    (vm_C 54 [vm_r o1, vm_r (23 + 5 * (((vm_st (vm_st m 21 1 ((((m 21 1) + 8) - 1) % 8)) 21 2 (((vm_st m 21 1 ((((m 21 1) + 8) - 1) % 8)) 21 2) - 1)) 21 1)).toNat)] (vm_st (vm_st m 21 1 ((((m 21 1) + 8) - 1) % 8)) 21 2 (((vm_st m 21 1 ((((m 21 1) + 8) - 1) % 8)) 21 2) - 1)) (vm_qv (fun m1 =>
      Q m1)))) : vm_C 36 [vm_r 21, vm_r o1] m (vm_qv Q) := by
  show vm_G 36 0 [some (vm_r 21), some (vm_r o1)] [] m (vm_qv Q)
  obtain ⟨⟨o1_0, o1_1, o1_2, o1_3, o1_4⟩, h⟩ := h
  refine vm_gp [(.aload 0, 0, 0, []), (.aload 0, 0, 0, []), (.getfield 0, 2, 1, []), (.iconst 8, 0, 0, []), (.iadd, 0, 0, []), (.iconst 1, 0, 0, []), (.isub, 0, 0, []), (.iconst 8, 0, 0, []), (.irem, 0, 0, []), (.putfield 0, 2, 1, []), (.aload 0, 0, 0, []), (.dup, 0, 0, []), (.getfield 0, 2, 2, []), (.iconst 1, 0, 0, []), (.isub, 0, 0, []), (.putfield 0, 2, 2, []), (.aload 0, 0, 0, []), (.getfield 2, 2, 0, [(22, 0)]), (.aload 0, 0, 0, []), (.getfield 0, 2, 1, []), (.aaload, 8, 22, [(23, 0)])] (pc1 := 35) (ls1 := [some (vm_r 21), some (vm_r o1)]) (st1 := [vm_r (23 + 5 * (((vm_st (vm_st m 21 1 ((((m 21 1) + 8) - 1) % 8)) 21 2 (((vm_st m 21 1 ((((m 21 1) + 8) - 1) % 8)) 21 2) - 1)) 21 1)).toNat)]) (m1 := (vm_st (vm_st m 21 1 ((((m 21 1) + 8) - 1) % 8)) 21 2 (((vm_st m 21 1 ((((m 21 1) + 8) - 1) % 8)) 21 2) - 1))) (ob := ((((((((((((((true && vm_is 21 2) && decide (vm_32 ((m 21 1) + 8))) && decide (vm_32 (((m 21 1) + 8) - 1))) && decide (0 ≤ (((m 21 1) + 8) - 1) ∧ (0 : Int) < 8)) && vm_is 21 2) && vm_is 21 2) && decide (vm_32 (((vm_st m 21 1 ((((m 21 1) + 8) - 1) % 8)) 21 2) - 1))) && vm_is 21 2) && vm_is 21 2) && true) && vm_is 21 2) && decide (22 = 22)) && decide (0 ≤ ((vm_st (vm_st m 21 1 ((((m 21 1) + 8) - 1) % 8)) 21 2 (((vm_st m 21 1 ((((m 21 1) + 8) - 1) % 8)) 21 2) - 1)) 21 1) ∧ ((vm_st (vm_st m 21 1 ((((m 21 1) + 8) - 1) % 8)) 21 2 (((vm_st m 21 1 ((((m 21 1) + 8) - 1) % 8)) 21 2) - 1)) 21 1) < 8)) && true)) (by decide +kernel) rfl (vm_u (vm_t (vm_t (vm_u (vm_u (vm_u (vm_u (vm_t (vm_u (vm_u (vm_t (vm_t (vm_t (vm_u rfl (by decide +kernel)) o1_0) o1_1) o1_2) (by decide +kernel)) (by decide +kernel)) o1_3) (by decide +kernel)) (by decide +kernel)) rfl) (by decide +kernel)) rfl) o1_4) rfl) ?_
  refine vm_gj1 (i := (.ifnull 0, 51, 0, [])) (len := 3) (t := 38) (st1 := []) (by decide +kernel) rfl rfl ?_
  obtain ⟨o2_0, h⟩ := h
  refine vm_gp [(.aload 1, 0, 0, []), (.aload 0, 0, 0, []), (.getfield 2, 2, 0, [(22, 0)]), (.aload 0, 0, 0, []), (.getfield 0, 2, 1, []), (.aaload, 8, 22, [(23, 0)])] (pc1 := 48) (ls1 := [some (vm_r 21), some (vm_r o1)]) (st1 := [vm_r (23 + 5 * (((vm_st (vm_st m 21 1 ((((m 21 1) + 8) - 1) % 8)) 21 2 (((vm_st m 21 1 ((((m 21 1) + 8) - 1) % 8)) 21 2) - 1)) 21 1)).toNat), vm_r o1]) (m1 := (vm_st (vm_st m 21 1 ((((m 21 1) + 8) - 1) % 8)) 21 2 (((vm_st m 21 1 ((((m 21 1) + 8) - 1) % 8)) 21 2) - 1))) (ob := ((((((true && vm_is 21 2) && true) && vm_is 21 2) && decide (22 = 22)) && decide (0 ≤ ((vm_st (vm_st m 21 1 ((((m 21 1) + 8) - 1) % 8)) 21 2 (((vm_st m 21 1 ((((m 21 1) + 8) - 1) % 8)) 21 2) - 1)) 21 1) ∧ ((vm_st (vm_st m 21 1 ((((m 21 1) + 8) - 1) % 8)) 21 2 (((vm_st m 21 1 ((((m 21 1) + 8) - 1) % 8)) 21 2) - 1)) 21 1) < 8)) && true)) (by decide +kernel) rfl (vm_u (vm_t (vm_t (vm_u (vm_u (vm_u rfl (by decide +kernel)) rfl) (by decide +kernel)) rfl) o2_0) rfl) ?_
  refine vm_gc (g := 54) (na := 2) (av := [vm_r o1, vm_r (23 + 5 * (((vm_st (vm_st m 21 1 ((((m 21 1) + 8) - 1) % 8)) 21 2 (((vm_st m 21 1 ((((m 21 1) + 8) - 1) % 8)) 21 2) - 1)) 21 1)).toNat)]) (rest := []) (i := (.invokevirtual 0, 54, 2, [])) (len := 3) (by decide +kernel) rfl rfl rfl (by decide +kernel) (by decide +kernel) rfl rfl (vm_u (vm_okh_v (c := 4) (by decide +kernel) h_o1) (show vm_okn 54 2 0 0 0 2 = true by decide +kernel)) ?_
  refine vm_G.mono h ?_
  rintro _ m1 ⟨rfl, h⟩
  show vm_G 36 51 [some (vm_r 21), some (vm_r o1)] [] m1 _
  exact vm_gr (r := none) (i := (.return_, 0, 0, [])) (len := 1) (by decide +kernel) rfl rfl rfl ⟨rfl, h⟩
abbrev ku2_forget_0  (m : vm_M) (Q : vm_M → Prop) : Prop := vm_G 37 0 [some (vm_r 21)] [] m (vm_qv Q)
set_option maxRecDepth 20000 in
theorem ru2_forget_0  {m : vm_M} {Q : vm_M → Prop}  (h :
    Q (vm_st m 21 2 0)) : vm_C 37 [vm_r 21] m (vm_qv Q) := by
  show vm_G 37 0 [some (vm_r 21)] [] m (vm_qv Q)
  refine vm_gp [(.aload 0, 0, 0, []), (.iconst 0, 0, 0, []), (.putfield 0, 2, 2, [])] (pc1 := 5) (ls1 := [some (vm_r 21)]) (st1 := []) (m1 := (vm_st m 21 2 0)) (ob := (true && vm_is 21 2)) (by decide +kernel) rfl (vm_u rfl (by decide +kernel)) ?_
  exact vm_gr (r := none) (i := (.return_, 0, 0, [])) (len := 1) (by decide +kernel) rfl rfl rfl ⟨rfl, h⟩
abbrev ku3_renew_0  (m : vm_M) (Q : vm_M → Prop) : Prop := vm_G 39 0 [some (vm_r 77), none, none, none, none] [] m (vm_qv Q)
abbrev ku3_renew_2 (v1 : Int) (w2 : Option vm_V) (w3 : Option vm_V) (w4 : Option vm_V) (m : vm_M) (Q : vm_M → Prop) : Prop := vm_G 39 2 [some (vm_r 77), some (vm_i v1), w2, w3, w4] [] m (vm_qv Q)
abbrev ku3_renew_38 (v1 : Int) (v2 : Int) (v3 : Int) (v4 : Int) (m : vm_M) (Q : vm_M → Prop) : Prop := vm_G 39 38 [some (vm_r 77), some (vm_i v1), some (vm_i v2), some (vm_i v3), some (vm_i v4)] [] m (vm_qv Q)
set_option maxRecDepth 20000 in
theorem ru3_renew_0  {m : vm_M} {Q : vm_M → Prop}  (h :
    ku3_renew_2 0 none none none m Q) : vm_C 39 [vm_r 77] m (vm_qv Q) := by
  show vm_G 39 0 [some (vm_r 77), none, none, none, none] [] m (vm_qv Q)
  refine vm_gp [(.iconst 0, 0, 0, []), (.istore 1, 0, 0, [])] (pc1 := 2) (ls1 := [some (vm_r 77), some (vm_i 0), none, none, none]) (st1 := []) (m1 := m) (ob := true) (by decide +kernel) rfl rfl ?_
  exact h
set_option maxRecDepth 20000 in
theorem ru3_renew_2 {v1 : Int} {w2 : Option vm_V} {w3 : Option vm_V} {w4 : Option vm_V} {m : vm_M} {Q : vm_M → Prop}  (h :
    (((m 67 8) ≤ v1 →
      Q m) ∧ (¬ (m 67 8) ≤ v1 →
      (vm_C 51 [vm_r 77, vm_i v1] m (vm_qv (fun m1 =>
        ((0 ≤ v1 ∧ v1 < 13) ∧ (0 ≤ v1 ∧ v1 < 12)) ∧
        ku3_renew_38 v1 (m1 70 v1) (m1 80 v1) (m1 70 v1) m1 Q)))))) : ku3_renew_2 v1 w2 w3 w4 m Q := by
  show vm_G 39 2 [some (vm_r 77), some (vm_i v1), w2, w3, w4] [] m (vm_qv Q)
  refine vm_gp [(.iload 1, 0, 0, []), (.aload 0, 0, 0, []), (.getfield 2, 3, 3, [(67, 0)]), (.getfield 0, 1, 8, [])] (pc1 := 10) (ls1 := [some (vm_r 77), some (vm_i v1), w2, w3, w4]) (st1 := [vm_i (m 67 8), vm_i v1]) (m1 := m) (ob := (((true && vm_is 77 3) && true) && vm_is 67 1)) (by decide +kernel) rfl (vm_u (vm_u (vm_u rfl (by decide +kernel)) rfl) (by decide +kernel)) ?_
  refine vm_gj (c := (m 67 8) ≤ v1) (t := 119) (e := 13) (i := (.if_icmp .ge 0, 119, 0, [])) (len := 3) (st1 := []) (by decide +kernel) rfl rfl (fun c1 => ?_) (fun c1 => ?_)
  · replace h := h.1 c1
    exact vm_gr (r := none) (i := (.return_, 0, 0, [])) (len := 1) (by decide +kernel) rfl rfl rfl ⟨rfl, h⟩
  · replace h := h.2 c1
    refine vm_gp [(.aload 0, 0, 0, []), (.iload 1, 0, 0, [])] (pc1 := 15) (ls1 := [some (vm_r 77), some (vm_i v1), w2, w3, w4]) (st1 := [vm_i v1, vm_r 77]) (m1 := m) (ob := true) (by decide +kernel) rfl rfl ?_
    refine vm_gc (g := 51) (na := 2) (av := [vm_r 77, vm_i v1]) (rest := []) (i := (.invokevirtual 0, 51, 2, [])) (len := 3) (by decide +kernel) rfl rfl rfl (by decide +kernel) (by decide +kernel) rfl rfl (vm_u (vm_okh_v (c := 3) (by decide +kernel) (by decide +kernel)) (show vm_okn 51 2 0 0 0 2 = true by decide +kernel)) ?_
    refine vm_G.mono h ?_
    rintro _ m1 ⟨rfl, h⟩
    show vm_G 39 18 [some (vm_r 77), some (vm_i v1), w2, w3, w4] [] m1 _
    obtain ⟨⟨o4_0, o4_1⟩, h⟩ := h
    refine vm_gp [(.aload 0, 0, 0, []), (.getfield 2, 3, 3, [(67, 0)]), (.getfield 2, 1, 2, [(3, 1)]), (.iload 1, 0, 0, []), (.iaload, 13, 0, []), (.istore 2, 0, 0, []), (.aload 0, 0, 0, []), (.getfield 2, 3, 6, [(80, 0)]), (.iload 1, 0, 0, []), (.iaload, 12, 0, []), (.istore 3, 0, 0, []), (.iload 2, 0, 0, []), (.istore 4, 0, 0, [])] (pc1 := 38) (ls1 := [some (vm_r 77), some (vm_i v1), some (vm_i (m1 70 v1)), some (vm_i (m1 80 v1)), some (vm_i (m1 70 v1))]) (st1 := []) (m1 := m1) (ob := ((((((((((true && vm_is 77 3) && true) && vm_is 67 1) && true) && vm_ar 70 100 13) && decide (0 ≤ v1 ∧ v1 < 13)) && vm_is 77 3) && true) && vm_ar 80 100 12) && decide (0 ≤ v1 ∧ v1 < 12))) (by decide +kernel) rfl (vm_t (vm_u (vm_u (vm_u (vm_t (vm_u (vm_u (vm_u (vm_u (vm_u rfl (by decide +kernel)) rfl) (by decide +kernel)) rfl) (by decide +kernel)) o4_0) (by decide +kernel)) rfl) (by decide +kernel)) o4_1) ?_
    exact h
set_option maxRecDepth 20000 in
theorem ru3_renew_38 {v1 : Int} {v2 : Int} {v3 : Int} {v4 : Int} {m : vm_M} {Q : vm_M → Prop}  (h :
    ((vm_32 (v1 + 1)) ∧ (0 ≤ (v1 + 1) ∧ (v1 + 1) < 13)) ∧
    (((m 70 (v1 + 1)) ≤ v4 →
      ((vm_32 (v1 + 1))) ∧
      ku3_renew_2 (v1 + 1) (some (vm_i v2)) (some (vm_i v3)) (some (vm_i v4)) m Q) ∧ (¬ (m 70 (v1 + 1)) ≤ v4 →
      ((0 ≤ v1 ∧ v1 < 12)) ∧
      (vm_C 52 [vm_r 77, vm_i v4, vm_i (m 78 v1), vm_i v3] m (vm_qv (fun m1 =>
        ((0 ≤ v1 ∧ v1 < 12)) ∧
        (vm_C 96 [vm_r 65, vm_i v4, vm_i (m1 78 v1)] m1 (vm_qi (fun z2 m2 =>
          ((vm_32 (z2 * (m2 10 5))) ∧ (vm_32 (v3 + (z2 * (m2 10 5)))) ∧ (vm_32 (v4 - v2))) ∧
          (vm_C 42 [vm_r 77, vm_i v1, vm_i (v4 - v2)] m2 (vm_qi (fun z3 m3 =>
            ((vm_32 ((v3 + (z2 * (m2 10 5))) + z3)) ∧ (vm_32 (v4 + 1))) ∧
            ku3_renew_38 v1 v2 ((v3 + (z2 * (m2 10 5))) + z3) (v4 + 1) m3 Q)))))))))))) : ku3_renew_38 v1 v2 v3 v4 m Q := by
  show vm_G 39 38 [some (vm_r 77), some (vm_i v1), some (vm_i v2), some (vm_i v3), some (vm_i v4)] [] m (vm_qv Q)
  obtain ⟨⟨o1_0, o1_1⟩, h⟩ := h
  refine vm_gp [(.iload 4, 0, 0, []), (.aload 0, 0, 0, []), (.getfield 2, 3, 3, [(67, 0)]), (.getfield 2, 1, 2, [(3, 1)]), (.iload 1, 0, 0, []), (.iconst 1, 0, 0, []), (.iadd, 0, 0, []), (.iaload, 13, 0, [])] (pc1 := 51) (ls1 := [some (vm_r 77), some (vm_i v1), some (vm_i v2), some (vm_i v3), some (vm_i v4)]) (st1 := [vm_i (m 70 (v1 + 1)), vm_i v4]) (m1 := m) (ob := (((((((true && vm_is 77 3) && true) && vm_is 67 1) && true) && decide (vm_32 (v1 + 1))) && vm_ar 70 100 13) && decide (0 ≤ (v1 + 1) ∧ (v1 + 1) < 13))) (by decide +kernel) rfl (vm_t (vm_u (vm_t (vm_u (vm_u (vm_u (vm_u rfl (by decide +kernel)) rfl) (by decide +kernel)) rfl) o1_0) (by decide +kernel)) o1_1) ?_
  refine vm_gj (c := (m 70 (v1 + 1)) ≤ v4) (t := 113) (e := 54) (i := (.if_icmp .ge 0, 113, 0, [])) (len := 3) (st1 := []) (by decide +kernel) rfl rfl (fun c1 => ?_) (fun c1 => ?_)
  · replace h := h.1 c1
    obtain ⟨o2_0, h⟩ := h
    refine vm_gp [(.iinc 1 1, 0, 0, []), (.goto 0, 2, 0, [])] (pc1 := 2) (ls1 := [some (vm_r 77), some (vm_i (v1 + 1)), some (vm_i v2), some (vm_i v3), some (vm_i v4)]) (st1 := []) (m1 := m) (ob := (true && decide (vm_32 (v1 + 1)))) (by decide +kernel) rfl (vm_t rfl o2_0) ?_
    exact h
  · replace h := h.2 c1
    obtain ⟨o3_0, h⟩ := h
    refine vm_gp [(.aload 0, 0, 0, []), (.iload 4, 0, 0, []), (.aload 0, 0, 0, []), (.getfield 2, 3, 4, [(78, 0)]), (.iload 1, 0, 0, []), (.iaload, 12, 0, []), (.iload 3, 0, 0, [])] (pc1 := 64) (ls1 := [some (vm_r 77), some (vm_i v1), some (vm_i v2), some (vm_i v3), some (vm_i v4)]) (st1 := [vm_i v3, vm_i (m 78 v1), vm_i v4, vm_r 77]) (m1 := m) (ob := ((((true && vm_is 77 3) && true) && vm_ar 78 100 12) && decide (0 ≤ v1 ∧ v1 < 12))) (by decide +kernel) rfl (vm_t (vm_u (vm_u (vm_u rfl (by decide +kernel)) rfl) (by decide +kernel)) o3_0) ?_
    refine vm_gc (g := 52) (na := 4) (av := [vm_r 77, vm_i v4, vm_i (m 78 v1), vm_i v3]) (rest := []) (i := (.invokevirtual 0, 52, 4, [])) (len := 3) (by decide +kernel) rfl rfl rfl (by decide +kernel) (by decide +kernel) rfl rfl (vm_u (vm_okh_v (c := 3) (by decide +kernel) (by decide +kernel)) (show vm_okn 52 4 0 0 0 4 = true by decide +kernel)) ?_
    refine vm_G.mono h ?_
    rintro _ m1 ⟨rfl, h⟩
    show vm_G 39 67 [some (vm_r 77), some (vm_i v1), some (vm_i v2), some (vm_i v3), some (vm_i v4)] [] m1 _
    obtain ⟨o4_0, h⟩ := h
    refine vm_gp [(.iload 3, 0, 0, []), (.aload 0, 0, 0, []), (.getfield 2, 3, 2, [(65, 0)]), (.iload 4, 0, 0, []), (.aload 0, 0, 0, []), (.getfield 2, 3, 4, [(78, 0)]), (.iload 1, 0, 0, []), (.iaload, 12, 0, [])] (pc1 := 80) (ls1 := [some (vm_r 77), some (vm_i v1), some (vm_i v2), some (vm_i v3), some (vm_i v4)]) (st1 := [vm_i (m1 78 v1), vm_i v4, vm_r 65, vm_i v3]) (m1 := m1) (ob := ((((((true && vm_is 77 3) && true) && vm_is 77 3) && true) && vm_ar 78 100 12) && decide (0 ≤ v1 ∧ v1 < 12))) (by decide +kernel) rfl (vm_t (vm_u (vm_u (vm_u (vm_u (vm_u rfl (by decide +kernel)) rfl) (by decide +kernel)) rfl) (by decide +kernel)) o4_0) ?_
    refine vm_gc (g := 96) (na := 3) (av := [vm_r 65, vm_i v4, vm_i (m1 78 v1)]) (rest := [vm_i v3]) (i := (.invokevirtual 0, 96, 3, [])) (len := 3) (by decide +kernel) rfl rfl rfl (by decide +kernel) (by decide +kernel) rfl rfl (vm_u (vm_okh_v (c := 9) (by decide +kernel) (by decide +kernel)) (show vm_okn 96 3 1 0 0 3 = true by decide +kernel)) ?_
    refine vm_G.mono h ?_
    rintro _ m2 ⟨z2, rfl, h⟩
    show vm_G 39 83 [some (vm_r 77), some (vm_i v1), some (vm_i v2), some (vm_i v3), some (vm_i v4)] [vm_i z2, vm_i v3] m2 _
    obtain ⟨⟨o5_0, o5_1, o5_2⟩, h⟩ := h
    refine vm_gp [(.aload 0, 0, 0, []), (.getfield 2, 3, 1, [(9, 0)]), (.getfield 2, 4, 0, [(1, 1)]), (.iconst 5, 0, 0, []), (.iaload, 6, 0, []), (.imul, 0, 0, []), (.iadd, 0, 0, []), (.istore 3, 0, 0, []), (.iload 3, 0, 0, []), (.aload 0, 0, 0, []), (.iload 1, 0, 0, []), (.iload 4, 0, 0, []), (.iload 2, 0, 0, []), (.isub, 0, 0, [])] (pc1 := 102) (ls1 := [some (vm_r 77), some (vm_i v1), some (vm_i v2), some (vm_i (v3 + (z2 * (m2 10 5)))), some (vm_i v4)]) (st1 := [vm_i (v4 - v2), vm_i v1, vm_r 77, vm_i (v3 + (z2 * (m2 10 5)))]) (m1 := m2) (ob := (((((((((true && vm_is 77 3) && true) && vm_is 9 4) && true) && vm_ar 10 100 6) && decide ((0 : Int) ≤ 5 ∧ (5 : Int) < 6)) && decide (vm_32 (z2 * (m2 10 5)))) && decide (vm_32 (v3 + (z2 * (m2 10 5))))) && decide (vm_32 (v4 - v2)))) (by decide +kernel) rfl (vm_t (vm_t (vm_t (vm_t (vm_u (vm_u (vm_u (vm_u (vm_u rfl (by decide +kernel)) rfl) (by decide +kernel)) rfl) (by decide +kernel)) (by decide)) o5_0) o5_1) o5_2) ?_
    refine vm_gc (g := 42) (na := 3) (av := [vm_r 77, vm_i v1, vm_i (v4 - v2)]) (rest := [vm_i (v3 + (z2 * (m2 10 5)))]) (i := (.invokevirtual 0, 42, 3, [])) (len := 3) (by decide +kernel) rfl rfl rfl (by decide +kernel) (by decide +kernel) rfl rfl (vm_u (vm_okh_v (c := 3) (by decide +kernel) (by decide +kernel)) (show vm_okn 42 3 1 0 0 3 = true by decide +kernel)) ?_
    refine vm_G.mono h ?_
    rintro _ m3 ⟨z3, rfl, h⟩
    show vm_G 39 105 [some (vm_r 77), some (vm_i v1), some (vm_i v2), some (vm_i (v3 + (z2 * (m2 10 5)))), some (vm_i v4)] [vm_i z3, vm_i (v3 + (z2 * (m2 10 5)))] m3 _
    obtain ⟨⟨o6_0, o6_1⟩, h⟩ := h
    refine vm_gp [(.iadd, 0, 0, []), (.istore 3, 0, 0, []), (.iinc 4 1, 0, 0, []), (.goto 0, 38, 0, [])] (pc1 := 38) (ls1 := [some (vm_r 77), some (vm_i v1), some (vm_i v2), some (vm_i ((v3 + (z2 * (m2 10 5))) + z3)), some (vm_i (v4 + 1))]) (st1 := []) (m1 := m3) (ob := ((true && decide (vm_32 ((v3 + (z2 * (m2 10 5))) + z3))) && decide (vm_32 (v4 + 1)))) (by decide +kernel) rfl (vm_t (vm_t rfl o6_0) o6_1) ?_
    exact h
abbrev ku3_greatestGap_0 (v1 : Int) (m : vm_M) (Q : Int → vm_M → Prop) : Prop := vm_G 40 0 [some (vm_r 77), some (vm_i v1), none] [] m (vm_qi Q)
abbrev ku3_greatestGap_8 (v1 : Int) (v2 : Int) (m : vm_M) (Q : Int → vm_M → Prop) : Prop := vm_G 40 8 [some (vm_r 77), some (vm_i v1), some (vm_i v2)] [] m (vm_qi Q)
set_option maxRecDepth 20000 in
theorem ru3_greatestGap_0 {v1 : Int} {m : vm_M} {Q : Int → vm_M → Prop}  (h :
    ku3_greatestGap_8 v1 (m 3 2) m Q) : vm_C 40 [vm_r 77, vm_i v1] m (vm_qi Q) := by
  show vm_G 40 0 [some (vm_r 77), some (vm_i v1), none] [] m (vm_qi Q)
  refine vm_gp [(.aload 0, 0, 0, []), (.getfield 2, 3, 0, [(3, 0)]), (.getfield 0, 0, 2, []), (.istore 2, 0, 0, [])] (pc1 := 8) (ls1 := [some (vm_r 77), some (vm_i v1), some (vm_i (m 3 2))]) (st1 := []) (m1 := m) (ob := (((true && vm_is 77 3) && true) && vm_is 3 0)) (by decide +kernel) rfl (vm_u (vm_u (vm_u rfl (by decide +kernel)) rfl) (by decide +kernel)) ?_
  exact h
set_option maxRecDepth 20000 in
theorem ru3_greatestGap_8 {v1 : Int} {v2 : Int} {m : vm_M} {Q : Int → vm_M → Prop}  (h :
    ((v2 ≤ (m 10 3) →
      Q v2 m) ∧ (¬ v2 ≤ (m 10 3) →
      (vm_C 50 [vm_r 77, vm_i v1, vm_i v2] m (vm_qi (fun z1 m1 =>
        ((z1 ≤ (m1 10 0) →
          Q v2 m1) ∧ (¬ z1 ≤ (m1 10 0) →
          ((vm_32 (v2 + (-1)))) ∧
          ku3_greatestGap_8 v1 (v2 + (-1)) m1 Q)))))))) : ku3_greatestGap_8 v1 v2 m Q := by
  show vm_G 40 8 [some (vm_r 77), some (vm_i v1), some (vm_i v2)] [] m (vm_qi Q)
  refine vm_gp [(.iload 2, 0, 0, []), (.aload 0, 0, 0, []), (.getfield 2, 3, 1, [(9, 0)]), (.getfield 2, 4, 0, [(1, 1)]), (.iconst 3, 0, 0, []), (.iaload, 6, 0, [])] (pc1 := 18) (ls1 := [some (vm_r 77), some (vm_i v1), some (vm_i v2)]) (st1 := [vm_i (m 10 3), vm_i v2]) (m1 := m) (ob := ((((((true && vm_is 77 3) && true) && vm_is 9 4) && true) && vm_ar 10 100 6) && decide ((0 : Int) ≤ 3 ∧ (3 : Int) < 6))) (by decide +kernel) rfl (vm_t (vm_u (vm_u (vm_u (vm_u (vm_u rfl (by decide +kernel)) rfl) (by decide +kernel)) rfl) (by decide +kernel)) (by decide)) ?_
  refine vm_gj (c := v2 ≤ (m 10 3)) (t := 45) (e := 21) (i := (.if_icmp .le 0, 45, 0, [])) (len := 3) (st1 := []) (by decide +kernel) rfl rfl (fun c1 => ?_) (fun c1 => ?_)
  · replace h := h.1 c1
    refine vm_gp [(.iload 2, 0, 0, [])] (pc1 := 46) (ls1 := [some (vm_r 77), some (vm_i v1), some (vm_i v2)]) (st1 := [vm_i v2]) (m1 := m) (ob := true) (by decide +kernel) rfl rfl ?_
    exact vm_gr (r := some (vm_i v2)) (i := (.ireturn, 1, 0, [])) (len := 1) (by decide +kernel) rfl rfl rfl ⟨_, rfl, h⟩
  · replace h := h.2 c1
    refine vm_gp [(.aload 0, 0, 0, []), (.iload 1, 0, 0, []), (.iload 2, 0, 0, [])] (pc1 := 24) (ls1 := [some (vm_r 77), some (vm_i v1), some (vm_i v2)]) (st1 := [vm_i v2, vm_i v1, vm_r 77]) (m1 := m) (ob := true) (by decide +kernel) rfl rfl ?_
    refine vm_gc (g := 50) (na := 3) (av := [vm_r 77, vm_i v1, vm_i v2]) (rest := []) (i := (.invokevirtual 0, 50, 3, [])) (len := 3) (by decide +kernel) rfl rfl rfl (by decide +kernel) (by decide +kernel) rfl rfl (vm_u (vm_okh_v (c := 3) (by decide +kernel) (by decide +kernel)) (show vm_okn 50 3 0 0 0 3 = true by decide +kernel)) ?_
    refine vm_G.mono h ?_
    rintro _ m1 ⟨z1, rfl, h⟩
    show vm_G 40 27 [some (vm_r 77), some (vm_i v1), some (vm_i v2)] [vm_i z1] m1 _
    refine vm_gp [(.aload 0, 0, 0, []), (.getfield 2, 3, 1, [(9, 0)]), (.getfield 2, 4, 0, [(1, 1)]), (.iconst 0, 0, 0, []), (.iaload, 6, 0, [])] (pc1 := 36) (ls1 := [some (vm_r 77), some (vm_i v1), some (vm_i v2)]) (st1 := [vm_i (m1 10 0), vm_i z1]) (m1 := m1) (ob := ((((((true && vm_is 77 3) && true) && vm_is 9 4) && true) && vm_ar 10 100 6) && decide ((0 : Int) ≤ 0 ∧ (0 : Int) < 6))) (by decide +kernel) rfl (vm_t (vm_u (vm_u (vm_u (vm_u (vm_u rfl (by decide +kernel)) rfl) (by decide +kernel)) rfl) (by decide +kernel)) (by decide)) ?_
    refine vm_gj (c := z1 ≤ (m1 10 0)) (t := 45) (e := 39) (i := (.if_icmp .le 0, 45, 0, [])) (len := 3) (st1 := []) (by decide +kernel) rfl rfl (fun c2 => ?_) (fun c2 => ?_)
    · replace h := h.1 c2
      refine vm_gp [(.iload 2, 0, 0, [])] (pc1 := 46) (ls1 := [some (vm_r 77), some (vm_i v1), some (vm_i v2)]) (st1 := [vm_i v2]) (m1 := m1) (ob := true) (by decide +kernel) rfl rfl ?_
      exact vm_gr (r := some (vm_i v2)) (i := (.ireturn, 1, 0, [])) (len := 1) (by decide +kernel) rfl rfl rfl ⟨_, rfl, h⟩
    · replace h := h.2 c2
      obtain ⟨o6_0, h⟩ := h
      refine vm_gp [(.iinc 2 (-1), 0, 0, []), (.goto 0, 8, 0, [])] (pc1 := 8) (ls1 := [some (vm_r 77), some (vm_i v1), some (vm_i (v2 + (-1)))]) (st1 := []) (m1 := m1) (ob := (true && decide (vm_32 (v2 + (-1))))) (by decide +kernel) rfl (vm_t rfl o6_0) ?_
      exact h
abbrev ku3_lettersIn_0 (v1 : Int) (m : vm_M) (Q : Int → vm_M → Prop) : Prop := vm_G 41 0 [some (vm_r 77), some (vm_i v1)] [] m (vm_qi Q)
set_option maxRecDepth 20000 in
theorem ru3_lettersIn_0 {v1 : Int} {m : vm_M} {Q : Int → vm_M → Prop}  (h :
    ((0 ≤ v1 ∧ v1 < 13) ∧ (vm_32 (v1 + 1)) ∧ (0 ≤ (v1 + 1) ∧ (v1 + 1) < 13)) ∧
    (vm_C 60 [vm_r 9, vm_i (m 70 v1), vm_i (m 70 (v1 + 1))] m (vm_qi (fun z1 m1 =>
      Q z1 m1)))) : vm_C 41 [vm_r 77, vm_i v1] m (vm_qi Q) := by
  show vm_G 41 0 [some (vm_r 77), some (vm_i v1)] [] m (vm_qi Q)
  obtain ⟨⟨o1_0, o1_1, o1_2⟩, h⟩ := h
  refine vm_gp [(.aload 0, 0, 0, []), (.getfield 2, 3, 1, [(9, 0)]), (.aload 0, 0, 0, []), (.getfield 2, 3, 3, [(67, 0)]), (.getfield 2, 1, 2, [(3, 1)]), (.iload 1, 0, 0, []), (.iaload, 13, 0, []), (.aload 0, 0, 0, []), (.getfield 2, 3, 3, [(67, 0)]), (.getfield 2, 1, 2, [(3, 1)]), (.iload 1, 0, 0, []), (.iconst 1, 0, 0, []), (.iadd, 0, 0, []), (.iaload, 13, 0, [])] (pc1 := 24) (ls1 := [some (vm_r 77), some (vm_i v1)]) (st1 := [vm_i (m 70 (v1 + 1)), vm_i (m 70 v1), vm_r 9]) (m1 := m) (ob := (((((((((((((((true && vm_is 77 3) && true) && vm_is 77 3) && true) && vm_is 67 1) && true) && vm_ar 70 100 13) && decide (0 ≤ v1 ∧ v1 < 13)) && vm_is 77 3) && true) && vm_is 67 1) && true) && decide (vm_32 (v1 + 1))) && vm_ar 70 100 13) && decide (0 ≤ (v1 + 1) ∧ (v1 + 1) < 13))) (by decide +kernel) rfl (vm_t (vm_u (vm_t (vm_u (vm_u (vm_u (vm_u (vm_t (vm_u (vm_u (vm_u (vm_u (vm_u (vm_u (vm_u rfl (by decide +kernel)) rfl) (by decide +kernel)) rfl) (by decide +kernel)) rfl) (by decide +kernel)) o1_0) (by decide +kernel)) rfl) (by decide +kernel)) rfl) o1_1) (by decide +kernel)) o1_2) ?_
  refine vm_gc (g := 60) (na := 3) (av := [vm_r 9, vm_i (m 70 v1), vm_i (m 70 (v1 + 1))]) (rest := []) (i := (.invokevirtual 0, 60, 3, [])) (len := 3) (by decide +kernel) rfl rfl rfl (by decide +kernel) (by decide +kernel) rfl rfl (vm_u (vm_okh_v (c := 4) (by decide +kernel) (by decide +kernel)) (show vm_okn 60 3 0 0 0 3 = true by decide +kernel)) ?_
  refine vm_G.mono h ?_
  rintro _ m1 ⟨z1, rfl, h⟩
  show vm_G 41 27 [some (vm_r 77), some (vm_i v1)] [vm_i z1] m1 _
  exact vm_gr (r := some (vm_i z1)) (i := (.ireturn, 1, 0, [])) (len := 1) (by decide +kernel) rfl rfl rfl ⟨_, rfl, h⟩
abbrev ku3_spaceBehind_0 (v1 : Int) (v2 : Int) (m : vm_M) (Q : Int → vm_M → Prop) : Prop := vm_G 42 0 [some (vm_r 77), some (vm_i v1), some (vm_i v2)] [] m (vm_qi Q)
set_option maxRecDepth 20000 in
theorem ru3_spaceBehind_0 {v1 : Int} {v2 : Int} {m : vm_M} {Q : Int → vm_M → Prop}  (h :
    ((0 ≤ v1 ∧ v1 < 12) ∧ (0 ≤ v1 ∧ v1 < 12)) ∧
    (((m 82 v1) ≤ v2 →
      ((vm_32 ((m 81 v1) + 0))) ∧
      Q ((m 81 v1) + 0) m) ∧ (¬ (m 82 v1) ≤ v2 →
      ((vm_32 ((m 81 v1) + 1))) ∧
      Q ((m 81 v1) + 1) m))) : vm_C 42 [vm_r 77, vm_i v1, vm_i v2] m (vm_qi Q) := by
  show vm_G 42 0 [some (vm_r 77), some (vm_i v1), some (vm_i v2)] [] m (vm_qi Q)
  obtain ⟨⟨o1_0, o1_1⟩, h⟩ := h
  refine vm_gp [(.aload 0, 0, 0, []), (.getfield 2, 3, 7, [(81, 0)]), (.iload 1, 0, 0, []), (.iaload, 12, 0, []), (.iload 2, 0, 0, []), (.aload 0, 0, 0, []), (.getfield 2, 3, 8, [(82, 0)]), (.iload 1, 0, 0, []), (.iaload, 12, 0, [])] (pc1 := 13) (ls1 := [some (vm_r 77), some (vm_i v1), some (vm_i v2)]) (st1 := [vm_i (m 82 v1), vm_i v2, vm_i (m 81 v1)]) (m1 := m) (ob := ((((((((true && vm_is 77 3) && true) && vm_ar 81 100 12) && decide (0 ≤ v1 ∧ v1 < 12)) && vm_is 77 3) && true) && vm_ar 82 100 12) && decide (0 ≤ v1 ∧ v1 < 12))) (by decide +kernel) rfl (vm_t (vm_u (vm_u (vm_u (vm_t (vm_u (vm_u (vm_u rfl (by decide +kernel)) rfl) (by decide +kernel)) o1_0) (by decide +kernel)) rfl) (by decide +kernel)) o1_1) ?_
  refine vm_gj (c := (m 82 v1) ≤ v2) (t := 20) (e := 16) (i := (.if_icmp .ge 0, 20, 0, [])) (len := 3) (st1 := [vm_i (m 81 v1)]) (by decide +kernel) rfl rfl (fun c1 => ?_) (fun c1 => ?_)
  · replace h := h.1 c1
    obtain ⟨o2_0, h⟩ := h
    refine vm_gp [(.iconst 0, 0, 0, []), (.iadd, 0, 0, [])] (pc1 := 22) (ls1 := [some (vm_r 77), some (vm_i v1), some (vm_i v2)]) (st1 := [vm_i ((m 81 v1) + 0)]) (m1 := m) (ob := (true && decide (vm_32 ((m 81 v1) + 0)))) (by decide +kernel) rfl (vm_t rfl o2_0) ?_
    exact vm_gr (r := some (vm_i ((m 81 v1) + 0))) (i := (.ireturn, 1, 0, [])) (len := 1) (by decide +kernel) rfl rfl rfl ⟨_, rfl, h⟩
  · replace h := h.2 c1
    obtain ⟨o3_0, h⟩ := h
    refine vm_gp [(.iconst 1, 0, 0, []), (.goto 0, 21, 0, []), (.iadd, 0, 0, [])] (pc1 := 22) (ls1 := [some (vm_r 77), some (vm_i v1), some (vm_i v2)]) (st1 := [vm_i ((m 81 v1) + 1)]) (m1 := m) (ob := (true && decide (vm_32 ((m 81 v1) + 1)))) (by decide +kernel) rfl (vm_t rfl o3_0) ?_
    exact vm_gr (r := some (vm_i ((m 81 v1) + 1))) (i := (.ireturn, 1, 0, [])) (len := 1) (by decide +kernel) rfl rfl rfl ⟨_, rfl, h⟩
abbrev ku3_spotOf_0 (v1 : Int) (v2 : Int) (m : vm_M) (Q : Int → vm_M → Prop) : Prop := vm_G 43 0 [some (vm_r 77), some (vm_i v1), some (vm_i v2), none, none] [] m (vm_qi Q)
abbrev ku3_spotOf_13 (v1 : Int) (v2 : Int) (v3 : Int) (v4 : Int) (m : vm_M) (Q : Int → vm_M → Prop) : Prop := vm_G 43 13 [some (vm_r 77), some (vm_i v1), some (vm_i v2), some (vm_i v3), some (vm_i v4)] [] m (vm_qi Q)
set_option maxRecDepth 20000 in
theorem ru3_spotOf_0 {v1 : Int} {v2 : Int} {m : vm_M} {Q : Int → vm_M → Prop}  (h :
    ((0 ≤ v1 ∧ v1 < 13)) ∧
    ku3_spotOf_13 v1 v2 v2 (m 70 v1) m Q) : vm_C 43 [vm_r 77, vm_i v1, vm_i v2] m (vm_qi Q) := by
  show vm_G 43 0 [some (vm_r 77), some (vm_i v1), some (vm_i v2), none, none] [] m (vm_qi Q)
  obtain ⟨o1_0, h⟩ := h
  refine vm_gp [(.iload 2, 0, 0, []), (.istore 3, 0, 0, []), (.aload 0, 0, 0, []), (.getfield 2, 3, 3, [(67, 0)]), (.getfield 2, 1, 2, [(3, 1)]), (.iload 1, 0, 0, []), (.iaload, 13, 0, []), (.istore 4, 0, 0, [])] (pc1 := 13) (ls1 := [some (vm_r 77), some (vm_i v1), some (vm_i v2), some (vm_i v2), some (vm_i (m 70 v1))]) (st1 := []) (m1 := m) (ob := ((((((true && vm_is 77 3) && true) && vm_is 67 1) && true) && vm_ar 70 100 13) && decide (0 ≤ v1 ∧ v1 < 13))) (by decide +kernel) rfl (vm_t (vm_u (vm_u (vm_u (vm_u (vm_u rfl (by decide +kernel)) rfl) (by decide +kernel)) rfl) (by decide +kernel)) o1_0) ?_
  exact h
set_option maxRecDepth 20000 in
theorem ru3_spotOf_13 {v1 : Int} {v2 : Int} {v3 : Int} {v4 : Int} {m : vm_M} {Q : Int → vm_M → Prop}  (h :
    ((vm_32 (v1 + 1)) ∧ (0 ≤ (v1 + 1) ∧ (v1 + 1) < 13)) ∧
    (((m 70 (v1 + 1)) ≤ v4 →
      Q (-1) m) ∧ (¬ (m 70 (v1 + 1)) ≤ v4 →
      ((0 ≤ v4 ∧ v4 < 30)) ∧
      (((m 12 v4) ≤ v3 →
        ((0 ≤ v4 ∧ v4 < 30) ∧ (vm_32 (v3 - (m 12 v4))) ∧ (vm_32 (v4 + 1))) ∧
        ku3_spotOf_13 v1 v2 (v3 - (m 12 v4)) (v4 + 1) m Q) ∧ (¬ (m 12 v4) ≤ v3 →
        ((vm_32 (v4 * 12)) ∧ (vm_32 ((v4 * 12) + v3))) ∧
        Q ((v4 * 12) + v3) m))))) : ku3_spotOf_13 v1 v2 v3 v4 m Q := by
  show vm_G 43 13 [some (vm_r 77), some (vm_i v1), some (vm_i v2), some (vm_i v3), some (vm_i v4)] [] m (vm_qi Q)
  obtain ⟨⟨o1_0, o1_1⟩, h⟩ := h
  refine vm_gp [(.iload 4, 0, 0, []), (.aload 0, 0, 0, []), (.getfield 2, 3, 3, [(67, 0)]), (.getfield 2, 1, 2, [(3, 1)]), (.iload 1, 0, 0, []), (.iconst 1, 0, 0, []), (.iadd, 0, 0, []), (.iaload, 13, 0, [])] (pc1 := 26) (ls1 := [some (vm_r 77), some (vm_i v1), some (vm_i v2), some (vm_i v3), some (vm_i v4)]) (st1 := [vm_i (m 70 (v1 + 1)), vm_i v4]) (m1 := m) (ob := (((((((true && vm_is 77 3) && true) && vm_is 67 1) && true) && decide (vm_32 (v1 + 1))) && vm_ar 70 100 13) && decide (0 ≤ (v1 + 1) ∧ (v1 + 1) < 13))) (by decide +kernel) rfl (vm_t (vm_u (vm_t (vm_u (vm_u (vm_u (vm_u rfl (by decide +kernel)) rfl) (by decide +kernel)) rfl) o1_0) (by decide +kernel)) o1_1) ?_
  refine vm_gj (c := (m 70 (v1 + 1)) ≤ v4) (t := 70) (e := 29) (i := (.if_icmp .ge 0, 70, 0, [])) (len := 3) (st1 := []) (by decide +kernel) rfl rfl (fun c1 => ?_) (fun c1 => ?_)
  · replace h := h.1 c1
    refine vm_gp [(.iconst (-1), 0, 0, [])] (pc1 := 71) (ls1 := [some (vm_r 77), some (vm_i v1), some (vm_i v2), some (vm_i v3), some (vm_i v4)]) (st1 := [vm_i (-1)]) (m1 := m) (ob := true) (by decide +kernel) rfl rfl ?_
    exact vm_gr (r := some (vm_i (-1))) (i := (.ireturn, 1, 0, [])) (len := 1) (by decide +kernel) rfl rfl rfl ⟨_, rfl, h⟩
  · replace h := h.2 c1
    obtain ⟨o3_0, h⟩ := h
    refine vm_gp [(.iload 3, 0, 0, []), (.aload 0, 0, 0, []), (.getfield 2, 3, 1, [(9, 0)]), (.getfield 2, 4, 2, [(3, 1)]), (.iload 4, 0, 0, []), (.iaload, 30, 0, [])] (pc1 := 40) (ls1 := [some (vm_r 77), some (vm_i v1), some (vm_i v2), some (vm_i v3), some (vm_i v4)]) (st1 := [vm_i (m 12 v4), vm_i v3]) (m1 := m) (ob := ((((((true && vm_is 77 3) && true) && vm_is 9 4) && true) && vm_ar 12 100 30) && decide (0 ≤ v4 ∧ v4 < 30))) (by decide +kernel) rfl (vm_t (vm_u (vm_u (vm_u (vm_u (vm_u rfl (by decide +kernel)) rfl) (by decide +kernel)) rfl) (by decide +kernel)) o3_0) ?_
    refine vm_gj (c := (m 12 v4) ≤ v3) (t := 51) (e := 43) (i := (.if_icmp .ge 0, 51, 0, [])) (len := 3) (st1 := []) (by decide +kernel) rfl rfl (fun c2 => ?_) (fun c2 => ?_)
    · replace h := h.1 c2
      obtain ⟨⟨o4_0, o4_1, o4_2⟩, h⟩ := h
      refine vm_gp [(.iload 3, 0, 0, []), (.aload 0, 0, 0, []), (.getfield 2, 3, 1, [(9, 0)]), (.getfield 2, 4, 2, [(3, 1)]), (.iload 4, 0, 0, []), (.iaload, 30, 0, []), (.isub, 0, 0, []), (.istore 3, 0, 0, []), (.iinc 4 1, 0, 0, []), (.goto 0, 13, 0, [])] (pc1 := 13) (ls1 := [some (vm_r 77), some (vm_i v1), some (vm_i v2), some (vm_i (v3 - (m 12 v4))), some (vm_i (v4 + 1))]) (st1 := []) (m1 := m) (ob := ((((((((true && vm_is 77 3) && true) && vm_is 9 4) && true) && vm_ar 12 100 30) && decide (0 ≤ v4 ∧ v4 < 30)) && decide (vm_32 (v3 - (m 12 v4)))) && decide (vm_32 (v4 + 1)))) (by decide +kernel) rfl (vm_t (vm_t (vm_t (vm_u (vm_u (vm_u (vm_u (vm_u rfl (by decide +kernel)) rfl) (by decide +kernel)) rfl) (by decide +kernel)) o4_0) o4_1) o4_2) ?_
      exact h
    · replace h := h.2 c2
      obtain ⟨⟨o5_0, o5_1⟩, h⟩ := h
      refine vm_gp [(.iload 4, 0, 0, []), (.iconst 12, 0, 0, []), (.imul, 0, 0, []), (.iload 3, 0, 0, []), (.iadd, 0, 0, [])] (pc1 := 50) (ls1 := [some (vm_r 77), some (vm_i v1), some (vm_i v2), some (vm_i v3), some (vm_i v4)]) (st1 := [vm_i ((v4 * 12) + v3)]) (m1 := m) (ob := ((true && decide (vm_32 (v4 * 12))) && decide (vm_32 ((v4 * 12) + v3)))) (by decide +kernel) rfl (vm_t (vm_t rfl o5_0) o5_1) ?_
      exact vm_gr (r := some (vm_i ((v4 * 12) + v3))) (i := (.ireturn, 1, 0, [])) (len := 1) (by decide +kernel) rfl rfl rfl ⟨_, rfl, h⟩
abbrev ku3_hasNext_0 (v1 : Int) (m : vm_M) (Q : Int → vm_M → Prop) : Prop := vm_G 44 0 [some (vm_r 77), some (vm_i v1)] [] m (vm_qi Q)
set_option maxRecDepth 20000 in
theorem ru3_hasNext_0 {v1 : Int} {m : vm_M} {Q : Int → vm_M → Prop}  (h :
    ((0 ≤ v1 ∧ (0 : Int) < 12) ∧ (vm_32 ((v1 % 12) + 1)) ∧ (0 ≤ v1 ∧ (0 : Int) < 12) ∧ (0 ≤ (v1 / 12) ∧ (v1 / 12) < 30)) ∧
    (((m 12 (v1 / 12)) ≤ ((v1 % 12) + 1) →
      Q 0 m) ∧ (¬ (m 12 (v1 / 12)) ≤ ((v1 % 12) + 1) →
      Q 1 m))) : vm_C 44 [vm_r 77, vm_i v1] m (vm_qi Q) := by
  show vm_G 44 0 [some (vm_r 77), some (vm_i v1)] [] m (vm_qi Q)
  obtain ⟨⟨o1_0, o1_1, o1_2, o1_3⟩, h⟩ := h
  refine vm_gp [(.iload 1, 0, 0, []), (.iconst 12, 0, 0, []), (.irem, 0, 0, []), (.iconst 1, 0, 0, []), (.iadd, 0, 0, []), (.aload 0, 0, 0, []), (.getfield 2, 3, 1, [(9, 0)]), (.getfield 2, 4, 2, [(3, 1)]), (.iload 1, 0, 0, []), (.iconst 12, 0, 0, []), (.idiv, 0, 0, []), (.iaload, 30, 0, [])] (pc1 := 18) (ls1 := [some (vm_r 77), some (vm_i v1)]) (st1 := [vm_i (m 12 (v1 / 12)), vm_i ((v1 % 12) + 1)]) (m1 := m) (ob := (((((((((true && decide (0 ≤ v1 ∧ (0 : Int) < 12)) && decide (vm_32 ((v1 % 12) + 1))) && vm_is 77 3) && true) && vm_is 9 4) && true) && decide (0 ≤ v1 ∧ (0 : Int) < 12)) && vm_ar 12 100 30) && decide (0 ≤ (v1 / 12) ∧ (v1 / 12) < 30))) (by decide +kernel) rfl (vm_t (vm_u (vm_t (vm_u (vm_u (vm_u (vm_u (vm_t (vm_t rfl o1_0) o1_1) (by decide +kernel)) rfl) (by decide +kernel)) rfl) o1_2) (by decide +kernel)) o1_3) ?_
  refine vm_gj (c := (m 12 (v1 / 12)) ≤ ((v1 % 12) + 1)) (t := 25) (e := 21) (i := (.if_icmp .ge 0, 25, 0, [])) (len := 3) (st1 := []) (by decide +kernel) rfl rfl (fun c1 => ?_) (fun c1 => ?_)
  · replace h := h.1 c1
    refine vm_gp [(.iconst 0, 0, 0, [])] (pc1 := 26) (ls1 := [some (vm_r 77), some (vm_i v1)]) (st1 := [vm_i 0]) (m1 := m) (ob := true) (by decide +kernel) rfl rfl ?_
    exact vm_gr (r := some (vm_i 0)) (i := (.ireturn, 2, 0, [])) (len := 1) (by decide +kernel) rfl rfl (by decide) ⟨_, rfl, h⟩
  · replace h := h.2 c1
    refine vm_gp [(.iconst 1, 0, 0, []), (.goto 0, 26, 0, [])] (pc1 := 26) (ls1 := [some (vm_r 77), some (vm_i v1)]) (st1 := [vm_i 1]) (m1 := m) (ob := true) (by decide +kernel) rfl rfl ?_
    exact vm_gr (r := some (vm_i 1)) (i := (.ireturn, 2, 0, [])) (len := 1) (by decide +kernel) rfl rfl (by decide) ⟨_, rfl, h⟩
abbrev ku3_gapBehind_0 (v1 : Int) (v2 : Int) (m : vm_M) (Q : Int → vm_M → Prop) : Prop := vm_G 45 0 [some (vm_r 77), some (vm_i v1), some (vm_i v2), none] [] m (vm_qi Q)
set_option maxRecDepth 20000 in
theorem ru3_gapBehind_0 {v1 : Int} {v2 : Int} {m : vm_M} {Q : Int → vm_M → Prop}  (h :
    (vm_C 43 [vm_r 77, vm_i v1, vm_i v2] m (vm_qi (fun z1 m1 =>
      ((z1 = (-1) →
        Q (-2) m1) ∧ (¬ z1 = (-1) →
        (vm_C 44 [vm_r 77, vm_i z1] m1 (vm_qi (fun z2 m2 =>
          ((¬ z2 = 0 →
            ((0 ≤ z1 ∧ z1 < 360) ∧ (vm_32 (z1 + 1)) ∧ (0 ≤ (z1 + 1) ∧ (z1 + 1) < 360) ∧ (0 ≤ z1 ∧ z1 < 360)) ∧
            (vm_C 10 [vm_r 3, vm_i (m2 13 z1), vm_i (m2 13 (z1 + 1)), vm_i (m2 84 z1)] m2 (vm_qi (fun z3 m3 =>
              Q z3 m3)))) ∧ (¬ ¬ z2 = 0 →
            Q (-2) m2))))))))))) : vm_C 45 [vm_r 77, vm_i v1, vm_i v2] m (vm_qi Q) := by
  show vm_G 45 0 [some (vm_r 77), some (vm_i v1), some (vm_i v2), none] [] m (vm_qi Q)
  refine vm_gp [(.aload 0, 0, 0, []), (.iload 1, 0, 0, []), (.iload 2, 0, 0, [])] (pc1 := 3) (ls1 := [some (vm_r 77), some (vm_i v1), some (vm_i v2), none]) (st1 := [vm_i v2, vm_i v1, vm_r 77]) (m1 := m) (ob := true) (by decide +kernel) rfl rfl ?_
  refine vm_gc (g := 43) (na := 3) (av := [vm_r 77, vm_i v1, vm_i v2]) (rest := []) (i := (.invokevirtual 0, 43, 3, [])) (len := 3) (by decide +kernel) rfl rfl rfl (by decide +kernel) (by decide +kernel) rfl rfl (vm_u (vm_okh_v (c := 3) (by decide +kernel) (by decide +kernel)) (show vm_okn 43 3 0 0 0 3 = true by decide +kernel)) ?_
  refine vm_G.mono h ?_
  rintro _ m1 ⟨z1, rfl, h⟩
  show vm_G 45 6 [some (vm_r 77), some (vm_i v1), some (vm_i v2), none] [vm_i z1] m1 _
  refine vm_gp [(.istore 3, 0, 0, []), (.iload 3, 0, 0, []), (.iconst (-1), 0, 0, [])] (pc1 := 9) (ls1 := [some (vm_r 77), some (vm_i v1), some (vm_i v2), some (vm_i z1)]) (st1 := [vm_i (-1), vm_i z1]) (m1 := m1) (ob := true) (by decide +kernel) rfl rfl ?_
  refine vm_gj (c := z1 = (-1)) (t := 20) (e := 12) (i := (.if_icmp .eq 0, 20, 0, [])) (len := 3) (st1 := []) (by decide +kernel) rfl rfl (fun c1 => ?_) (fun c1 => ?_)
  · replace h := h.1 c1
    refine vm_gp [(.iconst (-2), 0, 0, [])] (pc1 := 22) (ls1 := [some (vm_r 77), some (vm_i v1), some (vm_i v2), some (vm_i z1)]) (st1 := [vm_i (-2)]) (m1 := m1) (ob := true) (by decide +kernel) rfl rfl ?_
    exact vm_gr (r := some (vm_i (-2))) (i := (.ireturn, 1, 0, [])) (len := 1) (by decide +kernel) rfl rfl rfl ⟨_, rfl, h⟩
  · replace h := h.2 c1
    refine vm_gp [(.aload 0, 0, 0, []), (.iload 3, 0, 0, [])] (pc1 := 14) (ls1 := [some (vm_r 77), some (vm_i v1), some (vm_i v2), some (vm_i z1)]) (st1 := [vm_i z1, vm_r 77]) (m1 := m1) (ob := true) (by decide +kernel) rfl rfl ?_
    refine vm_gc (g := 44) (na := 2) (av := [vm_r 77, vm_i z1]) (rest := []) (i := (.invokevirtual 0, 44, 2, [])) (len := 3) (by decide +kernel) rfl rfl rfl (by decide +kernel) (by decide +kernel) rfl rfl (vm_u (vm_okh_v (c := 3) (by decide +kernel) (by decide +kernel)) (show vm_okn 44 2 0 0 0 2 = true by decide +kernel)) ?_
    refine vm_G.mono h ?_
    rintro _ m2 ⟨z2, rfl, h⟩
    show vm_G 45 17 [some (vm_r 77), some (vm_i v1), some (vm_i v2), some (vm_i z1)] [vm_i z2] m2 _
    refine vm_gj (c := ¬ z2 = 0) (t := 23) (e := 20) (i := (.ifCond .ne 0, 23, 0, [])) (len := 3) (st1 := []) (by decide +kernel) rfl rfl (fun c2 => ?_) (fun c2 => ?_)
    · replace h := h.1 c2
      obtain ⟨⟨o6_0, o6_1, o6_2, o6_3⟩, h⟩ := h
      refine vm_gp [(.aload 0, 0, 0, []), (.getfield 2, 3, 0, [(3, 0)]), (.aload 0, 0, 0, []), (.getfield 2, 3, 1, [(9, 0)]), (.getfield 2, 4, 3, [(4, 1)]), (.iload 3, 0, 0, []), (.iaload, 360, 0, []), (.aload 0, 0, 0, []), (.getfield 2, 3, 1, [(9, 0)]), (.getfield 2, 4, 3, [(4, 1)]), (.iload 3, 0, 0, []), (.iconst 1, 0, 0, []), (.iadd, 0, 0, []), (.iaload, 360, 0, []), (.aload 0, 0, 0, []), (.getfield 2, 3, 10, [(84, 0)]), (.iload 3, 0, 0, []), (.iaload, 360, 0, [])] (pc1 := 53) (ls1 := [some (vm_r 77), some (vm_i v1), some (vm_i v2), some (vm_i z1)]) (st1 := [vm_i (m2 84 z1), vm_i (m2 13 (z1 + 1)), vm_i (m2 13 z1), vm_r 3]) (m1 := m2) (ob := (((((((((((((((((((true && vm_is 77 3) && true) && vm_is 77 3) && true) && vm_is 9 4) && true) && vm_ar 13 100 360) && decide (0 ≤ z1 ∧ z1 < 360)) && vm_is 77 3) && true) && vm_is 9 4) && true) && decide (vm_32 (z1 + 1))) && vm_ar 13 100 360) && decide (0 ≤ (z1 + 1) ∧ (z1 + 1) < 360)) && vm_is 77 3) && true) && vm_ar 84 100 360) && decide (0 ≤ z1 ∧ z1 < 360))) (by decide +kernel) rfl (vm_t (vm_u (vm_u (vm_u (vm_t (vm_u (vm_t (vm_u (vm_u (vm_u (vm_u (vm_t (vm_u (vm_u (vm_u (vm_u (vm_u (vm_u (vm_u rfl (by decide +kernel)) rfl) (by decide +kernel)) rfl) (by decide +kernel)) rfl) (by decide +kernel)) o6_0) (by decide +kernel)) rfl) (by decide +kernel)) rfl) o6_1) (by decide +kernel)) o6_2) (by decide +kernel)) rfl) (by decide +kernel)) o6_3) ?_
      refine vm_gc (g := 10) (na := 4) (av := [vm_r 3, vm_i (m2 13 z1), vm_i (m2 13 (z1 + 1)), vm_i (m2 84 z1)]) (rest := []) (i := (.invokevirtual 0, 10, 4, [])) (len := 3) (by decide +kernel) rfl rfl rfl (by decide +kernel) (by decide +kernel) rfl rfl (vm_u (vm_okh_v (c := 0) (by decide +kernel) (by decide +kernel)) (show vm_okn 10 4 0 0 0 4 = true by decide +kernel)) ?_
      refine vm_G.mono h ?_
      rintro _ m3 ⟨z3, rfl, h⟩
      show vm_G 45 56 [some (vm_r 77), some (vm_i v1), some (vm_i v2), some (vm_i z1)] [vm_i z3] m3 _
      exact vm_gr (r := some (vm_i z3)) (i := (.ireturn, 1, 0, [])) (len := 1) (by decide +kernel) rfl rfl rfl ⟨_, rfl, h⟩
    · replace h := h.2 c2
      refine vm_gp [(.iconst (-2), 0, 0, [])] (pc1 := 22) (ls1 := [some (vm_r 77), some (vm_i v1), some (vm_i v2), some (vm_i z1)]) (st1 := [vm_i (-2)]) (m1 := m2) (ob := true) (by decide +kernel) rfl rfl ?_
      exact vm_gr (r := some (vm_i (-2))) (i := (.ireturn, 1, 0, [])) (len := 1) (by decide +kernel) rfl rfl rfl ⟨_, rfl, h⟩
abbrev ku3_widthWith_0 (v1 : Int) (v2 : Int) (m : vm_M) (Q : Int → vm_M → Prop) : Prop := vm_G 50 0 [some (vm_r 77), some (vm_i v1), some (vm_i v2), none, none] [] m (vm_qi Q)
abbrev ku3_widthWith_32 (v1 : Int) (v2 : Int) (v3 : Int) (v4 : Int) (m : vm_M) (Q : Int → vm_M → Prop) : Prop := vm_G 50 32 [some (vm_r 77), some (vm_i v1), some (vm_i v2), some (vm_i v3), some (vm_i v4)] [] m (vm_qi Q)
set_option maxRecDepth 20000 in
theorem ru3_widthWith_0 {v1 : Int} {v2 : Int} {m : vm_M} {Q : Int → vm_M → Prop}  (h :
    (vm_C 16 [vm_r 67, vm_i v1] m (vm_qi (fun z1 m1 =>
      ((vm_32 (z1 - 1)) ∧ (vm_32 ((z1 - 1) * (m1 10 4))) ∧ (0 ≤ v1 ∧ v1 < 13)) ∧
      ku3_widthWith_32 v1 v2 ((z1 - 1) * (m1 10 4)) (m1 70 v1) m1 Q)))) : vm_C 50 [vm_r 77, vm_i v1, vm_i v2] m (vm_qi Q) := by
  show vm_G 50 0 [some (vm_r 77), some (vm_i v1), some (vm_i v2), none, none] [] m (vm_qi Q)
  refine vm_gp [(.aload 0, 0, 0, []), (.getfield 2, 3, 3, [(67, 0)]), (.iload 1, 0, 0, [])] (pc1 := 5) (ls1 := [some (vm_r 77), some (vm_i v1), some (vm_i v2), none, none]) (st1 := [vm_i v1, vm_r 67]) (m1 := m) (ob := ((true && vm_is 77 3) && true)) (by decide +kernel) rfl (vm_u (vm_u rfl (by decide +kernel)) rfl) ?_
  refine vm_gc (g := 16) (na := 2) (av := [vm_r 67, vm_i v1]) (rest := []) (i := (.invokevirtual 0, 16, 2, [])) (len := 3) (by decide +kernel) rfl rfl rfl (by decide +kernel) (by decide +kernel) rfl rfl (vm_u (vm_okh_v (c := 1) (by decide +kernel) (by decide +kernel)) (show vm_okn 16 2 0 0 0 2 = true by decide +kernel)) ?_
  refine vm_G.mono h ?_
  rintro _ m1 ⟨z1, rfl, h⟩
  show vm_G 50 8 [some (vm_r 77), some (vm_i v1), some (vm_i v2), none, none] [vm_i z1] m1 _
  obtain ⟨⟨o2_0, o2_1, o2_2⟩, h⟩ := h
  refine vm_gp [(.iconst 1, 0, 0, []), (.isub, 0, 0, []), (.aload 0, 0, 0, []), (.getfield 2, 3, 1, [(9, 0)]), (.getfield 2, 4, 0, [(1, 1)]), (.iconst 4, 0, 0, []), (.iaload, 6, 0, []), (.imul, 0, 0, []), (.istore 3, 0, 0, []), (.aload 0, 0, 0, []), (.getfield 2, 3, 3, [(67, 0)]), (.getfield 2, 1, 2, [(3, 1)]), (.iload 1, 0, 0, []), (.iaload, 13, 0, []), (.istore 4, 0, 0, [])] (pc1 := 32) (ls1 := [some (vm_r 77), some (vm_i v1), some (vm_i v2), some (vm_i ((z1 - 1) * (m1 10 4))), some (vm_i (m1 70 v1))]) (st1 := []) (m1 := m1) (ob := ((((((((((((((true && decide (vm_32 (z1 - 1))) && vm_is 77 3) && true) && vm_is 9 4) && true) && vm_ar 10 100 6) && decide ((0 : Int) ≤ 4 ∧ (4 : Int) < 6)) && decide (vm_32 ((z1 - 1) * (m1 10 4)))) && vm_is 77 3) && true) && vm_is 67 1) && true) && vm_ar 70 100 13) && decide (0 ≤ v1 ∧ v1 < 13))) (by decide +kernel) rfl (vm_t (vm_u (vm_u (vm_u (vm_u (vm_u (vm_t (vm_t (vm_u (vm_u (vm_u (vm_u (vm_u (vm_t rfl o2_0) (by decide +kernel)) rfl) (by decide +kernel)) rfl) (by decide +kernel)) (by decide)) o2_1) (by decide +kernel)) rfl) (by decide +kernel)) rfl) (by decide +kernel)) o2_2) ?_
  exact h
set_option maxRecDepth 20000 in
theorem ru3_widthWith_32 {v1 : Int} {v2 : Int} {v3 : Int} {v4 : Int} {m : vm_M} {Q : Int → vm_M → Prop}  (h :
    ((vm_32 (v1 + 1)) ∧ (0 ≤ (v1 + 1) ∧ (v1 + 1) < 13)) ∧
    (((m 70 (v1 + 1)) ≤ v4 →
      ((vm_32 (v3 * (m 10 5)))) ∧
      Q (v3 * (m 10 5)) m) ∧ (¬ (m 70 (v1 + 1)) ≤ v4 →
      (vm_C 96 [vm_r 65, vm_i v4, vm_i v2] m (vm_qi (fun z1 m1 =>
        ((vm_32 (v3 + z1)) ∧ (vm_32 (v4 + 1))) ∧
        ku3_widthWith_32 v1 v2 (v3 + z1) (v4 + 1) m1 Q)))))) : ku3_widthWith_32 v1 v2 v3 v4 m Q := by
  show vm_G 50 32 [some (vm_r 77), some (vm_i v1), some (vm_i v2), some (vm_i v3), some (vm_i v4)] [] m (vm_qi Q)
  obtain ⟨⟨o1_0, o1_1⟩, h⟩ := h
  refine vm_gp [(.iload 4, 0, 0, []), (.aload 0, 0, 0, []), (.getfield 2, 3, 3, [(67, 0)]), (.getfield 2, 1, 2, [(3, 1)]), (.iload 1, 0, 0, []), (.iconst 1, 0, 0, []), (.iadd, 0, 0, []), (.iaload, 13, 0, [])] (pc1 := 45) (ls1 := [some (vm_r 77), some (vm_i v1), some (vm_i v2), some (vm_i v3), some (vm_i v4)]) (st1 := [vm_i (m 70 (v1 + 1)), vm_i v4]) (m1 := m) (ob := (((((((true && vm_is 77 3) && true) && vm_is 67 1) && true) && decide (vm_32 (v1 + 1))) && vm_ar 70 100 13) && decide (0 ≤ (v1 + 1) ∧ (v1 + 1) < 13))) (by decide +kernel) rfl (vm_t (vm_u (vm_t (vm_u (vm_u (vm_u (vm_u rfl (by decide +kernel)) rfl) (by decide +kernel)) rfl) o1_0) (by decide +kernel)) o1_1) ?_
  refine vm_gj (c := (m 70 (v1 + 1)) ≤ v4) (t := 67) (e := 48) (i := (.if_icmp .ge 0, 67, 0, [])) (len := 3) (st1 := []) (by decide +kernel) rfl rfl (fun c1 => ?_) (fun c1 => ?_)
  · replace h := h.1 c1
    obtain ⟨o2_0, h⟩ := h
    refine vm_gp [(.iload 3, 0, 0, []), (.aload 0, 0, 0, []), (.getfield 2, 3, 1, [(9, 0)]), (.getfield 2, 4, 0, [(1, 1)]), (.iconst 5, 0, 0, []), (.iaload, 6, 0, []), (.imul, 0, 0, [])] (pc1 := 78) (ls1 := [some (vm_r 77), some (vm_i v1), some (vm_i v2), some (vm_i v3), some (vm_i v4)]) (st1 := [vm_i (v3 * (m 10 5))]) (m1 := m) (ob := (((((((true && vm_is 77 3) && true) && vm_is 9 4) && true) && vm_ar 10 100 6) && decide ((0 : Int) ≤ 5 ∧ (5 : Int) < 6)) && decide (vm_32 (v3 * (m 10 5))))) (by decide +kernel) rfl (vm_t (vm_t (vm_u (vm_u (vm_u (vm_u (vm_u rfl (by decide +kernel)) rfl) (by decide +kernel)) rfl) (by decide +kernel)) (by decide)) o2_0) ?_
    exact vm_gr (r := some (vm_i (v3 * (m 10 5)))) (i := (.ireturn, 1, 0, [])) (len := 1) (by decide +kernel) rfl rfl rfl ⟨_, rfl, h⟩
  · replace h := h.2 c1
    refine vm_gp [(.iload 3, 0, 0, []), (.aload 0, 0, 0, []), (.getfield 2, 3, 2, [(65, 0)]), (.iload 4, 0, 0, []), (.iload 2, 0, 0, [])] (pc1 := 56) (ls1 := [some (vm_r 77), some (vm_i v1), some (vm_i v2), some (vm_i v3), some (vm_i v4)]) (st1 := [vm_i v2, vm_i v4, vm_r 65, vm_i v3]) (m1 := m) (ob := ((true && vm_is 77 3) && true)) (by decide +kernel) rfl (vm_u (vm_u rfl (by decide +kernel)) rfl) ?_
    refine vm_gc (g := 96) (na := 3) (av := [vm_r 65, vm_i v4, vm_i v2]) (rest := [vm_i v3]) (i := (.invokevirtual 0, 96, 3, [])) (len := 3) (by decide +kernel) rfl rfl rfl (by decide +kernel) (by decide +kernel) rfl rfl (vm_u (vm_okh_v (c := 9) (by decide +kernel) (by decide +kernel)) (show vm_okn 96 3 1 0 0 3 = true by decide +kernel)) ?_
    refine vm_G.mono h ?_
    rintro _ m1 ⟨z1, rfl, h⟩
    show vm_G 50 59 [some (vm_r 77), some (vm_i v1), some (vm_i v2), some (vm_i v3), some (vm_i v4)] [vm_i z1, vm_i v3] m1 _
    obtain ⟨⟨o4_0, o4_1⟩, h⟩ := h
    refine vm_gp [(.iadd, 0, 0, []), (.istore 3, 0, 0, []), (.iinc 4 1, 0, 0, []), (.goto 0, 32, 0, [])] (pc1 := 32) (ls1 := [some (vm_r 77), some (vm_i v1), some (vm_i v2), some (vm_i (v3 + z1)), some (vm_i (v4 + 1))]) (st1 := []) (m1 := m1) (ob := ((true && decide (vm_32 (v3 + z1))) && decide (vm_32 (v4 + 1)))) (by decide +kernel) rfl (vm_t (vm_t rfl o4_0) o4_1) ?_
    exact h
abbrev ku3_measure_0 (v1 : Int) (m : vm_M) (Q : vm_M → Prop) : Prop := vm_G 51 0 [some (vm_r 77), some (vm_i v1), none, none, none] [] m (vm_qv Q)
set_option maxRecDepth 20000 in
theorem ru3_measure_0 {v1 : Int} {m : vm_M} {Q : vm_M → Prop}  (h :
    (vm_C 16 [vm_r 67, vm_i v1] m (vm_qi (fun z1 m1 =>
      ((vm_32 (z1 - 1))) ∧
      (((m1 9 5) = 0 →
        ((0 ≤ v1 ∧ v1 < 12) ∧ (0 ≤ v1 ∧ v1 < 12)) ∧
        (vm_C 50 [vm_r 77, vm_i v1, vm_i ((vm_st m1 78 v1 (m1 10 3)) 78 v1)] (vm_st m1 78 v1 (m1 10 3)) (vm_qi (fun z2 m2 =>
          ((0 ≤ v1 ∧ v1 < 12) ∧ (vm_32 (((vm_st m2 79 v1 z2) 10 4) * ((vm_st m2 79 v1 z2) 10 5))) ∧ (0 ≤ v1 ∧ v1 < 12) ∧ (0 ≤ v1 ∧ v1 < 12)) ∧
          ((((vm_st (vm_st (vm_st m2 79 v1 z2) 81 v1 (((vm_st m2 79 v1 z2) 10 4) * ((vm_st m2 79 v1 z2) 10 5))) 82 v1 0) 9 5) = 0 →
            ((0 ≤ v1 ∧ v1 < 12) ∧ (vm_32 ((m 10 0) - ((vm_st (vm_st (vm_st m2 79 v1 z2) 81 v1 (((vm_st m2 79 v1 z2) 10 4) * ((vm_st m2 79 v1 z2) 10 5))) 82 v1 0) 79 v1))) ∧ (0 ≤ (if 0 < ((m 10 0) - ((vm_st (vm_st (vm_st m2 79 v1 z2) 81 v1 (((vm_st m2 79 v1 z2) 10 4) * ((vm_st m2 79 v1 z2) 10 5))) 82 v1 0) 79 v1)) then ((m 10 0) - ((vm_st (vm_st (vm_st m2 79 v1 z2) 81 v1 (((vm_st m2 79 v1 z2) 10 4) * ((vm_st m2 79 v1 z2) 10 5))) 82 v1 0) 79 v1)) else 0) ∧ (0 : Int) < 2) ∧ (0 ≤ v1 ∧ v1 < 12)) ∧
            Q (vm_st (vm_st (vm_st (vm_st m2 79 v1 z2) 81 v1 (((vm_st m2 79 v1 z2) 10 4) * ((vm_st m2 79 v1 z2) 10 5))) 82 v1 0) 80 v1 ((if 0 < ((m 10 0) - ((vm_st (vm_st (vm_st m2 79 v1 z2) 81 v1 (((vm_st m2 79 v1 z2) 10 4) * ((vm_st m2 79 v1 z2) 10 5))) 82 v1 0) 79 v1)) then ((m 10 0) - ((vm_st (vm_st (vm_st m2 79 v1 z2) 81 v1 (((vm_st m2 79 v1 z2) 10 4) * ((vm_st m2 79 v1 z2) 10 5))) 82 v1 0) 79 v1)) else 0) / 2))) ∧ (¬ ((vm_st (vm_st (vm_st m2 79 v1 z2) 81 v1 (((vm_st m2 79 v1 z2) 10 4) * ((vm_st m2 79 v1 z2) 10 5))) 82 v1 0) 9 5) = 0 →
            (((z1 - 1) ≤ 0 →
              ((0 ≤ v1 ∧ v1 < 12) ∧ (vm_32 ((m 10 0) - ((vm_st (vm_st (vm_st m2 79 v1 z2) 81 v1 (((vm_st m2 79 v1 z2) 10 4) * ((vm_st m2 79 v1 z2) 10 5))) 82 v1 0) 79 v1))) ∧ (0 ≤ (if 0 < ((m 10 0) - ((vm_st (vm_st (vm_st m2 79 v1 z2) 81 v1 (((vm_st m2 79 v1 z2) 10 4) * ((vm_st m2 79 v1 z2) 10 5))) 82 v1 0) 79 v1)) then ((m 10 0) - ((vm_st (vm_st (vm_st m2 79 v1 z2) 81 v1 (((vm_st m2 79 v1 z2) 10 4) * ((vm_st m2 79 v1 z2) 10 5))) 82 v1 0) 79 v1)) else 0) ∧ (0 : Int) < 2) ∧ (0 ≤ v1 ∧ v1 < 12)) ∧
              Q (vm_st (vm_st (vm_st (vm_st m2 79 v1 z2) 81 v1 (((vm_st m2 79 v1 z2) 10 4) * ((vm_st m2 79 v1 z2) 10 5))) 82 v1 0) 80 v1 ((if 0 < ((m 10 0) - ((vm_st (vm_st (vm_st m2 79 v1 z2) 81 v1 (((vm_st m2 79 v1 z2) 10 4) * ((vm_st m2 79 v1 z2) 10 5))) 82 v1 0) 79 v1)) then ((m 10 0) - ((vm_st (vm_st (vm_st m2 79 v1 z2) 81 v1 (((vm_st m2 79 v1 z2) 10 4) * ((vm_st m2 79 v1 z2) 10 5))) 82 v1 0) 79 v1)) else 0) / 2))) ∧ (¬ (z1 - 1) ≤ 0 →
              ((0 ≤ v1 ∧ v1 < 12)) ∧
              (((m 10 0) ≤ ((vm_st (vm_st (vm_st m2 79 v1 z2) 81 v1 (((vm_st m2 79 v1 z2) 10 4) * ((vm_st m2 79 v1 z2) 10 5))) 82 v1 0) 79 v1) →
                ((0 ≤ v1 ∧ v1 < 12) ∧ (vm_32 ((m 10 0) - ((vm_st (vm_st (vm_st m2 79 v1 z2) 81 v1 (((vm_st m2 79 v1 z2) 10 4) * ((vm_st m2 79 v1 z2) 10 5))) 82 v1 0) 79 v1))) ∧ (0 ≤ (if 0 < ((m 10 0) - ((vm_st (vm_st (vm_st m2 79 v1 z2) 81 v1 (((vm_st m2 79 v1 z2) 10 4) * ((vm_st m2 79 v1 z2) 10 5))) 82 v1 0) 79 v1)) then ((m 10 0) - ((vm_st (vm_st (vm_st m2 79 v1 z2) 81 v1 (((vm_st m2 79 v1 z2) 10 4) * ((vm_st m2 79 v1 z2) 10 5))) 82 v1 0) 79 v1)) else 0) ∧ (0 : Int) < 2) ∧ (0 ≤ v1 ∧ v1 < 12)) ∧
                Q (vm_st (vm_st (vm_st (vm_st m2 79 v1 z2) 81 v1 (((vm_st m2 79 v1 z2) 10 4) * ((vm_st m2 79 v1 z2) 10 5))) 82 v1 0) 80 v1 ((if 0 < ((m 10 0) - ((vm_st (vm_st (vm_st m2 79 v1 z2) 81 v1 (((vm_st m2 79 v1 z2) 10 4) * ((vm_st m2 79 v1 z2) 10 5))) 82 v1 0) 79 v1)) then ((m 10 0) - ((vm_st (vm_st (vm_st m2 79 v1 z2) 81 v1 (((vm_st m2 79 v1 z2) 10 4) * ((vm_st m2 79 v1 z2) 10 5))) 82 v1 0) 79 v1)) else 0) / 2))) ∧ (¬ (m 10 0) ≤ ((vm_st (vm_st (vm_st m2 79 v1 z2) 81 v1 (((vm_st m2 79 v1 z2) 10 4) * ((vm_st m2 79 v1 z2) 10 5))) 82 v1 0) 79 v1) →
                ((0 ≤ v1 ∧ v1 < 12) ∧ (vm_32 ((m 10 0) - ((vm_st (vm_st (vm_st m2 79 v1 z2) 81 v1 (((vm_st m2 79 v1 z2) 10 4) * ((vm_st m2 79 v1 z2) 10 5))) 82 v1 0) 79 v1))) ∧ (0 ≤ v1 ∧ v1 < 12) ∧ (0 ≤ ((m 10 0) - ((vm_st (vm_st (vm_st m2 79 v1 z2) 81 v1 (((vm_st m2 79 v1 z2) 10 4) * ((vm_st m2 79 v1 z2) 10 5))) 82 v1 0) 79 v1)) ∧ (0 : Int) < (z1 - 1)) ∧ (vm_32 (((vm_st (vm_st (vm_st m2 79 v1 z2) 81 v1 (((vm_st m2 79 v1 z2) 10 4) * ((vm_st m2 79 v1 z2) 10 5))) 82 v1 0) 81 v1) + (((m 10 0) - ((vm_st (vm_st (vm_st m2 79 v1 z2) 81 v1 (((vm_st m2 79 v1 z2) 10 4) * ((vm_st m2 79 v1 z2) 10 5))) 82 v1 0) 79 v1)) / (z1 - 1)))) ∧ (0 ≤ v1 ∧ v1 < 12) ∧ (0 ≤ ((m 10 0) - ((vm_st (vm_st (vm_st m2 79 v1 z2) 81 v1 (((vm_st m2 79 v1 z2) 10 4) * ((vm_st m2 79 v1 z2) 10 5))) 82 v1 0) 79 v1)) ∧ (0 : Int) < (z1 - 1)) ∧ (0 ≤ v1 ∧ v1 < 12) ∧ (0 ≤ v1 ∧ v1 < 12) ∧ (0 ≤ v1 ∧ v1 < 12) ∧ (vm_32 ((m 10 0) - ((vm_st (vm_st (vm_st (vm_st (vm_st (vm_st m2 79 v1 z2) 81 v1 (((vm_st m2 79 v1 z2) 10 4) * ((vm_st m2 79 v1 z2) 10 5))) 82 v1 0) 81 v1 (((vm_st (vm_st (vm_st m2 79 v1 z2) 81 v1 (((vm_st m2 79 v1 z2) 10 4) * ((vm_st m2 79 v1 z2) 10 5))) 82 v1 0) 81 v1) + (((m 10 0) - ((vm_st (vm_st (vm_st m2 79 v1 z2) 81 v1 (((vm_st m2 79 v1 z2) 10 4) * ((vm_st m2 79 v1 z2) 10 5))) 82 v1 0) 79 v1)) / (z1 - 1)))) 82 v1 (((m 10 0) - ((vm_st (vm_st (vm_st m2 79 v1 z2) 81 v1 (((vm_st m2 79 v1 z2) 10 4) * ((vm_st m2 79 v1 z2) 10 5))) 82 v1 0) 79 v1)) % (z1 - 1))) 79 v1 (m 10 0)) 79 v1))) ∧ (0 ≤ (if 0 < ((m 10 0) - ((vm_st (vm_st (vm_st (vm_st (vm_st (vm_st m2 79 v1 z2) 81 v1 (((vm_st m2 79 v1 z2) 10 4) * ((vm_st m2 79 v1 z2) 10 5))) 82 v1 0) 81 v1 (((vm_st (vm_st (vm_st m2 79 v1 z2) 81 v1 (((vm_st m2 79 v1 z2) 10 4) * ((vm_st m2 79 v1 z2) 10 5))) 82 v1 0) 81 v1) + (((m 10 0) - ((vm_st (vm_st (vm_st m2 79 v1 z2) 81 v1 (((vm_st m2 79 v1 z2) 10 4) * ((vm_st m2 79 v1 z2) 10 5))) 82 v1 0) 79 v1)) / (z1 - 1)))) 82 v1 (((m 10 0) - ((vm_st (vm_st (vm_st m2 79 v1 z2) 81 v1 (((vm_st m2 79 v1 z2) 10 4) * ((vm_st m2 79 v1 z2) 10 5))) 82 v1 0) 79 v1)) % (z1 - 1))) 79 v1 (m 10 0)) 79 v1)) then ((m 10 0) - ((vm_st (vm_st (vm_st (vm_st (vm_st (vm_st m2 79 v1 z2) 81 v1 (((vm_st m2 79 v1 z2) 10 4) * ((vm_st m2 79 v1 z2) 10 5))) 82 v1 0) 81 v1 (((vm_st (vm_st (vm_st m2 79 v1 z2) 81 v1 (((vm_st m2 79 v1 z2) 10 4) * ((vm_st m2 79 v1 z2) 10 5))) 82 v1 0) 81 v1) + (((m 10 0) - ((vm_st (vm_st (vm_st m2 79 v1 z2) 81 v1 (((vm_st m2 79 v1 z2) 10 4) * ((vm_st m2 79 v1 z2) 10 5))) 82 v1 0) 79 v1)) / (z1 - 1)))) 82 v1 (((m 10 0) - ((vm_st (vm_st (vm_st m2 79 v1 z2) 81 v1 (((vm_st m2 79 v1 z2) 10 4) * ((vm_st m2 79 v1 z2) 10 5))) 82 v1 0) 79 v1)) % (z1 - 1))) 79 v1 (m 10 0)) 79 v1)) else 0) ∧ (0 : Int) < 2) ∧ (0 ≤ v1 ∧ v1 < 12)) ∧
                Q (vm_st (vm_st (vm_st (vm_st (vm_st (vm_st (vm_st m2 79 v1 z2) 81 v1 (((vm_st m2 79 v1 z2) 10 4) * ((vm_st m2 79 v1 z2) 10 5))) 82 v1 0) 81 v1 (((vm_st (vm_st (vm_st m2 79 v1 z2) 81 v1 (((vm_st m2 79 v1 z2) 10 4) * ((vm_st m2 79 v1 z2) 10 5))) 82 v1 0) 81 v1) + (((m 10 0) - ((vm_st (vm_st (vm_st m2 79 v1 z2) 81 v1 (((vm_st m2 79 v1 z2) 10 4) * ((vm_st m2 79 v1 z2) 10 5))) 82 v1 0) 79 v1)) / (z1 - 1)))) 82 v1 (((m 10 0) - ((vm_st (vm_st (vm_st m2 79 v1 z2) 81 v1 (((vm_st m2 79 v1 z2) 10 4) * ((vm_st m2 79 v1 z2) 10 5))) 82 v1 0) 79 v1)) % (z1 - 1))) 79 v1 (m 10 0)) 80 v1 ((if 0 < ((m 10 0) - ((vm_st (vm_st (vm_st (vm_st (vm_st (vm_st m2 79 v1 z2) 81 v1 (((vm_st m2 79 v1 z2) 10 4) * ((vm_st m2 79 v1 z2) 10 5))) 82 v1 0) 81 v1 (((vm_st (vm_st (vm_st m2 79 v1 z2) 81 v1 (((vm_st m2 79 v1 z2) 10 4) * ((vm_st m2 79 v1 z2) 10 5))) 82 v1 0) 81 v1) + (((m 10 0) - ((vm_st (vm_st (vm_st m2 79 v1 z2) 81 v1 (((vm_st m2 79 v1 z2) 10 4) * ((vm_st m2 79 v1 z2) 10 5))) 82 v1 0) 79 v1)) / (z1 - 1)))) 82 v1 (((m 10 0) - ((vm_st (vm_st (vm_st m2 79 v1 z2) 81 v1 (((vm_st m2 79 v1 z2) 10 4) * ((vm_st m2 79 v1 z2) 10 5))) 82 v1 0) 79 v1)) % (z1 - 1))) 79 v1 (m 10 0)) 79 v1)) then ((m 10 0) - ((vm_st (vm_st (vm_st (vm_st (vm_st (vm_st m2 79 v1 z2) 81 v1 (((vm_st m2 79 v1 z2) 10 4) * ((vm_st m2 79 v1 z2) 10 5))) 82 v1 0) 81 v1 (((vm_st (vm_st (vm_st m2 79 v1 z2) 81 v1 (((vm_st m2 79 v1 z2) 10 4) * ((vm_st m2 79 v1 z2) 10 5))) 82 v1 0) 81 v1) + (((m 10 0) - ((vm_st (vm_st (vm_st m2 79 v1 z2) 81 v1 (((vm_st m2 79 v1 z2) 10 4) * ((vm_st m2 79 v1 z2) 10 5))) 82 v1 0) 79 v1)) / (z1 - 1)))) 82 v1 (((m 10 0) - ((vm_st (vm_st (vm_st m2 79 v1 z2) 81 v1 (((vm_st m2 79 v1 z2) 10 4) * ((vm_st m2 79 v1 z2) 10 5))) 82 v1 0) 79 v1)) % (z1 - 1))) 79 v1 (m 10 0)) 79 v1)) else 0) / 2)))))))))))) ∧ (¬ (m1 9 5) = 0 →
        (vm_C 40 [vm_r 77, vm_i v1] m1 (vm_qi (fun z3 m3 =>
          ((0 ≤ v1 ∧ v1 < 12) ∧ (0 ≤ v1 ∧ v1 < 12)) ∧
          (vm_C 50 [vm_r 77, vm_i v1, vm_i ((vm_st m3 78 v1 z3) 78 v1)] (vm_st m3 78 v1 z3) (vm_qi (fun z4 m4 =>
            ((0 ≤ v1 ∧ v1 < 12) ∧ (vm_32 (((vm_st m4 79 v1 z4) 10 4) * ((vm_st m4 79 v1 z4) 10 5))) ∧ (0 ≤ v1 ∧ v1 < 12) ∧ (0 ≤ v1 ∧ v1 < 12)) ∧
            ((((vm_st (vm_st (vm_st m4 79 v1 z4) 81 v1 (((vm_st m4 79 v1 z4) 10 4) * ((vm_st m4 79 v1 z4) 10 5))) 82 v1 0) 9 5) = 0 →
              ((0 ≤ v1 ∧ v1 < 12) ∧ (vm_32 ((m 10 0) - ((vm_st (vm_st (vm_st m4 79 v1 z4) 81 v1 (((vm_st m4 79 v1 z4) 10 4) * ((vm_st m4 79 v1 z4) 10 5))) 82 v1 0) 79 v1))) ∧ (0 ≤ (if 0 < ((m 10 0) - ((vm_st (vm_st (vm_st m4 79 v1 z4) 81 v1 (((vm_st m4 79 v1 z4) 10 4) * ((vm_st m4 79 v1 z4) 10 5))) 82 v1 0) 79 v1)) then ((m 10 0) - ((vm_st (vm_st (vm_st m4 79 v1 z4) 81 v1 (((vm_st m4 79 v1 z4) 10 4) * ((vm_st m4 79 v1 z4) 10 5))) 82 v1 0) 79 v1)) else 0) ∧ (0 : Int) < 2) ∧ (0 ≤ v1 ∧ v1 < 12)) ∧
              Q (vm_st (vm_st (vm_st (vm_st m4 79 v1 z4) 81 v1 (((vm_st m4 79 v1 z4) 10 4) * ((vm_st m4 79 v1 z4) 10 5))) 82 v1 0) 80 v1 ((if 0 < ((m 10 0) - ((vm_st (vm_st (vm_st m4 79 v1 z4) 81 v1 (((vm_st m4 79 v1 z4) 10 4) * ((vm_st m4 79 v1 z4) 10 5))) 82 v1 0) 79 v1)) then ((m 10 0) - ((vm_st (vm_st (vm_st m4 79 v1 z4) 81 v1 (((vm_st m4 79 v1 z4) 10 4) * ((vm_st m4 79 v1 z4) 10 5))) 82 v1 0) 79 v1)) else 0) / 2))) ∧ (¬ ((vm_st (vm_st (vm_st m4 79 v1 z4) 81 v1 (((vm_st m4 79 v1 z4) 10 4) * ((vm_st m4 79 v1 z4) 10 5))) 82 v1 0) 9 5) = 0 →
              (((z1 - 1) ≤ 0 →
                ((0 ≤ v1 ∧ v1 < 12) ∧ (vm_32 ((m 10 0) - ((vm_st (vm_st (vm_st m4 79 v1 z4) 81 v1 (((vm_st m4 79 v1 z4) 10 4) * ((vm_st m4 79 v1 z4) 10 5))) 82 v1 0) 79 v1))) ∧ (0 ≤ (if 0 < ((m 10 0) - ((vm_st (vm_st (vm_st m4 79 v1 z4) 81 v1 (((vm_st m4 79 v1 z4) 10 4) * ((vm_st m4 79 v1 z4) 10 5))) 82 v1 0) 79 v1)) then ((m 10 0) - ((vm_st (vm_st (vm_st m4 79 v1 z4) 81 v1 (((vm_st m4 79 v1 z4) 10 4) * ((vm_st m4 79 v1 z4) 10 5))) 82 v1 0) 79 v1)) else 0) ∧ (0 : Int) < 2) ∧ (0 ≤ v1 ∧ v1 < 12)) ∧
                Q (vm_st (vm_st (vm_st (vm_st m4 79 v1 z4) 81 v1 (((vm_st m4 79 v1 z4) 10 4) * ((vm_st m4 79 v1 z4) 10 5))) 82 v1 0) 80 v1 ((if 0 < ((m 10 0) - ((vm_st (vm_st (vm_st m4 79 v1 z4) 81 v1 (((vm_st m4 79 v1 z4) 10 4) * ((vm_st m4 79 v1 z4) 10 5))) 82 v1 0) 79 v1)) then ((m 10 0) - ((vm_st (vm_st (vm_st m4 79 v1 z4) 81 v1 (((vm_st m4 79 v1 z4) 10 4) * ((vm_st m4 79 v1 z4) 10 5))) 82 v1 0) 79 v1)) else 0) / 2))) ∧ (¬ (z1 - 1) ≤ 0 →
                ((0 ≤ v1 ∧ v1 < 12)) ∧
                (((m 10 0) ≤ ((vm_st (vm_st (vm_st m4 79 v1 z4) 81 v1 (((vm_st m4 79 v1 z4) 10 4) * ((vm_st m4 79 v1 z4) 10 5))) 82 v1 0) 79 v1) →
                  ((0 ≤ v1 ∧ v1 < 12) ∧ (vm_32 ((m 10 0) - ((vm_st (vm_st (vm_st m4 79 v1 z4) 81 v1 (((vm_st m4 79 v1 z4) 10 4) * ((vm_st m4 79 v1 z4) 10 5))) 82 v1 0) 79 v1))) ∧ (0 ≤ (if 0 < ((m 10 0) - ((vm_st (vm_st (vm_st m4 79 v1 z4) 81 v1 (((vm_st m4 79 v1 z4) 10 4) * ((vm_st m4 79 v1 z4) 10 5))) 82 v1 0) 79 v1)) then ((m 10 0) - ((vm_st (vm_st (vm_st m4 79 v1 z4) 81 v1 (((vm_st m4 79 v1 z4) 10 4) * ((vm_st m4 79 v1 z4) 10 5))) 82 v1 0) 79 v1)) else 0) ∧ (0 : Int) < 2) ∧ (0 ≤ v1 ∧ v1 < 12)) ∧
                  Q (vm_st (vm_st (vm_st (vm_st m4 79 v1 z4) 81 v1 (((vm_st m4 79 v1 z4) 10 4) * ((vm_st m4 79 v1 z4) 10 5))) 82 v1 0) 80 v1 ((if 0 < ((m 10 0) - ((vm_st (vm_st (vm_st m4 79 v1 z4) 81 v1 (((vm_st m4 79 v1 z4) 10 4) * ((vm_st m4 79 v1 z4) 10 5))) 82 v1 0) 79 v1)) then ((m 10 0) - ((vm_st (vm_st (vm_st m4 79 v1 z4) 81 v1 (((vm_st m4 79 v1 z4) 10 4) * ((vm_st m4 79 v1 z4) 10 5))) 82 v1 0) 79 v1)) else 0) / 2))) ∧ (¬ (m 10 0) ≤ ((vm_st (vm_st (vm_st m4 79 v1 z4) 81 v1 (((vm_st m4 79 v1 z4) 10 4) * ((vm_st m4 79 v1 z4) 10 5))) 82 v1 0) 79 v1) →
                  ((0 ≤ v1 ∧ v1 < 12) ∧ (vm_32 ((m 10 0) - ((vm_st (vm_st (vm_st m4 79 v1 z4) 81 v1 (((vm_st m4 79 v1 z4) 10 4) * ((vm_st m4 79 v1 z4) 10 5))) 82 v1 0) 79 v1))) ∧ (0 ≤ v1 ∧ v1 < 12) ∧ (0 ≤ ((m 10 0) - ((vm_st (vm_st (vm_st m4 79 v1 z4) 81 v1 (((vm_st m4 79 v1 z4) 10 4) * ((vm_st m4 79 v1 z4) 10 5))) 82 v1 0) 79 v1)) ∧ (0 : Int) < (z1 - 1)) ∧ (vm_32 (((vm_st (vm_st (vm_st m4 79 v1 z4) 81 v1 (((vm_st m4 79 v1 z4) 10 4) * ((vm_st m4 79 v1 z4) 10 5))) 82 v1 0) 81 v1) + (((m 10 0) - ((vm_st (vm_st (vm_st m4 79 v1 z4) 81 v1 (((vm_st m4 79 v1 z4) 10 4) * ((vm_st m4 79 v1 z4) 10 5))) 82 v1 0) 79 v1)) / (z1 - 1)))) ∧ (0 ≤ v1 ∧ v1 < 12) ∧ (0 ≤ ((m 10 0) - ((vm_st (vm_st (vm_st m4 79 v1 z4) 81 v1 (((vm_st m4 79 v1 z4) 10 4) * ((vm_st m4 79 v1 z4) 10 5))) 82 v1 0) 79 v1)) ∧ (0 : Int) < (z1 - 1)) ∧ (0 ≤ v1 ∧ v1 < 12) ∧ (0 ≤ v1 ∧ v1 < 12) ∧ (0 ≤ v1 ∧ v1 < 12) ∧ (vm_32 ((m 10 0) - ((vm_st (vm_st (vm_st (vm_st (vm_st (vm_st m4 79 v1 z4) 81 v1 (((vm_st m4 79 v1 z4) 10 4) * ((vm_st m4 79 v1 z4) 10 5))) 82 v1 0) 81 v1 (((vm_st (vm_st (vm_st m4 79 v1 z4) 81 v1 (((vm_st m4 79 v1 z4) 10 4) * ((vm_st m4 79 v1 z4) 10 5))) 82 v1 0) 81 v1) + (((m 10 0) - ((vm_st (vm_st (vm_st m4 79 v1 z4) 81 v1 (((vm_st m4 79 v1 z4) 10 4) * ((vm_st m4 79 v1 z4) 10 5))) 82 v1 0) 79 v1)) / (z1 - 1)))) 82 v1 (((m 10 0) - ((vm_st (vm_st (vm_st m4 79 v1 z4) 81 v1 (((vm_st m4 79 v1 z4) 10 4) * ((vm_st m4 79 v1 z4) 10 5))) 82 v1 0) 79 v1)) % (z1 - 1))) 79 v1 (m 10 0)) 79 v1))) ∧ (0 ≤ (if 0 < ((m 10 0) - ((vm_st (vm_st (vm_st (vm_st (vm_st (vm_st m4 79 v1 z4) 81 v1 (((vm_st m4 79 v1 z4) 10 4) * ((vm_st m4 79 v1 z4) 10 5))) 82 v1 0) 81 v1 (((vm_st (vm_st (vm_st m4 79 v1 z4) 81 v1 (((vm_st m4 79 v1 z4) 10 4) * ((vm_st m4 79 v1 z4) 10 5))) 82 v1 0) 81 v1) + (((m 10 0) - ((vm_st (vm_st (vm_st m4 79 v1 z4) 81 v1 (((vm_st m4 79 v1 z4) 10 4) * ((vm_st m4 79 v1 z4) 10 5))) 82 v1 0) 79 v1)) / (z1 - 1)))) 82 v1 (((m 10 0) - ((vm_st (vm_st (vm_st m4 79 v1 z4) 81 v1 (((vm_st m4 79 v1 z4) 10 4) * ((vm_st m4 79 v1 z4) 10 5))) 82 v1 0) 79 v1)) % (z1 - 1))) 79 v1 (m 10 0)) 79 v1)) then ((m 10 0) - ((vm_st (vm_st (vm_st (vm_st (vm_st (vm_st m4 79 v1 z4) 81 v1 (((vm_st m4 79 v1 z4) 10 4) * ((vm_st m4 79 v1 z4) 10 5))) 82 v1 0) 81 v1 (((vm_st (vm_st (vm_st m4 79 v1 z4) 81 v1 (((vm_st m4 79 v1 z4) 10 4) * ((vm_st m4 79 v1 z4) 10 5))) 82 v1 0) 81 v1) + (((m 10 0) - ((vm_st (vm_st (vm_st m4 79 v1 z4) 81 v1 (((vm_st m4 79 v1 z4) 10 4) * ((vm_st m4 79 v1 z4) 10 5))) 82 v1 0) 79 v1)) / (z1 - 1)))) 82 v1 (((m 10 0) - ((vm_st (vm_st (vm_st m4 79 v1 z4) 81 v1 (((vm_st m4 79 v1 z4) 10 4) * ((vm_st m4 79 v1 z4) 10 5))) 82 v1 0) 79 v1)) % (z1 - 1))) 79 v1 (m 10 0)) 79 v1)) else 0) ∧ (0 : Int) < 2) ∧ (0 ≤ v1 ∧ v1 < 12)) ∧
                  Q (vm_st (vm_st (vm_st (vm_st (vm_st (vm_st (vm_st m4 79 v1 z4) 81 v1 (((vm_st m4 79 v1 z4) 10 4) * ((vm_st m4 79 v1 z4) 10 5))) 82 v1 0) 81 v1 (((vm_st (vm_st (vm_st m4 79 v1 z4) 81 v1 (((vm_st m4 79 v1 z4) 10 4) * ((vm_st m4 79 v1 z4) 10 5))) 82 v1 0) 81 v1) + (((m 10 0) - ((vm_st (vm_st (vm_st m4 79 v1 z4) 81 v1 (((vm_st m4 79 v1 z4) 10 4) * ((vm_st m4 79 v1 z4) 10 5))) 82 v1 0) 79 v1)) / (z1 - 1)))) 82 v1 (((m 10 0) - ((vm_st (vm_st (vm_st m4 79 v1 z4) 81 v1 (((vm_st m4 79 v1 z4) 10 4) * ((vm_st m4 79 v1 z4) 10 5))) 82 v1 0) 79 v1)) % (z1 - 1))) 79 v1 (m 10 0)) 80 v1 ((if 0 < ((m 10 0) - ((vm_st (vm_st (vm_st (vm_st (vm_st (vm_st m4 79 v1 z4) 81 v1 (((vm_st m4 79 v1 z4) 10 4) * ((vm_st m4 79 v1 z4) 10 5))) 82 v1 0) 81 v1 (((vm_st (vm_st (vm_st m4 79 v1 z4) 81 v1 (((vm_st m4 79 v1 z4) 10 4) * ((vm_st m4 79 v1 z4) 10 5))) 82 v1 0) 81 v1) + (((m 10 0) - ((vm_st (vm_st (vm_st m4 79 v1 z4) 81 v1 (((vm_st m4 79 v1 z4) 10 4) * ((vm_st m4 79 v1 z4) 10 5))) 82 v1 0) 79 v1)) / (z1 - 1)))) 82 v1 (((m 10 0) - ((vm_st (vm_st (vm_st m4 79 v1 z4) 81 v1 (((vm_st m4 79 v1 z4) 10 4) * ((vm_st m4 79 v1 z4) 10 5))) 82 v1 0) 79 v1)) % (z1 - 1))) 79 v1 (m 10 0)) 79 v1)) then ((m 10 0) - ((vm_st (vm_st (vm_st (vm_st (vm_st (vm_st m4 79 v1 z4) 81 v1 (((vm_st m4 79 v1 z4) 10 4) * ((vm_st m4 79 v1 z4) 10 5))) 82 v1 0) 81 v1 (((vm_st (vm_st (vm_st m4 79 v1 z4) 81 v1 (((vm_st m4 79 v1 z4) 10 4) * ((vm_st m4 79 v1 z4) 10 5))) 82 v1 0) 81 v1) + (((m 10 0) - ((vm_st (vm_st (vm_st m4 79 v1 z4) 81 v1 (((vm_st m4 79 v1 z4) 10 4) * ((vm_st m4 79 v1 z4) 10 5))) 82 v1 0) 79 v1)) / (z1 - 1)))) 82 v1 (((m 10 0) - ((vm_st (vm_st (vm_st m4 79 v1 z4) 81 v1 (((vm_st m4 79 v1 z4) 10 4) * ((vm_st m4 79 v1 z4) 10 5))) 82 v1 0) 79 v1)) % (z1 - 1))) 79 v1 (m 10 0)) 79 v1)) else 0) / 2)))))))))))))))))))) : vm_C 51 [vm_r 77, vm_i v1] m (vm_qv Q) := by
  show vm_G 51 0 [some (vm_r 77), some (vm_i v1), none, none, none] [] m (vm_qv Q)
  refine vm_gp [(.aload 0, 0, 0, []), (.getfield 2, 3, 1, [(9, 0)]), (.getfield 2, 4, 0, [(1, 1)]), (.iconst 0, 0, 0, []), (.iaload, 6, 0, []), (.istore 2, 0, 0, []), (.aload 0, 0, 0, []), (.getfield 2, 3, 3, [(67, 0)]), (.iload 1, 0, 0, [])] (pc1 := 15) (ls1 := [some (vm_r 77), some (vm_i v1), some (vm_i (m 10 0)), none, none]) (st1 := [vm_i v1, vm_r 67]) (m1 := m) (ob := ((((((((true && vm_is 77 3) && true) && vm_is 9 4) && true) && vm_ar 10 100 6) && decide ((0 : Int) ≤ 0 ∧ (0 : Int) < 6)) && vm_is 77 3) && true)) (by decide +kernel) rfl (vm_u (vm_u (vm_t (vm_u (vm_u (vm_u (vm_u (vm_u rfl (by decide +kernel)) rfl) (by decide +kernel)) rfl) (by decide +kernel)) (by decide)) (by decide +kernel)) rfl) ?_
  refine vm_gc (g := 16) (na := 2) (av := [vm_r 67, vm_i v1]) (rest := []) (i := (.invokevirtual 0, 16, 2, [])) (len := 3) (by decide +kernel) rfl rfl rfl (by decide +kernel) (by decide +kernel) rfl rfl (vm_u (vm_okh_v (c := 1) (by decide +kernel) (by decide +kernel)) (show vm_okn 16 2 0 0 0 2 = true by decide +kernel)) ?_
  refine vm_G.mono h ?_
  rintro _ m1 ⟨z1, rfl, h⟩
  show vm_G 51 18 [some (vm_r 77), some (vm_i v1), some (vm_i (m 10 0)), none, none] [vm_i z1] m1 _
  obtain ⟨o2_0, h⟩ := h
  refine vm_gp [(.iconst 1, 0, 0, []), (.isub, 0, 0, []), (.istore 3, 0, 0, []), (.aload 0, 0, 0, []), (.getfield 2, 3, 4, [(78, 0)]), (.iload 1, 0, 0, []), (.aload 0, 0, 0, []), (.getfield 2, 3, 1, [(9, 0)]), (.getfield 0, 4, 5, [])] (pc1 := 33) (ls1 := [some (vm_r 77), some (vm_i v1), some (vm_i (m 10 0)), some (vm_i (z1 - 1)), none]) (st1 := [vm_i (m1 9 5), vm_i v1, vm_r 78]) (m1 := m1) (ob := ((((((true && decide (vm_32 (z1 - 1))) && vm_is 77 3) && true) && vm_is 77 3) && true) && vm_is 9 4)) (by decide +kernel) rfl (vm_u (vm_u (vm_u (vm_u (vm_u (vm_t rfl o2_0) (by decide +kernel)) rfl) (by decide +kernel)) rfl) (by decide +kernel)) ?_
  refine vm_gj (c := (m1 9 5) = 0) (t := 44) (e := 36) (i := (.ifCond .eq 0, 44, 0, [])) (len := 3) (st1 := [vm_i v1, vm_r 78]) (by decide +kernel) rfl rfl (fun c1 => ?_) (fun c1 => ?_)
  · replace h := h.1 c1
    obtain ⟨⟨o3_0, o3_1⟩, h⟩ := h
    refine vm_gp [(.aload 0, 0, 0, []), (.getfield 2, 3, 1, [(9, 0)]), (.getfield 2, 4, 0, [(1, 1)]), (.iconst 3, 0, 0, []), (.iaload, 6, 0, []), (.iastore, 12, 0, []), (.aload 0, 0, 0, []), (.getfield 2, 3, 5, [(79, 0)]), (.iload 1, 0, 0, []), (.aload 0, 0, 0, []), (.iload 1, 0, 0, []), (.aload 0, 0, 0, []), (.getfield 2, 3, 4, [(78, 0)]), (.iload 1, 0, 0, []), (.iaload, 12, 0, [])] (pc1 := 67) (ls1 := [some (vm_r 77), some (vm_i v1), some (vm_i (m 10 0)), some (vm_i (z1 - 1)), none]) (st1 := [vm_i ((vm_st m1 78 v1 (m1 10 3)) 78 v1), vm_i v1, vm_r 77, vm_i v1, vm_r 79]) (m1 := (vm_st m1 78 v1 (m1 10 3))) (ob := ((((((((((((((true && vm_is 77 3) && true) && vm_is 9 4) && true) && vm_ar 10 100 6) && decide ((0 : Int) ≤ 3 ∧ (3 : Int) < 6)) && vm_ar 78 100 12) && decide (0 ≤ v1 ∧ v1 < 12)) && vm_is 77 3) && true) && vm_is 77 3) && true) && vm_ar 78 100 12) && decide (0 ≤ v1 ∧ v1 < 12))) (by decide +kernel) rfl (vm_t (vm_u (vm_u (vm_u (vm_u (vm_u (vm_t (vm_u (vm_t (vm_u (vm_u (vm_u (vm_u (vm_u rfl (by decide +kernel)) rfl) (by decide +kernel)) rfl) (by decide +kernel)) (by decide)) (by decide +kernel)) o3_0) (by decide +kernel)) rfl) (by decide +kernel)) rfl) (by decide +kernel)) o3_1) ?_
    refine vm_gc (g := 50) (na := 3) (av := [vm_r 77, vm_i v1, vm_i ((vm_st m1 78 v1 (m1 10 3)) 78 v1)]) (rest := [vm_i v1, vm_r 79]) (i := (.invokevirtual 0, 50, 3, [])) (len := 3) (by decide +kernel) rfl rfl rfl (by decide +kernel) (by decide +kernel) rfl rfl (vm_u (vm_okh_v (c := 3) (by decide +kernel) (by decide +kernel)) (show vm_okn 50 3 2 0 0 3 = true by decide +kernel)) ?_
    refine vm_G.mono h ?_
    rintro _ m2 ⟨z2, rfl, h⟩
    show vm_G 51 70 [some (vm_r 77), some (vm_i v1), some (vm_i (m 10 0)), some (vm_i (z1 - 1)), none] [vm_i z2, vm_i v1, vm_r 79] m2 _
    obtain ⟨⟨o4_0, o4_1, o4_2, o4_3⟩, h⟩ := h
    refine vm_gp [(.iastore, 12, 0, []), (.aload 0, 0, 0, []), (.getfield 2, 3, 7, [(81, 0)]), (.iload 1, 0, 0, []), (.aload 0, 0, 0, []), (.getfield 2, 3, 1, [(9, 0)]), (.getfield 2, 4, 0, [(1, 1)]), (.iconst 4, 0, 0, []), (.iaload, 6, 0, []), (.aload 0, 0, 0, []), (.getfield 2, 3, 1, [(9, 0)]), (.getfield 2, 4, 0, [(1, 1)]), (.iconst 5, 0, 0, []), (.iaload, 6, 0, []), (.imul, 0, 0, []), (.iastore, 12, 0, []), (.aload 0, 0, 0, []), (.getfield 2, 3, 8, [(82, 0)]), (.iload 1, 0, 0, []), (.iconst 0, 0, 0, []), (.iastore, 12, 0, []), (.aload 0, 0, 0, []), (.getfield 2, 3, 1, [(9, 0)]), (.getfield 0, 4, 5, [])] (pc1 := 110) (ls1 := [some (vm_r 77), some (vm_i v1), some (vm_i (m 10 0)), some (vm_i (z1 - 1)), none]) (st1 := [vm_i ((vm_st (vm_st (vm_st m2 79 v1 z2) 81 v1 (((vm_st m2 79 v1 z2) 10 4) * ((vm_st m2 79 v1 z2) 10 5))) 82 v1 0) 9 5)]) (m1 := (vm_st (vm_st (vm_st m2 79 v1 z2) 81 v1 (((vm_st m2 79 v1 z2) 10 4) * ((vm_st m2 79 v1 z2) 10 5))) 82 v1 0)) (ob := ((((((((((((((((((((((((((true && vm_ar 79 100 12) && decide (0 ≤ v1 ∧ v1 < 12)) && vm_is 77 3) && true) && vm_is 77 3) && true) && vm_is 9 4) && true) && vm_ar 10 100 6) && decide ((0 : Int) ≤ 4 ∧ (4 : Int) < 6)) && vm_is 77 3) && true) && vm_is 9 4) && true) && vm_ar 10 100 6) && decide ((0 : Int) ≤ 5 ∧ (5 : Int) < 6)) && decide (vm_32 (((vm_st m2 79 v1 z2) 10 4) * ((vm_st m2 79 v1 z2) 10 5)))) && vm_ar 81 100 12) && decide (0 ≤ v1 ∧ v1 < 12)) && vm_is 77 3) && true) && vm_ar 82 100 12) && decide (0 ≤ v1 ∧ v1 < 12)) && vm_is 77 3) && true) && vm_is 9 4)) (by decide +kernel) rfl (vm_u (vm_u (vm_u (vm_t (vm_u (vm_u (vm_u (vm_t (vm_u (vm_t (vm_t (vm_u (vm_u (vm_u (vm_u (vm_u (vm_t (vm_u (vm_u (vm_u (vm_u (vm_u (vm_u (vm_u (vm_t (vm_u rfl (by decide +kernel)) o4_0) (by decide +kernel)) rfl) (by decide +kernel)) rfl) (by decide +kernel)) rfl) (by decide +kernel)) (by decide)) (by decide +kernel)) rfl) (by decide +kernel)) rfl) (by decide +kernel)) (by decide)) o4_1) (by decide +kernel)) o4_2) (by decide +kernel)) rfl) (by decide +kernel)) o4_3) (by decide +kernel)) rfl) (by decide +kernel)) ?_
    refine vm_gj (c := ((vm_st (vm_st (vm_st m2 79 v1 z2) 81 v1 (((vm_st m2 79 v1 z2) 10 4) * ((vm_st m2 79 v1 z2) 10 5))) 82 v1 0) 9 5) = 0) (t := 167) (e := 113) (i := (.ifCond .eq 0, 167, 0, [])) (len := 3) (st1 := []) (by decide +kernel) rfl rfl (fun c2 => ?_) (fun c2 => ?_)
    · replace h := h.1 c2
      obtain ⟨⟨o5_0, o5_1, o5_2, o5_3⟩, h⟩ := h
      refine vm_gp [(.aload 0, 0, 0, []), (.getfield 2, 3, 6, [(80, 0)]), (.iload 1, 0, 0, []), (.iconst 0, 0, 0, []), (.iload 2, 0, 0, []), (.aload 0, 0, 0, []), (.getfield 2, 3, 5, [(79, 0)]), (.iload 1, 0, 0, []), (.iaload, 12, 0, []), (.isub, 0, 0, []), (.invokestatic 0, 1000, 0, []), (.iconst 2, 0, 0, []), (.idiv, 0, 0, []), (.iastore, 12, 0, [])] (pc1 := 187) (ls1 := [some (vm_r 77), some (vm_i v1), some (vm_i (m 10 0)), some (vm_i (z1 - 1)), none]) (st1 := []) (m1 := (vm_st (vm_st (vm_st (vm_st m2 79 v1 z2) 81 v1 (((vm_st m2 79 v1 z2) 10 4) * ((vm_st m2 79 v1 z2) 10 5))) 82 v1 0) 80 v1 ((if 0 < ((m 10 0) - ((vm_st (vm_st (vm_st m2 79 v1 z2) 81 v1 (((vm_st m2 79 v1 z2) 10 4) * ((vm_st m2 79 v1 z2) 10 5))) 82 v1 0) 79 v1)) then ((m 10 0) - ((vm_st (vm_st (vm_st m2 79 v1 z2) 81 v1 (((vm_st m2 79 v1 z2) 10 4) * ((vm_st m2 79 v1 z2) 10 5))) 82 v1 0) 79 v1)) else 0) / 2))) (ob := (((((((((((true && vm_is 77 3) && true) && vm_is 77 3) && true) && vm_ar 79 100 12) && decide (0 ≤ v1 ∧ v1 < 12)) && decide (vm_32 ((m 10 0) - ((vm_st (vm_st (vm_st m2 79 v1 z2) 81 v1 (((vm_st m2 79 v1 z2) 10 4) * ((vm_st m2 79 v1 z2) 10 5))) 82 v1 0) 79 v1)))) && decide (vm_cats [vm_i v1, vm_r 80] ≤ 8)) && decide (0 ≤ (if 0 < ((m 10 0) - ((vm_st (vm_st (vm_st m2 79 v1 z2) 81 v1 (((vm_st m2 79 v1 z2) 10 4) * ((vm_st m2 79 v1 z2) 10 5))) 82 v1 0) 79 v1)) then ((m 10 0) - ((vm_st (vm_st (vm_st m2 79 v1 z2) 81 v1 (((vm_st m2 79 v1 z2) 10 4) * ((vm_st m2 79 v1 z2) 10 5))) 82 v1 0) 79 v1)) else 0) ∧ (0 : Int) < 2)) && vm_ar 80 100 12) && decide (0 ≤ v1 ∧ v1 < 12))) (by decide +kernel) rfl (vm_t (vm_u (vm_t (vm_t (vm_t (vm_t (vm_u (vm_u (vm_u (vm_u (vm_u rfl (by decide +kernel)) rfl) (by decide +kernel)) rfl) (by decide +kernel)) o5_0) o5_1) (by decide : (2 : Nat) ≤ 8)) o5_2) (by decide +kernel)) o5_3) ?_
      exact vm_gr (r := none) (i := (.return_, 0, 0, [])) (len := 1) (by decide +kernel) rfl rfl rfl ⟨rfl, h⟩
    · replace h := h.2 c2
      refine vm_gp [(.iload 3, 0, 0, [])] (pc1 := 114) (ls1 := [some (vm_r 77), some (vm_i v1), some (vm_i (m 10 0)), some (vm_i (z1 - 1)), none]) (st1 := [vm_i (z1 - 1)]) (m1 := (vm_st (vm_st (vm_st m2 79 v1 z2) 81 v1 (((vm_st m2 79 v1 z2) 10 4) * ((vm_st m2 79 v1 z2) 10 5))) 82 v1 0)) (ob := true) (by decide +kernel) rfl rfl ?_
      refine vm_gj (c := (z1 - 1) ≤ 0) (t := 167) (e := 117) (i := (.ifCond .le 0, 167, 0, [])) (len := 3) (st1 := []) (by decide +kernel) rfl rfl (fun c3 => ?_) (fun c3 => ?_)
      · replace h := h.1 c3
        obtain ⟨⟨o7_0, o7_1, o7_2, o7_3⟩, h⟩ := h
        refine vm_gp [(.aload 0, 0, 0, []), (.getfield 2, 3, 6, [(80, 0)]), (.iload 1, 0, 0, []), (.iconst 0, 0, 0, []), (.iload 2, 0, 0, []), (.aload 0, 0, 0, []), (.getfield 2, 3, 5, [(79, 0)]), (.iload 1, 0, 0, []), (.iaload, 12, 0, []), (.isub, 0, 0, []), (.invokestatic 0, 1000, 0, []), (.iconst 2, 0, 0, []), (.idiv, 0, 0, []), (.iastore, 12, 0, [])] (pc1 := 187) (ls1 := [some (vm_r 77), some (vm_i v1), some (vm_i (m 10 0)), some (vm_i (z1 - 1)), none]) (st1 := []) (m1 := (vm_st (vm_st (vm_st (vm_st m2 79 v1 z2) 81 v1 (((vm_st m2 79 v1 z2) 10 4) * ((vm_st m2 79 v1 z2) 10 5))) 82 v1 0) 80 v1 ((if 0 < ((m 10 0) - ((vm_st (vm_st (vm_st m2 79 v1 z2) 81 v1 (((vm_st m2 79 v1 z2) 10 4) * ((vm_st m2 79 v1 z2) 10 5))) 82 v1 0) 79 v1)) then ((m 10 0) - ((vm_st (vm_st (vm_st m2 79 v1 z2) 81 v1 (((vm_st m2 79 v1 z2) 10 4) * ((vm_st m2 79 v1 z2) 10 5))) 82 v1 0) 79 v1)) else 0) / 2))) (ob := (((((((((((true && vm_is 77 3) && true) && vm_is 77 3) && true) && vm_ar 79 100 12) && decide (0 ≤ v1 ∧ v1 < 12)) && decide (vm_32 ((m 10 0) - ((vm_st (vm_st (vm_st m2 79 v1 z2) 81 v1 (((vm_st m2 79 v1 z2) 10 4) * ((vm_st m2 79 v1 z2) 10 5))) 82 v1 0) 79 v1)))) && decide (vm_cats [vm_i v1, vm_r 80] ≤ 8)) && decide (0 ≤ (if 0 < ((m 10 0) - ((vm_st (vm_st (vm_st m2 79 v1 z2) 81 v1 (((vm_st m2 79 v1 z2) 10 4) * ((vm_st m2 79 v1 z2) 10 5))) 82 v1 0) 79 v1)) then ((m 10 0) - ((vm_st (vm_st (vm_st m2 79 v1 z2) 81 v1 (((vm_st m2 79 v1 z2) 10 4) * ((vm_st m2 79 v1 z2) 10 5))) 82 v1 0) 79 v1)) else 0) ∧ (0 : Int) < 2)) && vm_ar 80 100 12) && decide (0 ≤ v1 ∧ v1 < 12))) (by decide +kernel) rfl (vm_t (vm_u (vm_t (vm_t (vm_t (vm_t (vm_u (vm_u (vm_u (vm_u (vm_u rfl (by decide +kernel)) rfl) (by decide +kernel)) rfl) (by decide +kernel)) o7_0) o7_1) (by decide : (2 : Nat) ≤ 8)) o7_2) (by decide +kernel)) o7_3) ?_
        exact vm_gr (r := none) (i := (.return_, 0, 0, [])) (len := 1) (by decide +kernel) rfl rfl rfl ⟨rfl, h⟩
      · replace h := h.2 c3
        obtain ⟨o8_0, h⟩ := h
        refine vm_gp [(.aload 0, 0, 0, []), (.getfield 2, 3, 5, [(79, 0)]), (.iload 1, 0, 0, []), (.iaload, 12, 0, []), (.iload 2, 0, 0, [])] (pc1 := 124) (ls1 := [some (vm_r 77), some (vm_i v1), some (vm_i (m 10 0)), some (vm_i (z1 - 1)), none]) (st1 := [vm_i (m 10 0), vm_i ((vm_st (vm_st (vm_st m2 79 v1 z2) 81 v1 (((vm_st m2 79 v1 z2) 10 4) * ((vm_st m2 79 v1 z2) 10 5))) 82 v1 0) 79 v1)]) (m1 := (vm_st (vm_st (vm_st m2 79 v1 z2) 81 v1 (((vm_st m2 79 v1 z2) 10 4) * ((vm_st m2 79 v1 z2) 10 5))) 82 v1 0)) (ob := ((((true && vm_is 77 3) && true) && vm_ar 79 100 12) && decide (0 ≤ v1 ∧ v1 < 12))) (by decide +kernel) rfl (vm_t (vm_u (vm_u (vm_u rfl (by decide +kernel)) rfl) (by decide +kernel)) o8_0) ?_
        refine vm_gj (c := (m 10 0) ≤ ((vm_st (vm_st (vm_st m2 79 v1 z2) 81 v1 (((vm_st m2 79 v1 z2) 10 4) * ((vm_st m2 79 v1 z2) 10 5))) 82 v1 0) 79 v1)) (t := 167) (e := 127) (i := (.if_icmp .ge 0, 167, 0, [])) (len := 3) (st1 := []) (by decide +kernel) rfl rfl (fun c4 => ?_) (fun c4 => ?_)
        · replace h := h.1 c4
          obtain ⟨⟨o9_0, o9_1, o9_2, o9_3⟩, h⟩ := h
          refine vm_gp [(.aload 0, 0, 0, []), (.getfield 2, 3, 6, [(80, 0)]), (.iload 1, 0, 0, []), (.iconst 0, 0, 0, []), (.iload 2, 0, 0, []), (.aload 0, 0, 0, []), (.getfield 2, 3, 5, [(79, 0)]), (.iload 1, 0, 0, []), (.iaload, 12, 0, []), (.isub, 0, 0, []), (.invokestatic 0, 1000, 0, []), (.iconst 2, 0, 0, []), (.idiv, 0, 0, []), (.iastore, 12, 0, [])] (pc1 := 187) (ls1 := [some (vm_r 77), some (vm_i v1), some (vm_i (m 10 0)), some (vm_i (z1 - 1)), none]) (st1 := []) (m1 := (vm_st (vm_st (vm_st (vm_st m2 79 v1 z2) 81 v1 (((vm_st m2 79 v1 z2) 10 4) * ((vm_st m2 79 v1 z2) 10 5))) 82 v1 0) 80 v1 ((if 0 < ((m 10 0) - ((vm_st (vm_st (vm_st m2 79 v1 z2) 81 v1 (((vm_st m2 79 v1 z2) 10 4) * ((vm_st m2 79 v1 z2) 10 5))) 82 v1 0) 79 v1)) then ((m 10 0) - ((vm_st (vm_st (vm_st m2 79 v1 z2) 81 v1 (((vm_st m2 79 v1 z2) 10 4) * ((vm_st m2 79 v1 z2) 10 5))) 82 v1 0) 79 v1)) else 0) / 2))) (ob := (((((((((((true && vm_is 77 3) && true) && vm_is 77 3) && true) && vm_ar 79 100 12) && decide (0 ≤ v1 ∧ v1 < 12)) && decide (vm_32 ((m 10 0) - ((vm_st (vm_st (vm_st m2 79 v1 z2) 81 v1 (((vm_st m2 79 v1 z2) 10 4) * ((vm_st m2 79 v1 z2) 10 5))) 82 v1 0) 79 v1)))) && decide (vm_cats [vm_i v1, vm_r 80] ≤ 8)) && decide (0 ≤ (if 0 < ((m 10 0) - ((vm_st (vm_st (vm_st m2 79 v1 z2) 81 v1 (((vm_st m2 79 v1 z2) 10 4) * ((vm_st m2 79 v1 z2) 10 5))) 82 v1 0) 79 v1)) then ((m 10 0) - ((vm_st (vm_st (vm_st m2 79 v1 z2) 81 v1 (((vm_st m2 79 v1 z2) 10 4) * ((vm_st m2 79 v1 z2) 10 5))) 82 v1 0) 79 v1)) else 0) ∧ (0 : Int) < 2)) && vm_ar 80 100 12) && decide (0 ≤ v1 ∧ v1 < 12))) (by decide +kernel) rfl (vm_t (vm_u (vm_t (vm_t (vm_t (vm_t (vm_u (vm_u (vm_u (vm_u (vm_u rfl (by decide +kernel)) rfl) (by decide +kernel)) rfl) (by decide +kernel)) o9_0) o9_1) (by decide : (2 : Nat) ≤ 8)) o9_2) (by decide +kernel)) o9_3) ?_
          exact vm_gr (r := none) (i := (.return_, 0, 0, [])) (len := 1) (by decide +kernel) rfl rfl rfl ⟨rfl, h⟩
        · replace h := h.2 c4
          obtain ⟨⟨o10_0, o10_1, o10_2, o10_3, o10_4, o10_5, o10_6, o10_7, o10_8, o10_9, o10_10, o10_11, o10_12⟩, h⟩ := h
          refine vm_gp [(.iload 2, 0, 0, []), (.aload 0, 0, 0, []), (.getfield 2, 3, 5, [(79, 0)]), (.iload 1, 0, 0, []), (.iaload, 12, 0, []), (.isub, 0, 0, []), (.istore 4, 0, 0, []), (.aload 0, 0, 0, []), (.getfield 2, 3, 7, [(81, 0)]), (.iload 1, 0, 0, []), (.dup2, 0, 0, []), (.iaload, 12, 0, []), (.iload 4, 0, 0, []), (.iload 3, 0, 0, []), (.idiv, 0, 0, []), (.iadd, 0, 0, []), (.iastore, 12, 0, []), (.aload 0, 0, 0, []), (.getfield 2, 3, 8, [(82, 0)]), (.iload 1, 0, 0, []), (.iload 4, 0, 0, []), (.iload 3, 0, 0, []), (.irem, 0, 0, []), (.iastore, 12, 0, []), (.aload 0, 0, 0, []), (.getfield 2, 3, 5, [(79, 0)]), (.iload 1, 0, 0, []), (.iload 2, 0, 0, []), (.iastore, 12, 0, []), (.aload 0, 0, 0, []), (.getfield 2, 3, 6, [(80, 0)]), (.iload 1, 0, 0, []), (.iconst 0, 0, 0, []), (.iload 2, 0, 0, []), (.aload 0, 0, 0, []), (.getfield 2, 3, 5, [(79, 0)]), (.iload 1, 0, 0, []), (.iaload, 12, 0, []), (.isub, 0, 0, []), (.invokestatic 0, 1000, 0, []), (.iconst 2, 0, 0, []), (.idiv, 0, 0, []), (.iastore, 12, 0, [])] (pc1 := 187) (ls1 := [some (vm_r 77), some (vm_i v1), some (vm_i (m 10 0)), some (vm_i (z1 - 1)), some (vm_i ((m 10 0) - ((vm_st (vm_st (vm_st m2 79 v1 z2) 81 v1 (((vm_st m2 79 v1 z2) 10 4) * ((vm_st m2 79 v1 z2) 10 5))) 82 v1 0) 79 v1)))]) (st1 := []) (m1 := (vm_st (vm_st (vm_st (vm_st (vm_st (vm_st (vm_st m2 79 v1 z2) 81 v1 (((vm_st m2 79 v1 z2) 10 4) * ((vm_st m2 79 v1 z2) 10 5))) 82 v1 0) 81 v1 (((vm_st (vm_st (vm_st m2 79 v1 z2) 81 v1 (((vm_st m2 79 v1 z2) 10 4) * ((vm_st m2 79 v1 z2) 10 5))) 82 v1 0) 81 v1) + (((m 10 0) - ((vm_st (vm_st (vm_st m2 79 v1 z2) 81 v1 (((vm_st m2 79 v1 z2) 10 4) * ((vm_st m2 79 v1 z2) 10 5))) 82 v1 0) 79 v1)) / (z1 - 1)))) 82 v1 (((m 10 0) - ((vm_st (vm_st (vm_st m2 79 v1 z2) 81 v1 (((vm_st m2 79 v1 z2) 10 4) * ((vm_st m2 79 v1 z2) 10 5))) 82 v1 0) 79 v1)) % (z1 - 1))) 79 v1 (m 10 0)) 80 v1 ((if 0 < ((m 10 0) - ((vm_st (vm_st (vm_st (vm_st (vm_st (vm_st m2 79 v1 z2) 81 v1 (((vm_st m2 79 v1 z2) 10 4) * ((vm_st m2 79 v1 z2) 10 5))) 82 v1 0) 81 v1 (((vm_st (vm_st (vm_st m2 79 v1 z2) 81 v1 (((vm_st m2 79 v1 z2) 10 4) * ((vm_st m2 79 v1 z2) 10 5))) 82 v1 0) 81 v1) + (((m 10 0) - ((vm_st (vm_st (vm_st m2 79 v1 z2) 81 v1 (((vm_st m2 79 v1 z2) 10 4) * ((vm_st m2 79 v1 z2) 10 5))) 82 v1 0) 79 v1)) / (z1 - 1)))) 82 v1 (((m 10 0) - ((vm_st (vm_st (vm_st m2 79 v1 z2) 81 v1 (((vm_st m2 79 v1 z2) 10 4) * ((vm_st m2 79 v1 z2) 10 5))) 82 v1 0) 79 v1)) % (z1 - 1))) 79 v1 (m 10 0)) 79 v1)) then ((m 10 0) - ((vm_st (vm_st (vm_st (vm_st (vm_st (vm_st m2 79 v1 z2) 81 v1 (((vm_st m2 79 v1 z2) 10 4) * ((vm_st m2 79 v1 z2) 10 5))) 82 v1 0) 81 v1 (((vm_st (vm_st (vm_st m2 79 v1 z2) 81 v1 (((vm_st m2 79 v1 z2) 10 4) * ((vm_st m2 79 v1 z2) 10 5))) 82 v1 0) 81 v1) + (((m 10 0) - ((vm_st (vm_st (vm_st m2 79 v1 z2) 81 v1 (((vm_st m2 79 v1 z2) 10 4) * ((vm_st m2 79 v1 z2) 10 5))) 82 v1 0) 79 v1)) / (z1 - 1)))) 82 v1 (((m 10 0) - ((vm_st (vm_st (vm_st m2 79 v1 z2) 81 v1 (((vm_st m2 79 v1 z2) 10 4) * ((vm_st m2 79 v1 z2) 10 5))) 82 v1 0) 79 v1)) % (z1 - 1))) 79 v1 (m 10 0)) 79 v1)) else 0) / 2))) (ob := (((((((((((((((((((((((((((((((((true && vm_is 77 3) && true) && vm_ar 79 100 12) && decide (0 ≤ v1 ∧ v1 < 12)) && decide (vm_32 ((m 10 0) - ((vm_st (vm_st (vm_st m2 79 v1 z2) 81 v1 (((vm_st m2 79 v1 z2) 10 4) * ((vm_st m2 79 v1 z2) 10 5))) 82 v1 0) 79 v1)))) && vm_is 77 3) && true) && vm_ar 81 100 12) && decide (0 ≤ v1 ∧ v1 < 12)) && decide (0 ≤ ((m 10 0) - ((vm_st (vm_st (vm_st m2 79 v1 z2) 81 v1 (((vm_st m2 79 v1 z2) 10 4) * ((vm_st m2 79 v1 z2) 10 5))) 82 v1 0) 79 v1)) ∧ (0 : Int) < (z1 - 1))) && decide (vm_32 (((vm_st (vm_st (vm_st m2 79 v1 z2) 81 v1 (((vm_st m2 79 v1 z2) 10 4) * ((vm_st m2 79 v1 z2) 10 5))) 82 v1 0) 81 v1) + (((m 10 0) - ((vm_st (vm_st (vm_st m2 79 v1 z2) 81 v1 (((vm_st m2 79 v1 z2) 10 4) * ((vm_st m2 79 v1 z2) 10 5))) 82 v1 0) 79 v1)) / (z1 - 1))))) && vm_ar 81 100 12) && decide (0 ≤ v1 ∧ v1 < 12)) && vm_is 77 3) && true) && decide (0 ≤ ((m 10 0) - ((vm_st (vm_st (vm_st m2 79 v1 z2) 81 v1 (((vm_st m2 79 v1 z2) 10 4) * ((vm_st m2 79 v1 z2) 10 5))) 82 v1 0) 79 v1)) ∧ (0 : Int) < (z1 - 1))) && vm_ar 82 100 12) && decide (0 ≤ v1 ∧ v1 < 12)) && vm_is 77 3) && true) && vm_ar 79 100 12) && decide (0 ≤ v1 ∧ v1 < 12)) && vm_is 77 3) && true) && vm_is 77 3) && true) && vm_ar 79 100 12) && decide (0 ≤ v1 ∧ v1 < 12)) && decide (vm_32 ((m 10 0) - ((vm_st (vm_st (vm_st (vm_st (vm_st (vm_st m2 79 v1 z2) 81 v1 (((vm_st m2 79 v1 z2) 10 4) * ((vm_st m2 79 v1 z2) 10 5))) 82 v1 0) 81 v1 (((vm_st (vm_st (vm_st m2 79 v1 z2) 81 v1 (((vm_st m2 79 v1 z2) 10 4) * ((vm_st m2 79 v1 z2) 10 5))) 82 v1 0) 81 v1) + (((m 10 0) - ((vm_st (vm_st (vm_st m2 79 v1 z2) 81 v1 (((vm_st m2 79 v1 z2) 10 4) * ((vm_st m2 79 v1 z2) 10 5))) 82 v1 0) 79 v1)) / (z1 - 1)))) 82 v1 (((m 10 0) - ((vm_st (vm_st (vm_st m2 79 v1 z2) 81 v1 (((vm_st m2 79 v1 z2) 10 4) * ((vm_st m2 79 v1 z2) 10 5))) 82 v1 0) 79 v1)) % (z1 - 1))) 79 v1 (m 10 0)) 79 v1)))) && decide (vm_cats [vm_i v1, vm_r 80] ≤ 8)) && decide (0 ≤ (if 0 < ((m 10 0) - ((vm_st (vm_st (vm_st (vm_st (vm_st (vm_st m2 79 v1 z2) 81 v1 (((vm_st m2 79 v1 z2) 10 4) * ((vm_st m2 79 v1 z2) 10 5))) 82 v1 0) 81 v1 (((vm_st (vm_st (vm_st m2 79 v1 z2) 81 v1 (((vm_st m2 79 v1 z2) 10 4) * ((vm_st m2 79 v1 z2) 10 5))) 82 v1 0) 81 v1) + (((m 10 0) - ((vm_st (vm_st (vm_st m2 79 v1 z2) 81 v1 (((vm_st m2 79 v1 z2) 10 4) * ((vm_st m2 79 v1 z2) 10 5))) 82 v1 0) 79 v1)) / (z1 - 1)))) 82 v1 (((m 10 0) - ((vm_st (vm_st (vm_st m2 79 v1 z2) 81 v1 (((vm_st m2 79 v1 z2) 10 4) * ((vm_st m2 79 v1 z2) 10 5))) 82 v1 0) 79 v1)) % (z1 - 1))) 79 v1 (m 10 0)) 79 v1)) then ((m 10 0) - ((vm_st (vm_st (vm_st (vm_st (vm_st (vm_st m2 79 v1 z2) 81 v1 (((vm_st m2 79 v1 z2) 10 4) * ((vm_st m2 79 v1 z2) 10 5))) 82 v1 0) 81 v1 (((vm_st (vm_st (vm_st m2 79 v1 z2) 81 v1 (((vm_st m2 79 v1 z2) 10 4) * ((vm_st m2 79 v1 z2) 10 5))) 82 v1 0) 81 v1) + (((m 10 0) - ((vm_st (vm_st (vm_st m2 79 v1 z2) 81 v1 (((vm_st m2 79 v1 z2) 10 4) * ((vm_st m2 79 v1 z2) 10 5))) 82 v1 0) 79 v1)) / (z1 - 1)))) 82 v1 (((m 10 0) - ((vm_st (vm_st (vm_st m2 79 v1 z2) 81 v1 (((vm_st m2 79 v1 z2) 10 4) * ((vm_st m2 79 v1 z2) 10 5))) 82 v1 0) 79 v1)) % (z1 - 1))) 79 v1 (m 10 0)) 79 v1)) else 0) ∧ (0 : Int) < 2)) && vm_ar 80 100 12) && decide (0 ≤ v1 ∧ v1 < 12))) (by decide +kernel) rfl (vm_t (vm_u (vm_t (vm_t (vm_t (vm_t (vm_u (vm_u (vm_u (vm_u (vm_u (vm_t (vm_u (vm_u (vm_u (vm_t (vm_u (vm_t (vm_u (vm_u (vm_t (vm_u (vm_t (vm_t (vm_t (vm_u (vm_u (vm_u (vm_t (vm_t (vm_u (vm_u (vm_u rfl (by decide +kernel)) rfl) (by decide +kernel)) o10_0) o10_1) (by decide +kernel)) rfl) (by decide +kernel)) o10_2) o10_3) o10_4) (by decide +kernel)) o10_5) (by decide +kernel)) rfl) o10_6) (by decide +kernel)) o10_7) (by decide +kernel)) rfl) (by decide +kernel)) o10_8) (by decide +kernel)) rfl) (by decide +kernel)) rfl) (by decide +kernel)) o10_9) o10_10) (by decide : (2 : Nat) ≤ 8)) o10_11) (by decide +kernel)) o10_12) ?_
          exact vm_gr (r := none) (i := (.return_, 0, 0, [])) (len := 1) (by decide +kernel) rfl rfl rfl ⟨rfl, h⟩
  · replace h := h.2 c1
    refine vm_gp [(.aload 0, 0, 0, []), (.iload 1, 0, 0, [])] (pc1 := 38) (ls1 := [some (vm_r 77), some (vm_i v1), some (vm_i (m 10 0)), some (vm_i (z1 - 1)), none]) (st1 := [vm_i v1, vm_r 77, vm_i v1, vm_r 78]) (m1 := m1) (ob := true) (by decide +kernel) rfl rfl ?_
    refine vm_gc (g := 40) (na := 2) (av := [vm_r 77, vm_i v1]) (rest := [vm_i v1, vm_r 78]) (i := (.invokevirtual 0, 40, 2, [])) (len := 3) (by decide +kernel) rfl rfl rfl (by decide +kernel) (by decide +kernel) rfl rfl (vm_u (vm_okh_v (c := 3) (by decide +kernel) (by decide +kernel)) (show vm_okn 40 2 2 0 0 2 = true by decide +kernel)) ?_
    refine vm_G.mono h ?_
    rintro _ m3 ⟨z3, rfl, h⟩
    show vm_G 51 41 [some (vm_r 77), some (vm_i v1), some (vm_i (m 10 0)), some (vm_i (z1 - 1)), none] [vm_i z3, vm_i v1, vm_r 78] m3 _
    obtain ⟨⟨o12_0, o12_1⟩, h⟩ := h
    refine vm_gp [(.goto 0, 53, 0, []), (.iastore, 12, 0, []), (.aload 0, 0, 0, []), (.getfield 2, 3, 5, [(79, 0)]), (.iload 1, 0, 0, []), (.aload 0, 0, 0, []), (.iload 1, 0, 0, []), (.aload 0, 0, 0, []), (.getfield 2, 3, 4, [(78, 0)]), (.iload 1, 0, 0, []), (.iaload, 12, 0, [])] (pc1 := 67) (ls1 := [some (vm_r 77), some (vm_i v1), some (vm_i (m 10 0)), some (vm_i (z1 - 1)), none]) (st1 := [vm_i ((vm_st m3 78 v1 z3) 78 v1), vm_i v1, vm_r 77, vm_i v1, vm_r 79]) (m1 := (vm_st m3 78 v1 z3)) (ob := ((((((((true && vm_ar 78 100 12) && decide (0 ≤ v1 ∧ v1 < 12)) && vm_is 77 3) && true) && vm_is 77 3) && true) && vm_ar 78 100 12) && decide (0 ≤ v1 ∧ v1 < 12))) (by decide +kernel) rfl (vm_t (vm_u (vm_u (vm_u (vm_u (vm_u (vm_t (vm_u rfl (by decide +kernel)) o12_0) (by decide +kernel)) rfl) (by decide +kernel)) rfl) (by decide +kernel)) o12_1) ?_
    refine vm_gc (g := 50) (na := 3) (av := [vm_r 77, vm_i v1, vm_i ((vm_st m3 78 v1 z3) 78 v1)]) (rest := [vm_i v1, vm_r 79]) (i := (.invokevirtual 0, 50, 3, [])) (len := 3) (by decide +kernel) rfl rfl rfl (by decide +kernel) (by decide +kernel) rfl rfl (vm_u (vm_okh_v (c := 3) (by decide +kernel) (by decide +kernel)) (show vm_okn 50 3 2 0 0 3 = true by decide +kernel)) ?_
    refine vm_G.mono h ?_
    rintro _ m4 ⟨z4, rfl, h⟩
    show vm_G 51 70 [some (vm_r 77), some (vm_i v1), some (vm_i (m 10 0)), some (vm_i (z1 - 1)), none] [vm_i z4, vm_i v1, vm_r 79] m4 _
    obtain ⟨⟨o13_0, o13_1, o13_2, o13_3⟩, h⟩ := h
    refine vm_gp [(.iastore, 12, 0, []), (.aload 0, 0, 0, []), (.getfield 2, 3, 7, [(81, 0)]), (.iload 1, 0, 0, []), (.aload 0, 0, 0, []), (.getfield 2, 3, 1, [(9, 0)]), (.getfield 2, 4, 0, [(1, 1)]), (.iconst 4, 0, 0, []), (.iaload, 6, 0, []), (.aload 0, 0, 0, []), (.getfield 2, 3, 1, [(9, 0)]), (.getfield 2, 4, 0, [(1, 1)]), (.iconst 5, 0, 0, []), (.iaload, 6, 0, []), (.imul, 0, 0, []), (.iastore, 12, 0, []), (.aload 0, 0, 0, []), (.getfield 2, 3, 8, [(82, 0)]), (.iload 1, 0, 0, []), (.iconst 0, 0, 0, []), (.iastore, 12, 0, []), (.aload 0, 0, 0, []), (.getfield 2, 3, 1, [(9, 0)]), (.getfield 0, 4, 5, [])] (pc1 := 110) (ls1 := [some (vm_r 77), some (vm_i v1), some (vm_i (m 10 0)), some (vm_i (z1 - 1)), none]) (st1 := [vm_i ((vm_st (vm_st (vm_st m4 79 v1 z4) 81 v1 (((vm_st m4 79 v1 z4) 10 4) * ((vm_st m4 79 v1 z4) 10 5))) 82 v1 0) 9 5)]) (m1 := (vm_st (vm_st (vm_st m4 79 v1 z4) 81 v1 (((vm_st m4 79 v1 z4) 10 4) * ((vm_st m4 79 v1 z4) 10 5))) 82 v1 0)) (ob := ((((((((((((((((((((((((((true && vm_ar 79 100 12) && decide (0 ≤ v1 ∧ v1 < 12)) && vm_is 77 3) && true) && vm_is 77 3) && true) && vm_is 9 4) && true) && vm_ar 10 100 6) && decide ((0 : Int) ≤ 4 ∧ (4 : Int) < 6)) && vm_is 77 3) && true) && vm_is 9 4) && true) && vm_ar 10 100 6) && decide ((0 : Int) ≤ 5 ∧ (5 : Int) < 6)) && decide (vm_32 (((vm_st m4 79 v1 z4) 10 4) * ((vm_st m4 79 v1 z4) 10 5)))) && vm_ar 81 100 12) && decide (0 ≤ v1 ∧ v1 < 12)) && vm_is 77 3) && true) && vm_ar 82 100 12) && decide (0 ≤ v1 ∧ v1 < 12)) && vm_is 77 3) && true) && vm_is 9 4)) (by decide +kernel) rfl (vm_u (vm_u (vm_u (vm_t (vm_u (vm_u (vm_u (vm_t (vm_u (vm_t (vm_t (vm_u (vm_u (vm_u (vm_u (vm_u (vm_t (vm_u (vm_u (vm_u (vm_u (vm_u (vm_u (vm_u (vm_t (vm_u rfl (by decide +kernel)) o13_0) (by decide +kernel)) rfl) (by decide +kernel)) rfl) (by decide +kernel)) rfl) (by decide +kernel)) (by decide)) (by decide +kernel)) rfl) (by decide +kernel)) rfl) (by decide +kernel)) (by decide)) o13_1) (by decide +kernel)) o13_2) (by decide +kernel)) rfl) (by decide +kernel)) o13_3) (by decide +kernel)) rfl) (by decide +kernel)) ?_
    refine vm_gj (c := ((vm_st (vm_st (vm_st m4 79 v1 z4) 81 v1 (((vm_st m4 79 v1 z4) 10 4) * ((vm_st m4 79 v1 z4) 10 5))) 82 v1 0) 9 5) = 0) (t := 167) (e := 113) (i := (.ifCond .eq 0, 167, 0, [])) (len := 3) (st1 := []) (by decide +kernel) rfl rfl (fun c5 => ?_) (fun c5 => ?_)
    · replace h := h.1 c5
      obtain ⟨⟨o14_0, o14_1, o14_2, o14_3⟩, h⟩ := h
      refine vm_gp [(.aload 0, 0, 0, []), (.getfield 2, 3, 6, [(80, 0)]), (.iload 1, 0, 0, []), (.iconst 0, 0, 0, []), (.iload 2, 0, 0, []), (.aload 0, 0, 0, []), (.getfield 2, 3, 5, [(79, 0)]), (.iload 1, 0, 0, []), (.iaload, 12, 0, []), (.isub, 0, 0, []), (.invokestatic 0, 1000, 0, []), (.iconst 2, 0, 0, []), (.idiv, 0, 0, []), (.iastore, 12, 0, [])] (pc1 := 187) (ls1 := [some (vm_r 77), some (vm_i v1), some (vm_i (m 10 0)), some (vm_i (z1 - 1)), none]) (st1 := []) (m1 := (vm_st (vm_st (vm_st (vm_st m4 79 v1 z4) 81 v1 (((vm_st m4 79 v1 z4) 10 4) * ((vm_st m4 79 v1 z4) 10 5))) 82 v1 0) 80 v1 ((if 0 < ((m 10 0) - ((vm_st (vm_st (vm_st m4 79 v1 z4) 81 v1 (((vm_st m4 79 v1 z4) 10 4) * ((vm_st m4 79 v1 z4) 10 5))) 82 v1 0) 79 v1)) then ((m 10 0) - ((vm_st (vm_st (vm_st m4 79 v1 z4) 81 v1 (((vm_st m4 79 v1 z4) 10 4) * ((vm_st m4 79 v1 z4) 10 5))) 82 v1 0) 79 v1)) else 0) / 2))) (ob := (((((((((((true && vm_is 77 3) && true) && vm_is 77 3) && true) && vm_ar 79 100 12) && decide (0 ≤ v1 ∧ v1 < 12)) && decide (vm_32 ((m 10 0) - ((vm_st (vm_st (vm_st m4 79 v1 z4) 81 v1 (((vm_st m4 79 v1 z4) 10 4) * ((vm_st m4 79 v1 z4) 10 5))) 82 v1 0) 79 v1)))) && decide (vm_cats [vm_i v1, vm_r 80] ≤ 8)) && decide (0 ≤ (if 0 < ((m 10 0) - ((vm_st (vm_st (vm_st m4 79 v1 z4) 81 v1 (((vm_st m4 79 v1 z4) 10 4) * ((vm_st m4 79 v1 z4) 10 5))) 82 v1 0) 79 v1)) then ((m 10 0) - ((vm_st (vm_st (vm_st m4 79 v1 z4) 81 v1 (((vm_st m4 79 v1 z4) 10 4) * ((vm_st m4 79 v1 z4) 10 5))) 82 v1 0) 79 v1)) else 0) ∧ (0 : Int) < 2)) && vm_ar 80 100 12) && decide (0 ≤ v1 ∧ v1 < 12))) (by decide +kernel) rfl (vm_t (vm_u (vm_t (vm_t (vm_t (vm_t (vm_u (vm_u (vm_u (vm_u (vm_u rfl (by decide +kernel)) rfl) (by decide +kernel)) rfl) (by decide +kernel)) o14_0) o14_1) (by decide : (2 : Nat) ≤ 8)) o14_2) (by decide +kernel)) o14_3) ?_
      exact vm_gr (r := none) (i := (.return_, 0, 0, [])) (len := 1) (by decide +kernel) rfl rfl rfl ⟨rfl, h⟩
    · replace h := h.2 c5
      refine vm_gp [(.iload 3, 0, 0, [])] (pc1 := 114) (ls1 := [some (vm_r 77), some (vm_i v1), some (vm_i (m 10 0)), some (vm_i (z1 - 1)), none]) (st1 := [vm_i (z1 - 1)]) (m1 := (vm_st (vm_st (vm_st m4 79 v1 z4) 81 v1 (((vm_st m4 79 v1 z4) 10 4) * ((vm_st m4 79 v1 z4) 10 5))) 82 v1 0)) (ob := true) (by decide +kernel) rfl rfl ?_
      refine vm_gj (c := (z1 - 1) ≤ 0) (t := 167) (e := 117) (i := (.ifCond .le 0, 167, 0, [])) (len := 3) (st1 := []) (by decide +kernel) rfl rfl (fun c6 => ?_) (fun c6 => ?_)
      · replace h := h.1 c6
        obtain ⟨⟨o16_0, o16_1, o16_2, o16_3⟩, h⟩ := h
        refine vm_gp [(.aload 0, 0, 0, []), (.getfield 2, 3, 6, [(80, 0)]), (.iload 1, 0, 0, []), (.iconst 0, 0, 0, []), (.iload 2, 0, 0, []), (.aload 0, 0, 0, []), (.getfield 2, 3, 5, [(79, 0)]), (.iload 1, 0, 0, []), (.iaload, 12, 0, []), (.isub, 0, 0, []), (.invokestatic 0, 1000, 0, []), (.iconst 2, 0, 0, []), (.idiv, 0, 0, []), (.iastore, 12, 0, [])] (pc1 := 187) (ls1 := [some (vm_r 77), some (vm_i v1), some (vm_i (m 10 0)), some (vm_i (z1 - 1)), none]) (st1 := []) (m1 := (vm_st (vm_st (vm_st (vm_st m4 79 v1 z4) 81 v1 (((vm_st m4 79 v1 z4) 10 4) * ((vm_st m4 79 v1 z4) 10 5))) 82 v1 0) 80 v1 ((if 0 < ((m 10 0) - ((vm_st (vm_st (vm_st m4 79 v1 z4) 81 v1 (((vm_st m4 79 v1 z4) 10 4) * ((vm_st m4 79 v1 z4) 10 5))) 82 v1 0) 79 v1)) then ((m 10 0) - ((vm_st (vm_st (vm_st m4 79 v1 z4) 81 v1 (((vm_st m4 79 v1 z4) 10 4) * ((vm_st m4 79 v1 z4) 10 5))) 82 v1 0) 79 v1)) else 0) / 2))) (ob := (((((((((((true && vm_is 77 3) && true) && vm_is 77 3) && true) && vm_ar 79 100 12) && decide (0 ≤ v1 ∧ v1 < 12)) && decide (vm_32 ((m 10 0) - ((vm_st (vm_st (vm_st m4 79 v1 z4) 81 v1 (((vm_st m4 79 v1 z4) 10 4) * ((vm_st m4 79 v1 z4) 10 5))) 82 v1 0) 79 v1)))) && decide (vm_cats [vm_i v1, vm_r 80] ≤ 8)) && decide (0 ≤ (if 0 < ((m 10 0) - ((vm_st (vm_st (vm_st m4 79 v1 z4) 81 v1 (((vm_st m4 79 v1 z4) 10 4) * ((vm_st m4 79 v1 z4) 10 5))) 82 v1 0) 79 v1)) then ((m 10 0) - ((vm_st (vm_st (vm_st m4 79 v1 z4) 81 v1 (((vm_st m4 79 v1 z4) 10 4) * ((vm_st m4 79 v1 z4) 10 5))) 82 v1 0) 79 v1)) else 0) ∧ (0 : Int) < 2)) && vm_ar 80 100 12) && decide (0 ≤ v1 ∧ v1 < 12))) (by decide +kernel) rfl (vm_t (vm_u (vm_t (vm_t (vm_t (vm_t (vm_u (vm_u (vm_u (vm_u (vm_u rfl (by decide +kernel)) rfl) (by decide +kernel)) rfl) (by decide +kernel)) o16_0) o16_1) (by decide : (2 : Nat) ≤ 8)) o16_2) (by decide +kernel)) o16_3) ?_
        exact vm_gr (r := none) (i := (.return_, 0, 0, [])) (len := 1) (by decide +kernel) rfl rfl rfl ⟨rfl, h⟩
      · replace h := h.2 c6
        obtain ⟨o17_0, h⟩ := h
        refine vm_gp [(.aload 0, 0, 0, []), (.getfield 2, 3, 5, [(79, 0)]), (.iload 1, 0, 0, []), (.iaload, 12, 0, []), (.iload 2, 0, 0, [])] (pc1 := 124) (ls1 := [some (vm_r 77), some (vm_i v1), some (vm_i (m 10 0)), some (vm_i (z1 - 1)), none]) (st1 := [vm_i (m 10 0), vm_i ((vm_st (vm_st (vm_st m4 79 v1 z4) 81 v1 (((vm_st m4 79 v1 z4) 10 4) * ((vm_st m4 79 v1 z4) 10 5))) 82 v1 0) 79 v1)]) (m1 := (vm_st (vm_st (vm_st m4 79 v1 z4) 81 v1 (((vm_st m4 79 v1 z4) 10 4) * ((vm_st m4 79 v1 z4) 10 5))) 82 v1 0)) (ob := ((((true && vm_is 77 3) && true) && vm_ar 79 100 12) && decide (0 ≤ v1 ∧ v1 < 12))) (by decide +kernel) rfl (vm_t (vm_u (vm_u (vm_u rfl (by decide +kernel)) rfl) (by decide +kernel)) o17_0) ?_
        refine vm_gj (c := (m 10 0) ≤ ((vm_st (vm_st (vm_st m4 79 v1 z4) 81 v1 (((vm_st m4 79 v1 z4) 10 4) * ((vm_st m4 79 v1 z4) 10 5))) 82 v1 0) 79 v1)) (t := 167) (e := 127) (i := (.if_icmp .ge 0, 167, 0, [])) (len := 3) (st1 := []) (by decide +kernel) rfl rfl (fun c7 => ?_) (fun c7 => ?_)
        · replace h := h.1 c7
          obtain ⟨⟨o18_0, o18_1, o18_2, o18_3⟩, h⟩ := h
          refine vm_gp [(.aload 0, 0, 0, []), (.getfield 2, 3, 6, [(80, 0)]), (.iload 1, 0, 0, []), (.iconst 0, 0, 0, []), (.iload 2, 0, 0, []), (.aload 0, 0, 0, []), (.getfield 2, 3, 5, [(79, 0)]), (.iload 1, 0, 0, []), (.iaload, 12, 0, []), (.isub, 0, 0, []), (.invokestatic 0, 1000, 0, []), (.iconst 2, 0, 0, []), (.idiv, 0, 0, []), (.iastore, 12, 0, [])] (pc1 := 187) (ls1 := [some (vm_r 77), some (vm_i v1), some (vm_i (m 10 0)), some (vm_i (z1 - 1)), none]) (st1 := []) (m1 := (vm_st (vm_st (vm_st (vm_st m4 79 v1 z4) 81 v1 (((vm_st m4 79 v1 z4) 10 4) * ((vm_st m4 79 v1 z4) 10 5))) 82 v1 0) 80 v1 ((if 0 < ((m 10 0) - ((vm_st (vm_st (vm_st m4 79 v1 z4) 81 v1 (((vm_st m4 79 v1 z4) 10 4) * ((vm_st m4 79 v1 z4) 10 5))) 82 v1 0) 79 v1)) then ((m 10 0) - ((vm_st (vm_st (vm_st m4 79 v1 z4) 81 v1 (((vm_st m4 79 v1 z4) 10 4) * ((vm_st m4 79 v1 z4) 10 5))) 82 v1 0) 79 v1)) else 0) / 2))) (ob := (((((((((((true && vm_is 77 3) && true) && vm_is 77 3) && true) && vm_ar 79 100 12) && decide (0 ≤ v1 ∧ v1 < 12)) && decide (vm_32 ((m 10 0) - ((vm_st (vm_st (vm_st m4 79 v1 z4) 81 v1 (((vm_st m4 79 v1 z4) 10 4) * ((vm_st m4 79 v1 z4) 10 5))) 82 v1 0) 79 v1)))) && decide (vm_cats [vm_i v1, vm_r 80] ≤ 8)) && decide (0 ≤ (if 0 < ((m 10 0) - ((vm_st (vm_st (vm_st m4 79 v1 z4) 81 v1 (((vm_st m4 79 v1 z4) 10 4) * ((vm_st m4 79 v1 z4) 10 5))) 82 v1 0) 79 v1)) then ((m 10 0) - ((vm_st (vm_st (vm_st m4 79 v1 z4) 81 v1 (((vm_st m4 79 v1 z4) 10 4) * ((vm_st m4 79 v1 z4) 10 5))) 82 v1 0) 79 v1)) else 0) ∧ (0 : Int) < 2)) && vm_ar 80 100 12) && decide (0 ≤ v1 ∧ v1 < 12))) (by decide +kernel) rfl (vm_t (vm_u (vm_t (vm_t (vm_t (vm_t (vm_u (vm_u (vm_u (vm_u (vm_u rfl (by decide +kernel)) rfl) (by decide +kernel)) rfl) (by decide +kernel)) o18_0) o18_1) (by decide : (2 : Nat) ≤ 8)) o18_2) (by decide +kernel)) o18_3) ?_
          exact vm_gr (r := none) (i := (.return_, 0, 0, [])) (len := 1) (by decide +kernel) rfl rfl rfl ⟨rfl, h⟩
        · replace h := h.2 c7
          obtain ⟨⟨o19_0, o19_1, o19_2, o19_3, o19_4, o19_5, o19_6, o19_7, o19_8, o19_9, o19_10, o19_11, o19_12⟩, h⟩ := h
          refine vm_gp [(.iload 2, 0, 0, []), (.aload 0, 0, 0, []), (.getfield 2, 3, 5, [(79, 0)]), (.iload 1, 0, 0, []), (.iaload, 12, 0, []), (.isub, 0, 0, []), (.istore 4, 0, 0, []), (.aload 0, 0, 0, []), (.getfield 2, 3, 7, [(81, 0)]), (.iload 1, 0, 0, []), (.dup2, 0, 0, []), (.iaload, 12, 0, []), (.iload 4, 0, 0, []), (.iload 3, 0, 0, []), (.idiv, 0, 0, []), (.iadd, 0, 0, []), (.iastore, 12, 0, []), (.aload 0, 0, 0, []), (.getfield 2, 3, 8, [(82, 0)]), (.iload 1, 0, 0, []), (.iload 4, 0, 0, []), (.iload 3, 0, 0, []), (.irem, 0, 0, []), (.iastore, 12, 0, []), (.aload 0, 0, 0, []), (.getfield 2, 3, 5, [(79, 0)]), (.iload 1, 0, 0, []), (.iload 2, 0, 0, []), (.iastore, 12, 0, []), (.aload 0, 0, 0, []), (.getfield 2, 3, 6, [(80, 0)]), (.iload 1, 0, 0, []), (.iconst 0, 0, 0, []), (.iload 2, 0, 0, []), (.aload 0, 0, 0, []), (.getfield 2, 3, 5, [(79, 0)]), (.iload 1, 0, 0, []), (.iaload, 12, 0, []), (.isub, 0, 0, []), (.invokestatic 0, 1000, 0, []), (.iconst 2, 0, 0, []), (.idiv, 0, 0, []), (.iastore, 12, 0, [])] (pc1 := 187) (ls1 := [some (vm_r 77), some (vm_i v1), some (vm_i (m 10 0)), some (vm_i (z1 - 1)), some (vm_i ((m 10 0) - ((vm_st (vm_st (vm_st m4 79 v1 z4) 81 v1 (((vm_st m4 79 v1 z4) 10 4) * ((vm_st m4 79 v1 z4) 10 5))) 82 v1 0) 79 v1)))]) (st1 := []) (m1 := (vm_st (vm_st (vm_st (vm_st (vm_st (vm_st (vm_st m4 79 v1 z4) 81 v1 (((vm_st m4 79 v1 z4) 10 4) * ((vm_st m4 79 v1 z4) 10 5))) 82 v1 0) 81 v1 (((vm_st (vm_st (vm_st m4 79 v1 z4) 81 v1 (((vm_st m4 79 v1 z4) 10 4) * ((vm_st m4 79 v1 z4) 10 5))) 82 v1 0) 81 v1) + (((m 10 0) - ((vm_st (vm_st (vm_st m4 79 v1 z4) 81 v1 (((vm_st m4 79 v1 z4) 10 4) * ((vm_st m4 79 v1 z4) 10 5))) 82 v1 0) 79 v1)) / (z1 - 1)))) 82 v1 (((m 10 0) - ((vm_st (vm_st (vm_st m4 79 v1 z4) 81 v1 (((vm_st m4 79 v1 z4) 10 4) * ((vm_st m4 79 v1 z4) 10 5))) 82 v1 0) 79 v1)) % (z1 - 1))) 79 v1 (m 10 0)) 80 v1 ((if 0 < ((m 10 0) - ((vm_st (vm_st (vm_st (vm_st (vm_st (vm_st m4 79 v1 z4) 81 v1 (((vm_st m4 79 v1 z4) 10 4) * ((vm_st m4 79 v1 z4) 10 5))) 82 v1 0) 81 v1 (((vm_st (vm_st (vm_st m4 79 v1 z4) 81 v1 (((vm_st m4 79 v1 z4) 10 4) * ((vm_st m4 79 v1 z4) 10 5))) 82 v1 0) 81 v1) + (((m 10 0) - ((vm_st (vm_st (vm_st m4 79 v1 z4) 81 v1 (((vm_st m4 79 v1 z4) 10 4) * ((vm_st m4 79 v1 z4) 10 5))) 82 v1 0) 79 v1)) / (z1 - 1)))) 82 v1 (((m 10 0) - ((vm_st (vm_st (vm_st m4 79 v1 z4) 81 v1 (((vm_st m4 79 v1 z4) 10 4) * ((vm_st m4 79 v1 z4) 10 5))) 82 v1 0) 79 v1)) % (z1 - 1))) 79 v1 (m 10 0)) 79 v1)) then ((m 10 0) - ((vm_st (vm_st (vm_st (vm_st (vm_st (vm_st m4 79 v1 z4) 81 v1 (((vm_st m4 79 v1 z4) 10 4) * ((vm_st m4 79 v1 z4) 10 5))) 82 v1 0) 81 v1 (((vm_st (vm_st (vm_st m4 79 v1 z4) 81 v1 (((vm_st m4 79 v1 z4) 10 4) * ((vm_st m4 79 v1 z4) 10 5))) 82 v1 0) 81 v1) + (((m 10 0) - ((vm_st (vm_st (vm_st m4 79 v1 z4) 81 v1 (((vm_st m4 79 v1 z4) 10 4) * ((vm_st m4 79 v1 z4) 10 5))) 82 v1 0) 79 v1)) / (z1 - 1)))) 82 v1 (((m 10 0) - ((vm_st (vm_st (vm_st m4 79 v1 z4) 81 v1 (((vm_st m4 79 v1 z4) 10 4) * ((vm_st m4 79 v1 z4) 10 5))) 82 v1 0) 79 v1)) % (z1 - 1))) 79 v1 (m 10 0)) 79 v1)) else 0) / 2))) (ob := (((((((((((((((((((((((((((((((((true && vm_is 77 3) && true) && vm_ar 79 100 12) && decide (0 ≤ v1 ∧ v1 < 12)) && decide (vm_32 ((m 10 0) - ((vm_st (vm_st (vm_st m4 79 v1 z4) 81 v1 (((vm_st m4 79 v1 z4) 10 4) * ((vm_st m4 79 v1 z4) 10 5))) 82 v1 0) 79 v1)))) && vm_is 77 3) && true) && vm_ar 81 100 12) && decide (0 ≤ v1 ∧ v1 < 12)) && decide (0 ≤ ((m 10 0) - ((vm_st (vm_st (vm_st m4 79 v1 z4) 81 v1 (((vm_st m4 79 v1 z4) 10 4) * ((vm_st m4 79 v1 z4) 10 5))) 82 v1 0) 79 v1)) ∧ (0 : Int) < (z1 - 1))) && decide (vm_32 (((vm_st (vm_st (vm_st m4 79 v1 z4) 81 v1 (((vm_st m4 79 v1 z4) 10 4) * ((vm_st m4 79 v1 z4) 10 5))) 82 v1 0) 81 v1) + (((m 10 0) - ((vm_st (vm_st (vm_st m4 79 v1 z4) 81 v1 (((vm_st m4 79 v1 z4) 10 4) * ((vm_st m4 79 v1 z4) 10 5))) 82 v1 0) 79 v1)) / (z1 - 1))))) && vm_ar 81 100 12) && decide (0 ≤ v1 ∧ v1 < 12)) && vm_is 77 3) && true) && decide (0 ≤ ((m 10 0) - ((vm_st (vm_st (vm_st m4 79 v1 z4) 81 v1 (((vm_st m4 79 v1 z4) 10 4) * ((vm_st m4 79 v1 z4) 10 5))) 82 v1 0) 79 v1)) ∧ (0 : Int) < (z1 - 1))) && vm_ar 82 100 12) && decide (0 ≤ v1 ∧ v1 < 12)) && vm_is 77 3) && true) && vm_ar 79 100 12) && decide (0 ≤ v1 ∧ v1 < 12)) && vm_is 77 3) && true) && vm_is 77 3) && true) && vm_ar 79 100 12) && decide (0 ≤ v1 ∧ v1 < 12)) && decide (vm_32 ((m 10 0) - ((vm_st (vm_st (vm_st (vm_st (vm_st (vm_st m4 79 v1 z4) 81 v1 (((vm_st m4 79 v1 z4) 10 4) * ((vm_st m4 79 v1 z4) 10 5))) 82 v1 0) 81 v1 (((vm_st (vm_st (vm_st m4 79 v1 z4) 81 v1 (((vm_st m4 79 v1 z4) 10 4) * ((vm_st m4 79 v1 z4) 10 5))) 82 v1 0) 81 v1) + (((m 10 0) - ((vm_st (vm_st (vm_st m4 79 v1 z4) 81 v1 (((vm_st m4 79 v1 z4) 10 4) * ((vm_st m4 79 v1 z4) 10 5))) 82 v1 0) 79 v1)) / (z1 - 1)))) 82 v1 (((m 10 0) - ((vm_st (vm_st (vm_st m4 79 v1 z4) 81 v1 (((vm_st m4 79 v1 z4) 10 4) * ((vm_st m4 79 v1 z4) 10 5))) 82 v1 0) 79 v1)) % (z1 - 1))) 79 v1 (m 10 0)) 79 v1)))) && decide (vm_cats [vm_i v1, vm_r 80] ≤ 8)) && decide (0 ≤ (if 0 < ((m 10 0) - ((vm_st (vm_st (vm_st (vm_st (vm_st (vm_st m4 79 v1 z4) 81 v1 (((vm_st m4 79 v1 z4) 10 4) * ((vm_st m4 79 v1 z4) 10 5))) 82 v1 0) 81 v1 (((vm_st (vm_st (vm_st m4 79 v1 z4) 81 v1 (((vm_st m4 79 v1 z4) 10 4) * ((vm_st m4 79 v1 z4) 10 5))) 82 v1 0) 81 v1) + (((m 10 0) - ((vm_st (vm_st (vm_st m4 79 v1 z4) 81 v1 (((vm_st m4 79 v1 z4) 10 4) * ((vm_st m4 79 v1 z4) 10 5))) 82 v1 0) 79 v1)) / (z1 - 1)))) 82 v1 (((m 10 0) - ((vm_st (vm_st (vm_st m4 79 v1 z4) 81 v1 (((vm_st m4 79 v1 z4) 10 4) * ((vm_st m4 79 v1 z4) 10 5))) 82 v1 0) 79 v1)) % (z1 - 1))) 79 v1 (m 10 0)) 79 v1)) then ((m 10 0) - ((vm_st (vm_st (vm_st (vm_st (vm_st (vm_st m4 79 v1 z4) 81 v1 (((vm_st m4 79 v1 z4) 10 4) * ((vm_st m4 79 v1 z4) 10 5))) 82 v1 0) 81 v1 (((vm_st (vm_st (vm_st m4 79 v1 z4) 81 v1 (((vm_st m4 79 v1 z4) 10 4) * ((vm_st m4 79 v1 z4) 10 5))) 82 v1 0) 81 v1) + (((m 10 0) - ((vm_st (vm_st (vm_st m4 79 v1 z4) 81 v1 (((vm_st m4 79 v1 z4) 10 4) * ((vm_st m4 79 v1 z4) 10 5))) 82 v1 0) 79 v1)) / (z1 - 1)))) 82 v1 (((m 10 0) - ((vm_st (vm_st (vm_st m4 79 v1 z4) 81 v1 (((vm_st m4 79 v1 z4) 10 4) * ((vm_st m4 79 v1 z4) 10 5))) 82 v1 0) 79 v1)) % (z1 - 1))) 79 v1 (m 10 0)) 79 v1)) else 0) ∧ (0 : Int) < 2)) && vm_ar 80 100 12) && decide (0 ≤ v1 ∧ v1 < 12))) (by decide +kernel) rfl (vm_t (vm_u (vm_t (vm_t (vm_t (vm_t (vm_u (vm_u (vm_u (vm_u (vm_u (vm_t (vm_u (vm_u (vm_u (vm_t (vm_u (vm_t (vm_u (vm_u (vm_t (vm_u (vm_t (vm_t (vm_t (vm_u (vm_u (vm_u (vm_t (vm_t (vm_u (vm_u (vm_u rfl (by decide +kernel)) rfl) (by decide +kernel)) o19_0) o19_1) (by decide +kernel)) rfl) (by decide +kernel)) o19_2) o19_3) o19_4) (by decide +kernel)) o19_5) (by decide +kernel)) rfl) o19_6) (by decide +kernel)) o19_7) (by decide +kernel)) rfl) (by decide +kernel)) o19_8) (by decide +kernel)) rfl) (by decide +kernel)) rfl) (by decide +kernel)) o19_9) o19_10) (by decide : (2 : Nat) ≤ 8)) o19_11) (by decide +kernel)) o19_12) ?_
          exact vm_gr (r := none) (i := (.return_, 0, 0, [])) (len := 1) (by decide +kernel) rfl rfl rfl ⟨rfl, h⟩
abbrev ku3_putLetters_0 (v1 : Int) (v2 : Int) (v3 : Int) (m : vm_M) (Q : vm_M → Prop) : Prop := vm_G 52 0 [some (vm_r 77), some (vm_i v1), some (vm_i v2), some (vm_i v3), none, none, none, none, none] [] m (vm_qv Q)
abbrev ku3_putLetters_17 (v1 : Int) (v2 : Int) (v3 : Int) (v4 : Int) (v5 : Int) (w6 : Option vm_V) (w7 : Option vm_V) (w8 : Option vm_V) (m : vm_M) (Q : vm_M → Prop) : Prop := vm_G 52 17 [some (vm_r 77), some (vm_i v1), some (vm_i v2), some (vm_i v3), some (vm_i v4), some (vm_i v5), w6, w7, w8] [] m (vm_qv Q)
set_option maxRecDepth 20000 in
theorem ru3_putLetters_0 {v1 : Int} {v2 : Int} {v3 : Int} {m : vm_M} {Q : vm_M → Prop}  (h :
    ((vm_32 (v1 * 12)) ∧ (0 ≤ (v1 * 12) ∧ (v1 * 12) < 360)) ∧
    ku3_putLetters_17 v1 v2 v3 (v1 * 12) 1 none none none (vm_st m 83 (v1 * 12) v3) Q) : vm_C 52 [vm_r 77, vm_i v1, vm_i v2, vm_i v3] m (vm_qv Q) := by
  show vm_G 52 0 [some (vm_r 77), some (vm_i v1), some (vm_i v2), some (vm_i v3), none, none, none, none, none] [] m (vm_qv Q)
  obtain ⟨⟨o1_0, o1_1⟩, h⟩ := h
  refine vm_gp [(.iload 1, 0, 0, []), (.iconst 12, 0, 0, []), (.imul, 0, 0, []), (.istore 4, 0, 0, []), (.aload 0, 0, 0, []), (.getfield 2, 3, 9, [(83, 0)]), (.iload 4, 0, 0, []), (.iload 3, 0, 0, []), (.iastore, 360, 0, []), (.iconst 1, 0, 0, []), (.istore 5, 0, 0, [])] (pc1 := 17) (ls1 := [some (vm_r 77), some (vm_i v1), some (vm_i v2), some (vm_i v3), some (vm_i (v1 * 12)), some (vm_i 1), none, none, none]) (st1 := []) (m1 := (vm_st m 83 (v1 * 12) v3)) (ob := (((((true && decide (vm_32 (v1 * 12))) && vm_is 77 3) && true) && vm_ar 83 100 360) && decide (0 ≤ (v1 * 12) ∧ (v1 * 12) < 360))) (by decide +kernel) rfl (vm_t (vm_u (vm_u (vm_u (vm_t rfl o1_0) (by decide +kernel)) rfl) (by decide +kernel)) o1_1) ?_
  exact h
set_option maxRecDepth 20000 in
theorem ru3_putLetters_17 {v1 : Int} {v2 : Int} {v3 : Int} {v4 : Int} {v5 : Int} {w6 : Option vm_V} {w7 : Option vm_V} {w8 : Option vm_V} {m : vm_M} {Q : vm_M → Prop}  (h :
    ((0 ≤ v1 ∧ v1 < 30)) ∧
    (((m 12 v1) ≤ v5 →
      Q m) ∧ (¬ (m 12 v1) ≤ v5 →
      ((0 ≤ v4 ∧ v4 < 360) ∧ (vm_32 (v4 + 1)) ∧ (0 ≤ (v4 + 1) ∧ (v4 + 1) < 360)) ∧
      (vm_C 11 [vm_r 3, vm_i (m 13 v4), vm_i (m 13 (v4 + 1)), vm_i v2, vm_i (-9)] m (vm_qi (fun z1 m1 =>
        (vm_C 57 [vm_r 9, vm_i (m 13 v4), vm_i (m 13 (v4 + 1)), vm_i z1] m1 (vm_qi (fun z2 m2 =>
          ((0 ≤ v4 ∧ v4 < 360) ∧ (0 ≤ (m 13 v4) ∧ (m 13 v4) < 26) ∧ (0 ≤ v4 ∧ v4 < 360) ∧ (vm_32 (((vm_st m2 84 v4 z2) 4 (m 13 v4)) + ((vm_st m2 84 v4 z2) 84 v4))) ∧ (vm_32 (v4 + 1)) ∧ (0 ≤ v4 ∧ v4 < 360) ∧ (vm_32 ((((vm_st m2 84 v4 z2) 4 (m 13 v4)) + ((vm_st m2 84 v4 z2) 84 v4)) * ((vm_st m2 84 v4 z2) 10 5))) ∧ (vm_32 (((vm_st m2 84 v4 z2) 83 v4) + ((((vm_st m2 84 v4 z2) 4 (m 13 v4)) + ((vm_st m2 84 v4 z2) 84 v4)) * ((vm_st m2 84 v4 z2) 10 5)))) ∧ (0 ≤ (v4 + 1) ∧ (v4 + 1) < 360) ∧ (vm_32 (v4 + 1)) ∧ (vm_32 (v5 + 1))) ∧
          ku3_putLetters_17 v1 v2 v3 (v4 + 1) (v5 + 1) (some (vm_i (m 13 v4))) (some (vm_i (m 13 (v4 + 1)))) (some (vm_i (((vm_st m2 84 v4 z2) 4 (m 13 v4)) + ((vm_st m2 84 v4 z2) 84 v4)))) (vm_st (vm_st m2 84 v4 z2) 83 (v4 + 1) (((vm_st m2 84 v4 z2) 83 v4) + ((((vm_st m2 84 v4 z2) 4 (m 13 v4)) + ((vm_st m2 84 v4 z2) 84 v4)) * ((vm_st m2 84 v4 z2) 10 5)))) Q))))))))) : ku3_putLetters_17 v1 v2 v3 v4 v5 w6 w7 w8 m Q := by
  show vm_G 52 17 [some (vm_r 77), some (vm_i v1), some (vm_i v2), some (vm_i v3), some (vm_i v4), some (vm_i v5), w6, w7, w8] [] m (vm_qv Q)
  obtain ⟨o1_0, h⟩ := h
  refine vm_gp [(.iload 5, 0, 0, []), (.aload 0, 0, 0, []), (.getfield 2, 3, 1, [(9, 0)]), (.getfield 2, 4, 2, [(3, 1)]), (.iload 1, 0, 0, []), (.iaload, 30, 0, [])] (pc1 := 28) (ls1 := [some (vm_r 77), some (vm_i v1), some (vm_i v2), some (vm_i v3), some (vm_i v4), some (vm_i v5), w6, w7, w8]) (st1 := [vm_i (m 12 v1), vm_i v5]) (m1 := m) (ob := ((((((true && vm_is 77 3) && true) && vm_is 9 4) && true) && vm_ar 12 100 30) && decide (0 ≤ v1 ∧ v1 < 30))) (by decide +kernel) rfl (vm_t (vm_u (vm_u (vm_u (vm_u (vm_u rfl (by decide +kernel)) rfl) (by decide +kernel)) rfl) (by decide +kernel)) o1_0) ?_
  refine vm_gj (c := (m 12 v1) ≤ v5) (t := 147) (e := 31) (i := (.if_icmp .ge 0, 147, 0, [])) (len := 3) (st1 := []) (by decide +kernel) rfl rfl (fun c1 => ?_) (fun c1 => ?_)
  · replace h := h.1 c1
    exact vm_gr (r := none) (i := (.return_, 0, 0, [])) (len := 1) (by decide +kernel) rfl rfl rfl ⟨rfl, h⟩
  · replace h := h.2 c1
    obtain ⟨⟨o3_0, o3_1, o3_2⟩, h⟩ := h
    refine vm_gp [(.aload 0, 0, 0, []), (.getfield 2, 3, 1, [(9, 0)]), (.getfield 2, 4, 3, [(4, 1)]), (.iload 4, 0, 0, []), (.iaload, 360, 0, []), (.istore 6, 0, 0, []), (.aload 0, 0, 0, []), (.getfield 2, 3, 1, [(9, 0)]), (.getfield 2, 4, 3, [(4, 1)]), (.iload 4, 0, 0, []), (.iconst 1, 0, 0, []), (.iadd, 0, 0, []), (.iaload, 360, 0, []), (.istore 7, 0, 0, []), (.aload 0, 0, 0, []), (.getfield 2, 3, 10, [(84, 0)]), (.iload 4, 0, 0, []), (.aload 0, 0, 0, []), (.getfield 2, 3, 1, [(9, 0)]), (.iload 6, 0, 0, []), (.iload 7, 0, 0, []), (.aload 0, 0, 0, []), (.getfield 2, 3, 0, [(3, 0)]), (.iload 6, 0, 0, []), (.iload 7, 0, 0, []), (.iload 2, 0, 0, []), (.iconst (-9), 0, 0, [])] (pc1 := 82) (ls1 := [some (vm_r 77), some (vm_i v1), some (vm_i v2), some (vm_i v3), some (vm_i v4), some (vm_i v5), some (vm_i (m 13 v4)), some (vm_i (m 13 (v4 + 1))), w8]) (st1 := [vm_i (-9), vm_i v2, vm_i (m 13 (v4 + 1)), vm_i (m 13 v4), vm_r 3, vm_i (m 13 (v4 + 1)), vm_i (m 13 v4), vm_r 9, vm_i v4, vm_r 84]) (m1 := m) (ob := (((((((((((((((((((true && vm_is 77 3) && true) && vm_is 9 4) && true) && vm_ar 13 100 360) && decide (0 ≤ v4 ∧ v4 < 360)) && vm_is 77 3) && true) && vm_is 9 4) && true) && decide (vm_32 (v4 + 1))) && vm_ar 13 100 360) && decide (0 ≤ (v4 + 1) ∧ (v4 + 1) < 360)) && vm_is 77 3) && true) && vm_is 77 3) && true) && vm_is 77 3) && true)) (by decide +kernel) rfl (vm_u (vm_u (vm_u (vm_u (vm_u (vm_u (vm_t (vm_u (vm_t (vm_u (vm_u (vm_u (vm_u (vm_t (vm_u (vm_u (vm_u (vm_u (vm_u rfl (by decide +kernel)) rfl) (by decide +kernel)) rfl) (by decide +kernel)) o3_0) (by decide +kernel)) rfl) (by decide +kernel)) rfl) o3_1) (by decide +kernel)) o3_2) (by decide +kernel)) rfl) (by decide +kernel)) rfl) (by decide +kernel)) rfl) ?_
    refine vm_gc (g := 11) (na := 5) (av := [vm_r 3, vm_i (m 13 v4), vm_i (m 13 (v4 + 1)), vm_i v2, vm_i (-9)]) (rest := [vm_i (m 13 (v4 + 1)), vm_i (m 13 v4), vm_r 9, vm_i v4, vm_r 84]) (i := (.invokevirtual 0, 11, 5, [])) (len := 3) (by decide +kernel) rfl rfl rfl (by decide +kernel) (by decide +kernel) rfl rfl (vm_u (vm_okh_v (c := 0) (by decide +kernel) (by decide +kernel)) (show vm_okn 11 5 5 0 0 5 = true by decide +kernel)) ?_
    refine vm_G.mono h ?_
    rintro _ m1 ⟨z1, rfl, h⟩
    show vm_G 52 85 [some (vm_r 77), some (vm_i v1), some (vm_i v2), some (vm_i v3), some (vm_i v4), some (vm_i v5), some (vm_i (m 13 v4)), some (vm_i (m 13 (v4 + 1))), w8] [vm_i z1, vm_i (m 13 (v4 + 1)), vm_i (m 13 v4), vm_r 9, vm_i v4, vm_r 84] m1 _
    refine vm_gc (g := 57) (na := 4) (av := [vm_r 9, vm_i (m 13 v4), vm_i (m 13 (v4 + 1)), vm_i z1]) (rest := [vm_i v4, vm_r 84]) (i := (.invokevirtual 0, 57, 4, [])) (len := 3) (by decide +kernel) rfl rfl rfl (by decide +kernel) (by decide +kernel) rfl rfl (vm_u (vm_okh_v (c := 4) (by decide +kernel) (by decide +kernel)) (show vm_okn 57 4 2 0 0 4 = true by decide +kernel)) ?_
    refine vm_G.mono h ?_
    rintro _ m2 ⟨z2, rfl, h⟩
    show vm_G 52 88 [some (vm_r 77), some (vm_i v1), some (vm_i v2), some (vm_i v3), some (vm_i v4), some (vm_i v5), some (vm_i (m 13 v4)), some (vm_i (m 13 (v4 + 1))), w8] [vm_i z2, vm_i v4, vm_r 84] m2 _
    obtain ⟨⟨o5_0, o5_1, o5_2, o5_3, o5_4, o5_5, o5_6, o5_7, o5_8, o5_9, o5_10⟩, h⟩ := h
    refine vm_gp [(.iastore, 360, 0, []), (.aload 0, 0, 0, []), (.getfield 2, 3, 0, [(3, 0)]), (.getfield 2, 0, 0, [(1, 1)]), (.iload 6, 0, 0, []), (.iaload, 26, 0, []), (.aload 0, 0, 0, []), (.getfield 2, 3, 10, [(84, 0)]), (.iload 4, 0, 0, []), (.iaload, 360, 0, []), (.iadd, 0, 0, []), (.istore 8, 0, 0, []), (.aload 0, 0, 0, []), (.getfield 2, 3, 9, [(83, 0)]), (.iload 4, 0, 0, []), (.iconst 1, 0, 0, []), (.iadd, 0, 0, []), (.aload 0, 0, 0, []), (.getfield 2, 3, 9, [(83, 0)]), (.iload 4, 0, 0, []), (.iaload, 360, 0, []), (.iload 8, 0, 0, []), (.aload 0, 0, 0, []), (.getfield 2, 3, 1, [(9, 0)]), (.getfield 2, 4, 0, [(1, 1)]), (.iconst 5, 0, 0, []), (.iaload, 6, 0, []), (.imul, 0, 0, []), (.iadd, 0, 0, []), (.iastore, 360, 0, []), (.iinc 4 1, 0, 0, []), (.iinc 5 1, 0, 0, []), (.goto 0, 17, 0, [])] (pc1 := 17) (ls1 := [some (vm_r 77), some (vm_i v1), some (vm_i v2), some (vm_i v3), some (vm_i (v4 + 1)), some (vm_i (v5 + 1)), some (vm_i (m 13 v4)), some (vm_i (m 13 (v4 + 1))), some (vm_i (((vm_st m2 84 v4 z2) 4 (m 13 v4)) + ((vm_st m2 84 v4 z2) 84 v4)))]) (st1 := []) (m1 := (vm_st (vm_st m2 84 v4 z2) 83 (v4 + 1) (((vm_st m2 84 v4 z2) 83 v4) + ((((vm_st m2 84 v4 z2) 4 (m 13 v4)) + ((vm_st m2 84 v4 z2) 84 v4)) * ((vm_st m2 84 v4 z2) 10 5))))) (ob := ((((((((((((((((((((((((((((((((true && vm_ar 84 100 360) && decide (0 ≤ v4 ∧ v4 < 360)) && vm_is 77 3) && true) && vm_is 3 0) && true) && vm_ar 4 100 26) && decide (0 ≤ (m 13 v4) ∧ (m 13 v4) < 26)) && vm_is 77 3) && true) && vm_ar 84 100 360) && decide (0 ≤ v4 ∧ v4 < 360)) && decide (vm_32 (((vm_st m2 84 v4 z2) 4 (m 13 v4)) + ((vm_st m2 84 v4 z2) 84 v4)))) && vm_is 77 3) && true) && decide (vm_32 (v4 + 1))) && vm_is 77 3) && true) && vm_ar 83 100 360) && decide (0 ≤ v4 ∧ v4 < 360)) && vm_is 77 3) && true) && vm_is 9 4) && true) && vm_ar 10 100 6) && decide ((0 : Int) ≤ 5 ∧ (5 : Int) < 6)) && decide (vm_32 ((((vm_st m2 84 v4 z2) 4 (m 13 v4)) + ((vm_st m2 84 v4 z2) 84 v4)) * ((vm_st m2 84 v4 z2) 10 5)))) && decide (vm_32 (((vm_st m2 84 v4 z2) 83 v4) + ((((vm_st m2 84 v4 z2) 4 (m 13 v4)) + ((vm_st m2 84 v4 z2) 84 v4)) * ((vm_st m2 84 v4 z2) 10 5))))) && vm_ar 83 100 360) && decide (0 ≤ (v4 + 1) ∧ (v4 + 1) < 360)) && decide (vm_32 (v4 + 1))) && decide (vm_32 (v5 + 1)))) (by decide +kernel) rfl (vm_t (vm_t (vm_t (vm_u (vm_t (vm_t (vm_t (vm_u (vm_u (vm_u (vm_u (vm_u (vm_t (vm_u (vm_u (vm_u (vm_t (vm_u (vm_u (vm_t (vm_t (vm_u (vm_u (vm_u (vm_t (vm_u (vm_u (vm_u (vm_u (vm_u (vm_t (vm_u rfl (by decide +kernel)) o5_0) (by decide +kernel)) rfl) (by decide +kernel)) rfl) (by decide +kernel)) o5_1) (by decide +kernel)) rfl) (by decide +kernel)) o5_2) o5_3) (by decide +kernel)) rfl) o5_4) (by decide +kernel)) rfl) (by decide +kernel)) o5_5) (by decide +kernel)) rfl) (by decide +kernel)) rfl) (by decide +kernel)) (by decide)) o5_6) o5_7) (by decide +kernel)) o5_8) o5_9) o5_10) ?_
    exact h
abbrev ku4_copyFrom_0 (th : Nat) (o1 : Nat) (m : vm_M) (Q : vm_M → Prop) : Prop := vm_G 54 0 [some (vm_r th), some (vm_r o1)] [] m (vm_qv Q)
set_option maxRecDepth 20000 in
theorem ru4_copyFrom_0 {th : Nat} {o1 : Nat} {m : vm_M} {Q : vm_M → Prop} (h_th : vm_is th 4 = true) (h_o1 : vm_is o1 4 = true) (h :
    ((((vm_st (vm_cp (vm_cp (vm_cp (vm_cp m (o1 + 1) 0 (th + 1) 0 6) (o1 + 2) 0 (th + 2) 0 676) (o1 + 3) 0 (th + 3) 0 30) (o1 + 4) 0 (th + 4) 0 360) th 4 ((vm_cp (vm_cp (vm_cp (vm_cp m (o1 + 1) 0 (th + 1) 0 6) (o1 + 2) 0 (th + 2) 0 676) (o1 + 3) 0 (th + 3) 0 30) (o1 + 4) 0 (th + 4) 0 360) o1 4)) o1 5) = 0 ∨ ((vm_st (vm_cp (vm_cp (vm_cp (vm_cp m (o1 + 1) 0 (th + 1) 0 6) (o1 + 2) 0 (th + 2) 0 676) (o1 + 3) 0 (th + 3) 0 30) (o1 + 4) 0 (th + 4) 0 360) th 4 ((vm_cp (vm_cp (vm_cp (vm_cp m (o1 + 1) 0 (th + 1) 0 6) (o1 + 2) 0 (th + 2) 0 676) (o1 + 3) 0 (th + 3) 0 30) (o1 + 4) 0 (th + 4) 0 360) o1 4)) o1 5) = 1)) ∧
    Q (vm_st (vm_st (vm_st (vm_cp (vm_cp (vm_cp (vm_cp m (o1 + 1) 0 (th + 1) 0 6) (o1 + 2) 0 (th + 2) 0 676) (o1 + 3) 0 (th + 3) 0 30) (o1 + 4) 0 (th + 4) 0 360) th 4 ((vm_cp (vm_cp (vm_cp (vm_cp m (o1 + 1) 0 (th + 1) 0 6) (o1 + 2) 0 (th + 2) 0 676) (o1 + 3) 0 (th + 3) 0 30) (o1 + 4) 0 (th + 4) 0 360) o1 4)) th 5 ((vm_st (vm_cp (vm_cp (vm_cp (vm_cp m (o1 + 1) 0 (th + 1) 0 6) (o1 + 2) 0 (th + 2) 0 676) (o1 + 3) 0 (th + 3) 0 30) (o1 + 4) 0 (th + 4) 0 360) th 4 ((vm_cp (vm_cp (vm_cp (vm_cp m (o1 + 1) 0 (th + 1) 0 6) (o1 + 2) 0 (th + 2) 0 676) (o1 + 3) 0 (th + 3) 0 30) (o1 + 4) 0 (th + 4) 0 360) o1 4)) o1 5)) th 6 ((vm_st (vm_st (vm_cp (vm_cp (vm_cp (vm_cp m (o1 + 1) 0 (th + 1) 0 6) (o1 + 2) 0 (th + 2) 0 676) (o1 + 3) 0 (th + 3) 0 30) (o1 + 4) 0 (th + 4) 0 360) th 4 ((vm_cp (vm_cp (vm_cp (vm_cp m (o1 + 1) 0 (th + 1) 0 6) (o1 + 2) 0 (th + 2) 0 676) (o1 + 3) 0 (th + 3) 0 30) (o1 + 4) 0 (th + 4) 0 360) o1 4)) th 5 ((vm_st (vm_cp (vm_cp (vm_cp (vm_cp m (o1 + 1) 0 (th + 1) 0 6) (o1 + 2) 0 (th + 2) 0 676) (o1 + 3) 0 (th + 3) 0 30) (o1 + 4) 0 (th + 4) 0 360) th 4 ((vm_cp (vm_cp (vm_cp (vm_cp m (o1 + 1) 0 (th + 1) 0 6) (o1 + 2) 0 (th + 2) 0 676) (o1 + 3) 0 (th + 3) 0 30) (o1 + 4) 0 (th + 4) 0 360) o1 4)) o1 5)) o1 6))) : vm_C 54 [vm_r th, vm_r o1] m (vm_qv Q) := by
  show vm_G 54 0 [some (vm_r th), some (vm_r o1)] [] m (vm_qv Q)
  obtain ⟨o1_0, h⟩ := h
  refine vm_gp [(.aload 1, 0, 0, []), (.getfield 2, 4, 0, [(1, 1)]), (.iconst 0, 0, 0, []), (.aload 0, 0, 0, []), (.getfield 2, 4, 0, [(1, 1)]), (.iconst 0, 0, 0, []), (.iconst 6, 0, 0, []), (.invokestatic 0, 1003, 6, []), (.aload 1, 0, 0, []), (.getfield 2, 4, 1, [(2, 1)]), (.iconst 0, 0, 0, []), (.aload 0, 0, 0, []), (.getfield 2, 4, 1, [(2, 1)]), (.iconst 0, 0, 0, []), (.iconst 676, 0, 0, []), (.invokestatic 0, 1003, 676, []), (.aload 1, 0, 0, []), (.getfield 2, 4, 2, [(3, 1)]), (.iconst 0, 0, 0, []), (.aload 0, 0, 0, []), (.getfield 2, 4, 2, [(3, 1)]), (.iconst 0, 0, 0, []), (.iconst 30, 0, 0, []), (.invokestatic 0, 1003, 30, []), (.aload 1, 0, 0, []), (.getfield 2, 4, 3, [(4, 1)]), (.iconst 0, 0, 0, []), (.aload 0, 0, 0, []), (.getfield 2, 4, 3, [(4, 1)]), (.iconst 0, 0, 0, []), (.iconst 360, 0, 0, []), (.invokestatic 0, 1003, 360, []), (.aload 0, 0, 0, []), (.aload 1, 0, 0, []), (.getfield 0, 4, 4, []), (.putfield 0, 4, 4, []), (.aload 0, 0, 0, []), (.aload 1, 0, 0, []), (.getfield 0, 4, 5, []), (.putfield 3, 4, 5, []), (.aload 0, 0, 0, []), (.aload 1, 0, 0, []), (.getfield 0, 4, 6, []), (.putfield 0, 4, 6, [])] (pc1 := 86) (ls1 := [some (vm_r th), some (vm_r o1)]) (st1 := []) (m1 := (vm_st (vm_st (vm_st (vm_cp (vm_cp (vm_cp (vm_cp m (o1 + 1) 0 (th + 1) 0 6) (o1 + 2) 0 (th + 2) 0 676) (o1 + 3) 0 (th + 3) 0 30) (o1 + 4) 0 (th + 4) 0 360) th 4 ((vm_cp (vm_cp (vm_cp (vm_cp m (o1 + 1) 0 (th + 1) 0 6) (o1 + 2) 0 (th + 2) 0 676) (o1 + 3) 0 (th + 3) 0 30) (o1 + 4) 0 (th + 4) 0 360) o1 4)) th 5 ((vm_st (vm_cp (vm_cp (vm_cp (vm_cp m (o1 + 1) 0 (th + 1) 0 6) (o1 + 2) 0 (th + 2) 0 676) (o1 + 3) 0 (th + 3) 0 30) (o1 + 4) 0 (th + 4) 0 360) th 4 ((vm_cp (vm_cp (vm_cp (vm_cp m (o1 + 1) 0 (th + 1) 0 6) (o1 + 2) 0 (th + 2) 0 676) (o1 + 3) 0 (th + 3) 0 30) (o1 + 4) 0 (th + 4) 0 360) o1 4)) o1 5)) th 6 ((vm_st (vm_st (vm_cp (vm_cp (vm_cp (vm_cp m (o1 + 1) 0 (th + 1) 0 6) (o1 + 2) 0 (th + 2) 0 676) (o1 + 3) 0 (th + 3) 0 30) (o1 + 4) 0 (th + 4) 0 360) th 4 ((vm_cp (vm_cp (vm_cp (vm_cp m (o1 + 1) 0 (th + 1) 0 6) (o1 + 2) 0 (th + 2) 0 676) (o1 + 3) 0 (th + 3) 0 30) (o1 + 4) 0 (th + 4) 0 360) o1 4)) th 5 ((vm_st (vm_cp (vm_cp (vm_cp (vm_cp m (o1 + 1) 0 (th + 1) 0 6) (o1 + 2) 0 (th + 2) 0 676) (o1 + 3) 0 (th + 3) 0 30) (o1 + 4) 0 (th + 4) 0 360) th 4 ((vm_cp (vm_cp (vm_cp (vm_cp m (o1 + 1) 0 (th + 1) 0 6) (o1 + 2) 0 (th + 2) 0 676) (o1 + 3) 0 (th + 3) 0 30) (o1 + 4) 0 (th + 4) 0 360) o1 4)) o1 5)) o1 6))) (ob := (((((((((((((((((((((((((((((((((((((((true && vm_is o1 4) && true) && vm_is th 4) && true) && decide (vm_cats [] ≤ 8)) && vm_ar (o1 + 1) 100 6) && vm_ar (th + 1) 100 6) && decide ((0 : Int) ≤ 0 ∧ (0 : Int) ≤ 0 ∧ (0 : Int) ≤ 6 ∧ (0 : Int) + 6 ≤ 6 ∧ (0 : Int) + 6 ≤ 6)) && vm_is o1 4) && true) && vm_is th 4) && true) && decide (vm_cats [] ≤ 8)) && vm_ar (o1 + 2) 100 676) && vm_ar (th + 2) 100 676) && decide ((0 : Int) ≤ 0 ∧ (0 : Int) ≤ 0 ∧ (0 : Int) ≤ 676 ∧ (0 : Int) + 676 ≤ 676 ∧ (0 : Int) + 676 ≤ 676)) && vm_is o1 4) && true) && vm_is th 4) && true) && decide (vm_cats [] ≤ 8)) && vm_ar (o1 + 3) 100 30) && vm_ar (th + 3) 100 30) && decide ((0 : Int) ≤ 0 ∧ (0 : Int) ≤ 0 ∧ (0 : Int) ≤ 30 ∧ (0 : Int) + 30 ≤ 30 ∧ (0 : Int) + 30 ≤ 30)) && vm_is o1 4) && true) && vm_is th 4) && true) && decide (vm_cats [] ≤ 8)) && vm_ar (o1 + 4) 100 360) && vm_ar (th + 4) 100 360) && decide ((0 : Int) ≤ 0 ∧ (0 : Int) ≤ 0 ∧ (0 : Int) ≤ 360 ∧ (0 : Int) + 360 ≤ 360 ∧ (0 : Int) + 360 ≤ 360)) && vm_is o1 4) && vm_is th 4) && vm_is o1 4) && vm_is th 4) && decide (((vm_st (vm_cp (vm_cp (vm_cp (vm_cp m (o1 + 1) 0 (th + 1) 0 6) (o1 + 2) 0 (th + 2) 0 676) (o1 + 3) 0 (th + 3) 0 30) (o1 + 4) 0 (th + 4) 0 360) th 4 ((vm_cp (vm_cp (vm_cp (vm_cp m (o1 + 1) 0 (th + 1) 0 6) (o1 + 2) 0 (th + 2) 0 676) (o1 + 3) 0 (th + 3) 0 30) (o1 + 4) 0 (th + 4) 0 360) o1 4)) o1 5) = 0 ∨ ((vm_st (vm_cp (vm_cp (vm_cp (vm_cp m (o1 + 1) 0 (th + 1) 0 6) (o1 + 2) 0 (th + 2) 0 676) (o1 + 3) 0 (th + 3) 0 30) (o1 + 4) 0 (th + 4) 0 360) th 4 ((vm_cp (vm_cp (vm_cp (vm_cp m (o1 + 1) 0 (th + 1) 0 6) (o1 + 2) 0 (th + 2) 0 676) (o1 + 3) 0 (th + 3) 0 30) (o1 + 4) 0 (th + 4) 0 360) o1 4)) o1 5) = 1)) && vm_is o1 4) && vm_is th 4)) (by decide +kernel) rfl (vm_u (vm_u (vm_t (vm_u (vm_u (vm_u (vm_u (vm_t (vm_u (vm_u (vm_t (vm_u (vm_u (vm_u (vm_u (vm_t (vm_u (vm_u (vm_t (vm_u (vm_u (vm_u (vm_u (vm_t (vm_u (vm_u (vm_t (vm_u (vm_u (vm_u (vm_u (vm_t (vm_u (vm_u (vm_t (vm_u (vm_u (vm_u (vm_u rfl h_o1) rfl) h_th) rfl) (by decide : (0 : Nat) ≤ 8)) (vm_is_ar 1 (by decide) h_o1 (by decide +kernel))) (vm_is_ar 1 (by decide) h_th (by decide +kernel))) (by decide)) h_o1) rfl) h_th) rfl) (by decide : (0 : Nat) ≤ 8)) (vm_is_ar 2 (by decide) h_o1 (by decide +kernel))) (vm_is_ar 2 (by decide) h_th (by decide +kernel))) (by decide)) h_o1) rfl) h_th) rfl) (by decide : (0 : Nat) ≤ 8)) (vm_is_ar 3 (by decide) h_o1 (by decide +kernel))) (vm_is_ar 3 (by decide) h_th (by decide +kernel))) (by decide)) h_o1) rfl) h_th) rfl) (by decide : (0 : Nat) ≤ 8)) (vm_is_ar 4 (by decide) h_o1 (by decide +kernel))) (vm_is_ar 4 (by decide) h_th (by decide +kernel))) (by decide)) h_o1) h_th) h_o1) h_th) o1_0) h_o1) h_th) ?_
  exact vm_gr (r := none) (i := (.return_, 0, 0, [])) (len := 1) (by decide +kernel) rfl rfl rfl ⟨rfl, h⟩
abbrev ku4_clear_0 (th : Nat) (m : vm_M) (Q : vm_M → Prop) : Prop := vm_G 55 0 [some (vm_r th), none] [] m (vm_qv Q)
abbrev ku4_clear_2 (th : Nat) (v1 : Int) (m : vm_M) (Q : vm_M → Prop) : Prop := vm_G 55 2 [some (vm_r th), some (vm_i v1)] [] m (vm_qv Q)
set_option maxRecDepth 20000 in
theorem ru4_clear_0 {th : Nat} {m : vm_M} {Q : vm_M → Prop} (h_th : vm_is th 4 = true) (h :
    ku4_clear_2 th 0 m Q) : vm_C 55 [vm_r th] m (vm_qv Q) := by
  show vm_G 55 0 [some (vm_r th), none] [] m (vm_qv Q)
  refine vm_gp [(.iconst 0, 0, 0, []), (.istore 1, 0, 0, [])] (pc1 := 2) (ls1 := [some (vm_r th), some (vm_i 0)]) (st1 := []) (m1 := m) (ob := true) (by decide +kernel) rfl rfl ?_
  exact h
set_option maxRecDepth 20000 in
theorem ru4_clear_2 {th : Nat} {v1 : Int} {m : vm_M} {Q : vm_M → Prop} (h_th : vm_is th 4 = true) (h :
    ((676 ≤ v1 →
      Q (vm_st (vm_st (vm_st m th 4 0) th 5 0) th 6 0)) ∧ (¬ 676 ≤ v1 →
      ((0 ≤ v1 ∧ v1 < 676) ∧ (vm_32 (v1 + 1))) ∧
      ku4_clear_2 th (v1 + 1) (vm_st m (th + 2) v1 0) Q))) : ku4_clear_2 th v1 m Q := by
  show vm_G 55 2 [some (vm_r th), some (vm_i v1)] [] m (vm_qv Q)
  refine vm_gp [(.iload 1, 0, 0, []), (.iconst 676, 0, 0, [])] (pc1 := 6) (ls1 := [some (vm_r th), some (vm_i v1)]) (st1 := [vm_i 676, vm_i v1]) (m1 := m) (ob := true) (by decide +kernel) rfl rfl ?_
  refine vm_gj (c := 676 ≤ v1) (t := 22) (e := 9) (i := (.if_icmp .ge 0, 22, 0, [])) (len := 3) (st1 := []) (by decide +kernel) rfl rfl (fun c1 => ?_) (fun c1 => ?_)
  · replace h := h.1 c1
    refine vm_gp [(.aload 0, 0, 0, []), (.iconst 0, 0, 0, []), (.putfield 0, 4, 4, []), (.aload 0, 0, 0, []), (.iconst 0, 0, 0, []), (.putfield 3, 4, 5, []), (.aload 0, 0, 0, []), (.iconst 0, 0, 0, []), (.putfield 0, 4, 6, [])] (pc1 := 37) (ls1 := [some (vm_r th), some (vm_i v1)]) (st1 := []) (m1 := (vm_st (vm_st (vm_st m th 4 0) th 5 0) th 6 0)) (ob := ((((true && vm_is th 4) && vm_is th 4) && decide ((0 : Int) = 0 ∨ (0 : Int) = 1)) && vm_is th 4)) (by decide +kernel) rfl (vm_u (vm_t (vm_u (vm_u rfl h_th) h_th) (by decide)) h_th) ?_
    exact vm_gr (r := none) (i := (.return_, 0, 0, [])) (len := 1) (by decide +kernel) rfl rfl rfl ⟨rfl, h⟩
  · replace h := h.2 c1
    obtain ⟨⟨o3_0, o3_1⟩, h⟩ := h
    refine vm_gp [(.aload 0, 0, 0, []), (.getfield 2, 4, 1, [(2, 1)]), (.iload 1, 0, 0, []), (.iconst 0, 0, 0, []), (.iastore, 676, 0, []), (.iinc 1 1, 0, 0, []), (.goto 0, 2, 0, [])] (pc1 := 2) (ls1 := [some (vm_r th), some (vm_i (v1 + 1))]) (st1 := []) (m1 := (vm_st m (th + 2) v1 0)) (ob := (((((true && vm_is th 4) && true) && vm_ar (th + 2) 100 676) && decide (0 ≤ v1 ∧ v1 < 676)) && decide (vm_32 (v1 + 1)))) (by decide +kernel) rfl (vm_t (vm_t (vm_u (vm_u (vm_u rfl h_th) rfl) (vm_is_ar 2 (by decide) h_th (by decide +kernel))) o3_0) o3_1) ?_
    exact h
abbrev ku4_correctionOf_0 (th : Nat) (v1 : Int) (v2 : Int) (m : vm_M) (Q : Int → vm_M → Prop) : Prop := vm_G 56 0 [some (vm_r th), some (vm_i v1), some (vm_i v2)] [] m (vm_qi Q)
set_option maxRecDepth 20000 in
theorem ru4_correctionOf_0 {th : Nat} {v1 : Int} {v2 : Int} {m : vm_M} {Q : Int → vm_M → Prop} (h_th : vm_is th 4 = true) (h :
    ((vm_32 (v1 * 26)) ∧ (vm_32 ((v1 * 26) + v2)) ∧ (0 ≤ ((v1 * 26) + v2) ∧ ((v1 * 26) + v2) < 676)) ∧
    Q (m (th + 2) ((v1 * 26) + v2)) m) : vm_C 56 [vm_r th, vm_i v1, vm_i v2] m (vm_qi Q) := by
  show vm_G 56 0 [some (vm_r th), some (vm_i v1), some (vm_i v2)] [] m (vm_qi Q)
  obtain ⟨⟨o1_0, o1_1, o1_2⟩, h⟩ := h
  refine vm_gp [(.aload 0, 0, 0, []), (.getfield 2, 4, 1, [(2, 1)]), (.iload 1, 0, 0, []), (.iconst 26, 0, 0, []), (.imul, 0, 0, []), (.iload 2, 0, 0, []), (.iadd, 0, 0, []), (.iaload, 676, 0, [])] (pc1 := 11) (ls1 := [some (vm_r th), some (vm_i v1), some (vm_i v2)]) (st1 := [vm_i (m (th + 2) ((v1 * 26) + v2))]) (m1 := m) (ob := ((((((true && vm_is th 4) && true) && decide (vm_32 (v1 * 26))) && decide (vm_32 ((v1 * 26) + v2))) && vm_ar (th + 2) 100 676) && decide (0 ≤ ((v1 * 26) + v2) ∧ ((v1 * 26) + v2) < 676))) (by decide +kernel) rfl (vm_t (vm_u (vm_t (vm_t (vm_u (vm_u rfl h_th) rfl) o1_0) o1_1) (vm_is_ar 2 (by decide) h_th (by decide +kernel))) o1_2) ?_
  exact vm_gr (r := some (vm_i (m (th + 2) ((v1 * 26) + v2)))) (i := (.ireturn, 1, 0, [])) (len := 1) (by decide +kernel) rfl rfl rfl ⟨_, rfl, h⟩
abbrev ku4_corrected_0 (th : Nat) (v1 : Int) (v2 : Int) (v3 : Int) (m : vm_M) (Q : Int → vm_M → Prop) : Prop := vm_G 57 0 [some (vm_r th), some (vm_i v1), some (vm_i v2), some (vm_i v3)] [] m (vm_qi Q)
set_option maxRecDepth 20000 in
theorem ru4_corrected_0 {th : Nat} {v1 : Int} {v2 : Int} {v3 : Int} {m : vm_M} {Q : Int → vm_M → Prop} (h_th : vm_is th 4 = true) (h :
    (vm_C 56 [vm_r th, vm_i v1, vm_i v2] m (vm_qi (fun z1 m1 =>
      ((vm_32 (v3 + z1))) ∧
      Q (if (-9) < (v3 + z1) then (v3 + z1) else (-9)) m1)))) : vm_C 57 [vm_r th, vm_i v1, vm_i v2, vm_i v3] m (vm_qi Q) := by
  show vm_G 57 0 [some (vm_r th), some (vm_i v1), some (vm_i v2), some (vm_i v3)] [] m (vm_qi Q)
  refine vm_gp [(.iconst (-9), 0, 0, []), (.iload 3, 0, 0, []), (.aload 0, 0, 0, []), (.iload 1, 0, 0, []), (.iload 2, 0, 0, [])] (pc1 := 6) (ls1 := [some (vm_r th), some (vm_i v1), some (vm_i v2), some (vm_i v3)]) (st1 := [vm_i v2, vm_i v1, vm_r th, vm_i v3, vm_i (-9)]) (m1 := m) (ob := true) (by decide +kernel) rfl rfl ?_
  refine vm_gc (g := 56) (na := 3) (av := [vm_r th, vm_i v1, vm_i v2]) (rest := [vm_i v3, vm_i (-9)]) (i := (.invokevirtual 0, 56, 3, [])) (len := 3) (by decide +kernel) rfl rfl rfl (by decide +kernel) (by decide +kernel) rfl rfl (vm_u (vm_okh_v (c := 4) (by decide +kernel) h_th) (show vm_okn 56 3 2 0 0 3 = true by decide +kernel)) ?_
  refine vm_G.mono h ?_
  rintro _ m1 ⟨z1, rfl, h⟩
  show vm_G 57 9 [some (vm_r th), some (vm_i v1), some (vm_i v2), some (vm_i v3)] [vm_i z1, vm_i v3, vm_i (-9)] m1 _
  obtain ⟨o2_0, h⟩ := h
  refine vm_gp [(.iadd, 0, 0, []), (.invokestatic 0, 1000, 0, [])] (pc1 := 13) (ls1 := [some (vm_r th), some (vm_i v1), some (vm_i v2), some (vm_i v3)]) (st1 := [vm_i (if (-9) < (v3 + z1) then (v3 + z1) else (-9))]) (m1 := m1) (ob := ((true && decide (vm_32 (v3 + z1))) && decide (vm_cats [] ≤ 8))) (by decide +kernel) rfl (vm_t (vm_t rfl o2_0) (by decide : (0 : Nat) ≤ 8)) ?_
  exact vm_gr (r := some (vm_i (if (-9) < (v3 + z1) then (v3 + z1) else (-9)))) (i := (.ireturn, 1, 0, [])) (len := 1) (by decide +kernel) rfl rfl rfl ⟨_, rfl, h⟩
abbrev ku4_countCorrections_0 (th : Nat) (m : vm_M) (Q : Int → vm_M → Prop) : Prop := vm_G 58 0 [some (vm_r th), none, none] [] m (vm_qi Q)
abbrev ku4_countCorrections_4 (th : Nat) (v1 : Int) (v2 : Int) (m : vm_M) (Q : Int → vm_M → Prop) : Prop := vm_G 58 4 [some (vm_r th), some (vm_i v1), some (vm_i v2)] [] m (vm_qi Q)
set_option maxRecDepth 20000 in
theorem ru4_countCorrections_0 {th : Nat} {m : vm_M} {Q : Int → vm_M → Prop} (h_th : vm_is th 4 = true) (h :
    ku4_countCorrections_4 th 0 0 m Q) : vm_C 58 [vm_r th] m (vm_qi Q) := by
  show vm_G 58 0 [some (vm_r th), none, none] [] m (vm_qi Q)
  refine vm_gp [(.iconst 0, 0, 0, []), (.istore 1, 0, 0, []), (.iconst 0, 0, 0, []), (.istore 2, 0, 0, [])] (pc1 := 4) (ls1 := [some (vm_r th), some (vm_i 0), some (vm_i 0)]) (st1 := []) (m1 := m) (ob := true) (by decide +kernel) rfl rfl ?_
  exact h
set_option maxRecDepth 20000 in
theorem ru4_countCorrections_4 {th : Nat} {v1 : Int} {v2 : Int} {m : vm_M} {Q : Int → vm_M → Prop} (h_th : vm_is th 4 = true) (h :
    ((676 ≤ v2 →
      Q v1 m) ∧ (¬ 676 ≤ v2 →
      ((0 ≤ v2 ∧ v2 < 676)) ∧
      ((¬ (m (th + 2) v2) = 0 →
        ((vm_32 (v1 + 1)) ∧ (vm_32 (v2 + 1))) ∧
        ku4_countCorrections_4 th (v1 + 1) (v2 + 1) m Q) ∧ (¬ ¬ (m (th + 2) v2) = 0 →
        ((vm_32 (v1 + 0)) ∧ (vm_32 (v2 + 1))) ∧
        ku4_countCorrections_4 th (v1 + 0) (v2 + 1) m Q))))) : ku4_countCorrections_4 th v1 v2 m Q := by
  show vm_G 58 4 [some (vm_r th), some (vm_i v1), some (vm_i v2)] [] m (vm_qi Q)
  refine vm_gp [(.iload 2, 0, 0, []), (.iconst 676, 0, 0, [])] (pc1 := 8) (ls1 := [some (vm_r th), some (vm_i v1), some (vm_i v2)]) (st1 := [vm_i 676, vm_i v2]) (m1 := m) (ob := true) (by decide +kernel) rfl rfl ?_
  refine vm_gj (c := 676 ≤ v2) (t := 34) (e := 11) (i := (.if_icmp .ge 0, 34, 0, [])) (len := 3) (st1 := []) (by decide +kernel) rfl rfl (fun c1 => ?_) (fun c1 => ?_)
  · replace h := h.1 c1
    refine vm_gp [(.iload 1, 0, 0, [])] (pc1 := 35) (ls1 := [some (vm_r th), some (vm_i v1), some (vm_i v2)]) (st1 := [vm_i v1]) (m1 := m) (ob := true) (by decide +kernel) rfl rfl ?_
    exact vm_gr (r := some (vm_i v1)) (i := (.ireturn, 1, 0, [])) (len := 1) (by decide +kernel) rfl rfl rfl ⟨_, rfl, h⟩
  · replace h := h.2 c1
    obtain ⟨o3_0, h⟩ := h
    refine vm_gp [(.iload 1, 0, 0, []), (.aload 0, 0, 0, []), (.getfield 2, 4, 1, [(2, 1)]), (.iload 2, 0, 0, []), (.iaload, 676, 0, [])] (pc1 := 18) (ls1 := [some (vm_r th), some (vm_i v1), some (vm_i v2)]) (st1 := [vm_i (m (th + 2) v2), vm_i v1]) (m1 := m) (ob := ((((true && vm_is th 4) && true) && vm_ar (th + 2) 100 676) && decide (0 ≤ v2 ∧ v2 < 676))) (by decide +kernel) rfl (vm_t (vm_u (vm_u (vm_u rfl h_th) rfl) (vm_is_ar 2 (by decide) h_th (by decide +kernel))) o3_0) ?_
    refine vm_gj (c := ¬ (m (th + 2) v2) = 0) (t := 25) (e := 21) (i := (.ifCond .ne 0, 25, 0, [])) (len := 3) (st1 := [vm_i v1]) (by decide +kernel) rfl rfl (fun c2 => ?_) (fun c2 => ?_)
    · replace h := h.1 c2
      obtain ⟨⟨o4_0, o4_1⟩, h⟩ := h
      refine vm_gp [(.iconst 1, 0, 0, []), (.iadd, 0, 0, []), (.istore 1, 0, 0, []), (.iinc 2 1, 0, 0, []), (.goto 0, 4, 0, [])] (pc1 := 4) (ls1 := [some (vm_r th), some (vm_i (v1 + 1)), some (vm_i (v2 + 1))]) (st1 := []) (m1 := m) (ob := ((true && decide (vm_32 (v1 + 1))) && decide (vm_32 (v2 + 1)))) (by decide +kernel) rfl (vm_t (vm_t rfl o4_0) o4_1) ?_
      exact h
    · replace h := h.2 c2
      obtain ⟨⟨o5_0, o5_1⟩, h⟩ := h
      refine vm_gp [(.iconst 0, 0, 0, []), (.goto 0, 26, 0, []), (.iadd, 0, 0, []), (.istore 1, 0, 0, []), (.iinc 2 1, 0, 0, []), (.goto 0, 4, 0, [])] (pc1 := 4) (ls1 := [some (vm_r th), some (vm_i (v1 + 0)), some (vm_i (v2 + 1))]) (st1 := []) (m1 := m) (ob := ((true && decide (vm_32 (v1 + 0))) && decide (vm_32 (v2 + 1)))) (by decide +kernel) rfl (vm_t (vm_t rfl o5_0) o5_1) ?_
      exact h
abbrev ku4_hasWord_0 (th : Nat) (v1 : Int) (m : vm_M) (Q : Int → vm_M → Prop) : Prop := vm_G 59 0 [some (vm_r th), some (vm_i v1)] [] m (vm_qi Q)
set_option maxRecDepth 20000 in
theorem ru4_hasWord_0 {th : Nat} {v1 : Int} {m : vm_M} {Q : Int → vm_M → Prop} (h_th : vm_is th 4 = true) (h :
    ((v1 < 0 →
      Q 0 m) ∧ (¬ v1 < 0 →
      (((m th 6) ≤ v1 →
        Q 0 m) ∧ (¬ (m th 6) ≤ v1 →
        Q 1 m))))) : vm_C 59 [vm_r th, vm_i v1] m (vm_qi Q) := by
  show vm_G 59 0 [some (vm_r th), some (vm_i v1)] [] m (vm_qi Q)
  refine vm_gp [(.iload 1, 0, 0, [])] (pc1 := 1) (ls1 := [some (vm_r th), some (vm_i v1)]) (st1 := [vm_i v1]) (m1 := m) (ob := true) (by decide +kernel) rfl rfl ?_
  refine vm_gj (c := v1 < 0) (t := 16) (e := 4) (i := (.ifCond .lt 0, 16, 0, [])) (len := 3) (st1 := []) (by decide +kernel) rfl rfl (fun c1 => ?_) (fun c1 => ?_)
  · replace h := h.1 c1
    refine vm_gp [(.iconst 0, 0, 0, [])] (pc1 := 17) (ls1 := [some (vm_r th), some (vm_i v1)]) (st1 := [vm_i 0]) (m1 := m) (ob := true) (by decide +kernel) rfl rfl ?_
    exact vm_gr (r := some (vm_i 0)) (i := (.ireturn, 2, 0, [])) (len := 1) (by decide +kernel) rfl rfl (by decide) ⟨_, rfl, h⟩
  · replace h := h.2 c1
    refine vm_gp [(.iload 1, 0, 0, []), (.aload 0, 0, 0, []), (.getfield 0, 4, 6, [])] (pc1 := 9) (ls1 := [some (vm_r th), some (vm_i v1)]) (st1 := [vm_i (m th 6), vm_i v1]) (m1 := m) (ob := (true && vm_is th 4)) (by decide +kernel) rfl (vm_u rfl h_th) ?_
    refine vm_gj (c := (m th 6) ≤ v1) (t := 16) (e := 12) (i := (.if_icmp .ge 0, 16, 0, [])) (len := 3) (st1 := []) (by decide +kernel) rfl rfl (fun c2 => ?_) (fun c2 => ?_)
    · replace h := h.1 c2
      refine vm_gp [(.iconst 0, 0, 0, [])] (pc1 := 17) (ls1 := [some (vm_r th), some (vm_i v1)]) (st1 := [vm_i 0]) (m1 := m) (ob := true) (by decide +kernel) rfl rfl ?_
      exact vm_gr (r := some (vm_i 0)) (i := (.ireturn, 2, 0, [])) (len := 1) (by decide +kernel) rfl rfl (by decide) ⟨_, rfl, h⟩
    · replace h := h.2 c2
      refine vm_gp [(.iconst 1, 0, 0, []), (.goto 0, 17, 0, [])] (pc1 := 17) (ls1 := [some (vm_r th), some (vm_i v1)]) (st1 := [vm_i 1]) (m1 := m) (ob := true) (by decide +kernel) rfl rfl ?_
      exact vm_gr (r := some (vm_i 1)) (i := (.ireturn, 2, 0, [])) (len := 1) (by decide +kernel) rfl rfl (by decide) ⟨_, rfl, h⟩
abbrev ku4_countLetters_0 (th : Nat) (v1 : Int) (v2 : Int) (m : vm_M) (Q : Int → vm_M → Prop) : Prop := vm_G 60 0 [some (vm_r th), some (vm_i v1), some (vm_i v2), none, none] [] m (vm_qi Q)
abbrev ku4_countLetters_5 (th : Nat) (v1 : Int) (v2 : Int) (v3 : Int) (v4 : Int) (m : vm_M) (Q : Int → vm_M → Prop) : Prop := vm_G 60 5 [some (vm_r th), some (vm_i v1), some (vm_i v2), some (vm_i v3), some (vm_i v4)] [] m (vm_qi Q)
set_option maxRecDepth 20000 in
theorem ru4_countLetters_0 {th : Nat} {v1 : Int} {v2 : Int} {m : vm_M} {Q : Int → vm_M → Prop} (h_th : vm_is th 4 = true) (h :
    ku4_countLetters_5 th v1 v2 0 v1 m Q) : vm_C 60 [vm_r th, vm_i v1, vm_i v2] m (vm_qi Q) := by
  show vm_G 60 0 [some (vm_r th), some (vm_i v1), some (vm_i v2), none, none] [] m (vm_qi Q)
  refine vm_gp [(.iconst 0, 0, 0, []), (.istore 3, 0, 0, []), (.iload 1, 0, 0, []), (.istore 4, 0, 0, [])] (pc1 := 5) (ls1 := [some (vm_r th), some (vm_i v1), some (vm_i v2), some (vm_i 0), some (vm_i v1)]) (st1 := []) (m1 := m) (ob := true) (by decide +kernel) rfl rfl ?_
  exact h
set_option maxRecDepth 20000 in
theorem ru4_countLetters_5 {th : Nat} {v1 : Int} {v2 : Int} {v3 : Int} {v4 : Int} {m : vm_M} {Q : Int → vm_M → Prop} (h_th : vm_is th 4 = true) (h :
    ((v2 ≤ v4 →
      Q v3 m) ∧ (¬ v2 ≤ v4 →
      ((0 ≤ v4 ∧ v4 < 30) ∧ (vm_32 (v3 + (m (th + 3) v4))) ∧ (vm_32 (v4 + 1))) ∧
      ku4_countLetters_5 th v1 v2 (v3 + (m (th + 3) v4)) (v4 + 1) m Q))) : ku4_countLetters_5 th v1 v2 v3 v4 m Q := by
  show vm_G 60 5 [some (vm_r th), some (vm_i v1), some (vm_i v2), some (vm_i v3), some (vm_i v4)] [] m (vm_qi Q)
  refine vm_gp [(.iload 4, 0, 0, []), (.iload 2, 0, 0, [])] (pc1 := 8) (ls1 := [some (vm_r th), some (vm_i v1), some (vm_i v2), some (vm_i v3), some (vm_i v4)]) (st1 := [vm_i v2, vm_i v4]) (m1 := m) (ob := true) (by decide +kernel) rfl rfl ?_
  refine vm_gj (c := v2 ≤ v4) (t := 27) (e := 11) (i := (.if_icmp .ge 0, 27, 0, [])) (len := 3) (st1 := []) (by decide +kernel) rfl rfl (fun c1 => ?_) (fun c1 => ?_)
  · replace h := h.1 c1
    refine vm_gp [(.iload 3, 0, 0, [])] (pc1 := 28) (ls1 := [some (vm_r th), some (vm_i v1), some (vm_i v2), some (vm_i v3), some (vm_i v4)]) (st1 := [vm_i v3]) (m1 := m) (ob := true) (by decide +kernel) rfl rfl ?_
    exact vm_gr (r := some (vm_i v3)) (i := (.ireturn, 1, 0, [])) (len := 1) (by decide +kernel) rfl rfl rfl ⟨_, rfl, h⟩
  · replace h := h.2 c1
    obtain ⟨⟨o3_0, o3_1, o3_2⟩, h⟩ := h
    refine vm_gp [(.iload 3, 0, 0, []), (.aload 0, 0, 0, []), (.getfield 2, 4, 2, [(3, 1)]), (.iload 4, 0, 0, []), (.iaload, 30, 0, []), (.iadd, 0, 0, []), (.istore 3, 0, 0, []), (.iinc 4 1, 0, 0, []), (.goto 0, 5, 0, [])] (pc1 := 5) (ls1 := [some (vm_r th), some (vm_i v1), some (vm_i v2), some (vm_i (v3 + (m (th + 3) v4))), some (vm_i (v4 + 1))]) (st1 := []) (m1 := m) (ob := ((((((true && vm_is th 4) && true) && vm_ar (th + 3) 100 30) && decide (0 ≤ v4 ∧ v4 < 30)) && decide (vm_32 (v3 + (m (th + 3) v4)))) && decide (vm_32 (v4 + 1)))) (by decide +kernel) rfl (vm_t (vm_t (vm_t (vm_u (vm_u (vm_u rfl h_th) rfl) (vm_is_ar 3 (by decide) h_th (by decide +kernel))) o3_0) o3_1) o3_2) ?_
    exact h
abbrev ku4_countLetter_0 (th : Nat) (v1 : Int) (m : vm_M) (Q : Int → vm_M → Prop) : Prop := vm_G 61 0 [some (vm_r th), some (vm_i v1), none, none, none] [] m (vm_qi Q)
abbrev ku4_countLetter_4 (th : Nat) (v1 : Int) (v2 : Int) (v3 : Int) (w4 : Option vm_V) (m : vm_M) (Q : Int → vm_M → Prop) : Prop := vm_G 61 4 [some (vm_r th), some (vm_i v1), some (vm_i v2), some (vm_i v3), w4] [] m (vm_qi Q)
abbrev ku4_countLetter_15 (th : Nat) (v1 : Int) (v2 : Int) (v3 : Int) (v4 : Int) (m : vm_M) (Q : Int → vm_M → Prop) : Prop := vm_G 61 15 [some (vm_r th), some (vm_i v1), some (vm_i v2), some (vm_i v3), some (vm_i v4)] [] m (vm_qi Q)
set_option maxRecDepth 20000 in
theorem ru4_countLetter_0 {th : Nat} {v1 : Int} {m : vm_M} {Q : Int → vm_M → Prop} (h_th : vm_is th 4 = true) (h :
    ku4_countLetter_4 th v1 0 0 none m Q) : vm_C 61 [vm_r th, vm_i v1] m (vm_qi Q) := by
  show vm_G 61 0 [some (vm_r th), some (vm_i v1), none, none, none] [] m (vm_qi Q)
  refine vm_gp [(.iconst 0, 0, 0, []), (.istore 2, 0, 0, []), (.iconst 0, 0, 0, []), (.istore 3, 0, 0, [])] (pc1 := 4) (ls1 := [some (vm_r th), some (vm_i v1), some (vm_i 0), some (vm_i 0), none]) (st1 := []) (m1 := m) (ob := true) (by decide +kernel) rfl rfl ?_
  exact h
set_option maxRecDepth 20000 in
theorem ru4_countLetter_4 {th : Nat} {v1 : Int} {v2 : Int} {v3 : Int} {w4 : Option vm_V} {m : vm_M} {Q : Int → vm_M → Prop} (h_th : vm_is th 4 = true) (h :
    (((m th 6) ≤ v3 →
      Q v2 m) ∧ (¬ (m th 6) ≤ v3 →
      ku4_countLetter_15 th v1 v2 v3 0 m Q))) : ku4_countLetter_4 th v1 v2 v3 w4 m Q := by
  show vm_G 61 4 [some (vm_r th), some (vm_i v1), some (vm_i v2), some (vm_i v3), w4] [] m (vm_qi Q)
  refine vm_gp [(.iload 3, 0, 0, []), (.aload 0, 0, 0, []), (.getfield 0, 4, 6, [])] (pc1 := 9) (ls1 := [some (vm_r th), some (vm_i v1), some (vm_i v2), some (vm_i v3), w4]) (st1 := [vm_i (m th 6), vm_i v3]) (m1 := m) (ob := (true && vm_is th 4)) (by decide +kernel) rfl (vm_u rfl h_th) ?_
  refine vm_gj (c := (m th 6) ≤ v3) (t := 62) (e := 12) (i := (.if_icmp .ge 0, 62, 0, [])) (len := 3) (st1 := []) (by decide +kernel) rfl rfl (fun c1 => ?_) (fun c1 => ?_)
  · replace h := h.1 c1
    refine vm_gp [(.iload 2, 0, 0, [])] (pc1 := 63) (ls1 := [some (vm_r th), some (vm_i v1), some (vm_i v2), some (vm_i v3), w4]) (st1 := [vm_i v2]) (m1 := m) (ob := true) (by decide +kernel) rfl rfl ?_
    exact vm_gr (r := some (vm_i v2)) (i := (.ireturn, 1, 0, [])) (len := 1) (by decide +kernel) rfl rfl rfl ⟨_, rfl, h⟩
  · replace h := h.2 c1
    refine vm_gp [(.iconst 0, 0, 0, []), (.istore 4, 0, 0, [])] (pc1 := 15) (ls1 := [some (vm_r th), some (vm_i v1), some (vm_i v2), some (vm_i v3), some (vm_i 0)]) (st1 := []) (m1 := m) (ob := true) (by decide +kernel) rfl rfl ?_
    exact h
set_option maxRecDepth 20000 in
theorem ru4_countLetter_15 {th : Nat} {v1 : Int} {v2 : Int} {v3 : Int} {v4 : Int} {m : vm_M} {Q : Int → vm_M → Prop} (h_th : vm_is th 4 = true) (h :
    ((0 ≤ v3 ∧ v3 < 30)) ∧
    (((m (th + 3) v3) ≤ v4 →
      ((vm_32 (v3 + 1))) ∧
      ku4_countLetter_4 th v1 v2 (v3 + 1) (some (vm_i v4)) m Q) ∧ (¬ (m (th + 3) v3) ≤ v4 →
      ((vm_32 (v3 * 12)) ∧ (vm_32 ((v3 * 12) + v4)) ∧ (0 ≤ ((v3 * 12) + v4) ∧ ((v3 * 12) + v4) < 360)) ∧
      ((¬ (m (th + 4) ((v3 * 12) + v4)) = v1 →
        ((vm_32 (v2 + 0)) ∧ (vm_32 (v4 + 1))) ∧
        ku4_countLetter_15 th v1 (v2 + 0) v3 (v4 + 1) m Q) ∧ (¬ ¬ (m (th + 4) ((v3 * 12) + v4)) = v1 →
        ((vm_32 (v2 + 1)) ∧ (vm_32 (v4 + 1))) ∧
        ku4_countLetter_15 th v1 (v2 + 1) v3 (v4 + 1) m Q))))) : ku4_countLetter_15 th v1 v2 v3 v4 m Q := by
  show vm_G 61 15 [some (vm_r th), some (vm_i v1), some (vm_i v2), some (vm_i v3), some (vm_i v4)] [] m (vm_qi Q)
  obtain ⟨o1_0, h⟩ := h
  refine vm_gp [(.iload 4, 0, 0, []), (.aload 0, 0, 0, []), (.getfield 2, 4, 2, [(3, 1)]), (.iload 3, 0, 0, []), (.iaload, 30, 0, [])] (pc1 := 23) (ls1 := [some (vm_r th), some (vm_i v1), some (vm_i v2), some (vm_i v3), some (vm_i v4)]) (st1 := [vm_i (m (th + 3) v3), vm_i v4]) (m1 := m) (ob := ((((true && vm_is th 4) && true) && vm_ar (th + 3) 100 30) && decide (0 ≤ v3 ∧ v3 < 30))) (by decide +kernel) rfl (vm_t (vm_u (vm_u (vm_u rfl h_th) rfl) (vm_is_ar 3 (by decide) h_th (by decide +kernel))) o1_0) ?_
  refine vm_gj (c := (m (th + 3) v3) ≤ v4) (t := 56) (e := 26) (i := (.if_icmp .ge 0, 56, 0, [])) (len := 3) (st1 := []) (by decide +kernel) rfl rfl (fun c1 => ?_) (fun c1 => ?_)
  · replace h := h.1 c1
    obtain ⟨o2_0, h⟩ := h
    refine vm_gp [(.iinc 3 1, 0, 0, []), (.goto 0, 4, 0, [])] (pc1 := 4) (ls1 := [some (vm_r th), some (vm_i v1), some (vm_i v2), some (vm_i (v3 + 1)), some (vm_i v4)]) (st1 := []) (m1 := m) (ob := (true && decide (vm_32 (v3 + 1)))) (by decide +kernel) rfl (vm_t rfl o2_0) ?_
    exact h
  · replace h := h.2 c1
    obtain ⟨⟨o3_0, o3_1, o3_2⟩, h⟩ := h
    refine vm_gp [(.iload 2, 0, 0, []), (.aload 0, 0, 0, []), (.getfield 2, 4, 3, [(4, 1)]), (.iload 3, 0, 0, []), (.iconst 12, 0, 0, []), (.imul, 0, 0, []), (.iload 4, 0, 0, []), (.iadd, 0, 0, []), (.iaload, 360, 0, []), (.iload 1, 0, 0, [])] (pc1 := 40) (ls1 := [some (vm_r th), some (vm_i v1), some (vm_i v2), some (vm_i v3), some (vm_i v4)]) (st1 := [vm_i v1, vm_i (m (th + 4) ((v3 * 12) + v4)), vm_i v2]) (m1 := m) (ob := ((((((true && vm_is th 4) && true) && decide (vm_32 (v3 * 12))) && decide (vm_32 ((v3 * 12) + v4))) && vm_ar (th + 4) 100 360) && decide (0 ≤ ((v3 * 12) + v4) ∧ ((v3 * 12) + v4) < 360))) (by decide +kernel) rfl (vm_t (vm_u (vm_t (vm_t (vm_u (vm_u rfl h_th) rfl) o3_0) o3_1) (vm_is_ar 4 (by decide) h_th (by decide +kernel))) o3_2) ?_
    refine vm_gj (c := ¬ (m (th + 4) ((v3 * 12) + v4)) = v1) (t := 47) (e := 43) (i := (.if_icmp .ne 0, 47, 0, [])) (len := 3) (st1 := [vm_i v2]) (by decide +kernel) rfl rfl (fun c2 => ?_) (fun c2 => ?_)
    · replace h := h.1 c2
      obtain ⟨⟨o4_0, o4_1⟩, h⟩ := h
      refine vm_gp [(.iconst 0, 0, 0, []), (.iadd, 0, 0, []), (.istore 2, 0, 0, []), (.iinc 4 1, 0, 0, []), (.goto 0, 15, 0, [])] (pc1 := 15) (ls1 := [some (vm_r th), some (vm_i v1), some (vm_i (v2 + 0)), some (vm_i v3), some (vm_i (v4 + 1))]) (st1 := []) (m1 := m) (ob := ((true && decide (vm_32 (v2 + 0))) && decide (vm_32 (v4 + 1)))) (by decide +kernel) rfl (vm_t (vm_t rfl o4_0) o4_1) ?_
      exact h
    · replace h := h.2 c2
      obtain ⟨⟨o5_0, o5_1⟩, h⟩ := h
      refine vm_gp [(.iconst 1, 0, 0, []), (.goto 0, 48, 0, []), (.iadd, 0, 0, []), (.istore 2, 0, 0, []), (.iinc 4 1, 0, 0, []), (.goto 0, 15, 0, [])] (pc1 := 15) (ls1 := [some (vm_r th), some (vm_i v1), some (vm_i (v2 + 1)), some (vm_i v3), some (vm_i (v4 + 1))]) (st1 := []) (m1 := m) (ob := ((true && decide (vm_32 (v2 + 1))) && decide (vm_32 (v4 + 1)))) (by decide +kernel) rfl (vm_t (vm_t rfl o5_0) o5_1) ?_
      exact h
abbrev ku4_exchange_0 (th : Nat) (v1 : Int) (v2 : Int) (m : vm_M) (Q : vm_M → Prop) : Prop := vm_G 62 0 [some (vm_r th), some (vm_i v1), some (vm_i v2), none, none, none] [] m (vm_qv Q)
abbrev ku4_exchange_29 (th : Nat) (v1 : Int) (v2 : Int) (v3 : Int) (v4 : Int) (w5 : Option vm_V) (m : vm_M) (Q : vm_M → Prop) : Prop := vm_G 62 29 [some (vm_r th), some (vm_i v1), some (vm_i v2), some (vm_i v3), some (vm_i v4), w5] [] m (vm_qv Q)
set_option maxRecDepth 20000 in
theorem ru4_exchange_0 {th : Nat} {v1 : Int} {v2 : Int} {m : vm_M} {Q : vm_M → Prop} (h_th : vm_is th 4 = true) (h :
    ((0 ≤ v1 ∧ v1 < 30) ∧ (0 ≤ v2 ∧ v2 < 30) ∧ (0 ≤ v1 ∧ v1 < 30) ∧ (0 ≤ v2 ∧ v2 < 30)) ∧
    ku4_exchange_29 th v1 v2 (m (th + 3) v1) 0 none (vm_st (vm_st m (th + 3) v1 (m (th + 3) v2)) (th + 3) v2 (m (th + 3) v1)) Q) : vm_C 62 [vm_r th, vm_i v1, vm_i v2] m (vm_qv Q) := by
  show vm_G 62 0 [some (vm_r th), some (vm_i v1), some (vm_i v2), none, none, none] [] m (vm_qv Q)
  obtain ⟨⟨o1_0, o1_1, o1_2, o1_3⟩, h⟩ := h
  refine vm_gp [(.aload 0, 0, 0, []), (.getfield 2, 4, 2, [(3, 1)]), (.iload 1, 0, 0, []), (.iaload, 30, 0, []), (.istore 3, 0, 0, []), (.aload 0, 0, 0, []), (.getfield 2, 4, 2, [(3, 1)]), (.iload 1, 0, 0, []), (.aload 0, 0, 0, []), (.getfield 2, 4, 2, [(3, 1)]), (.iload 2, 0, 0, []), (.iaload, 30, 0, []), (.iastore, 30, 0, []), (.aload 0, 0, 0, []), (.getfield 2, 4, 2, [(3, 1)]), (.iload 2, 0, 0, []), (.iload 3, 0, 0, []), (.iastore, 30, 0, []), (.iconst 0, 0, 0, []), (.istore 4, 0, 0, [])] (pc1 := 29) (ls1 := [some (vm_r th), some (vm_i v1), some (vm_i v2), some (vm_i (m (th + 3) v1)), some (vm_i 0), none]) (st1 := []) (m1 := (vm_st (vm_st m (th + 3) v1 (m (th + 3) v2)) (th + 3) v2 (m (th + 3) v1))) (ob := ((((((((((((((((true && vm_is th 4) && true) && vm_ar (th + 3) 100 30) && decide (0 ≤ v1 ∧ v1 < 30)) && vm_is th 4) && true) && vm_is th 4) && true) && vm_ar (th + 3) 100 30) && decide (0 ≤ v2 ∧ v2 < 30)) && vm_ar (th + 3) 100 30) && decide (0 ≤ v1 ∧ v1 < 30)) && vm_is th 4) && true) && vm_ar (th + 3) 100 30) && decide (0 ≤ v2 ∧ v2 < 30))) (by decide +kernel) rfl (vm_t (vm_u (vm_u (vm_u (vm_t (vm_u (vm_t (vm_u (vm_u (vm_u (vm_u (vm_u (vm_t (vm_u (vm_u (vm_u rfl h_th) rfl) (vm_is_ar 3 (by decide) h_th (by decide +kernel))) o1_0) h_th) rfl) h_th) rfl) (vm_is_ar 3 (by decide) h_th (by decide +kernel))) o1_1) (vm_is_ar 3 (by decide) h_th (by decide +kernel))) o1_2) h_th) rfl) (vm_is_ar 3 (by decide) h_th (by decide +kernel))) o1_3) ?_
  exact h
set_option maxRecDepth 20000 in
theorem ru4_exchange_29 {th : Nat} {v1 : Int} {v2 : Int} {v3 : Int} {v4 : Int} {w5 : Option vm_V} {m : vm_M} {Q : vm_M → Prop} (h_th : vm_is th 4 = true) (h :
    ((12 ≤ v4 →
      Q m) ∧ (¬ 12 ≤ v4 →
      ((vm_32 (v1 * 12)) ∧ (vm_32 ((v1 * 12) + v4)) ∧ (0 ≤ ((v1 * 12) + v4) ∧ ((v1 * 12) + v4) < 360) ∧ (vm_32 (v1 * 12)) ∧ (vm_32 ((v1 * 12) + v4)) ∧ (vm_32 (v2 * 12)) ∧ (vm_32 ((v2 * 12) + v4)) ∧ (0 ≤ ((v2 * 12) + v4) ∧ ((v2 * 12) + v4) < 360) ∧ (0 ≤ ((v1 * 12) + v4) ∧ ((v1 * 12) + v4) < 360) ∧ (vm_32 (v2 * 12)) ∧ (vm_32 ((v2 * 12) + v4)) ∧ (0 ≤ ((v2 * 12) + v4) ∧ ((v2 * 12) + v4) < 360) ∧ (vm_32 (v4 + 1))) ∧
      ku4_exchange_29 th v1 v2 v3 (v4 + 1) (some (vm_i (m (th + 4) ((v1 * 12) + v4)))) (vm_st (vm_st m (th + 4) ((v1 * 12) + v4) (m (th + 4) ((v2 * 12) + v4))) (th + 4) ((v2 * 12) + v4) (m (th + 4) ((v1 * 12) + v4))) Q))) : ku4_exchange_29 th v1 v2 v3 v4 w5 m Q := by
  show vm_G 62 29 [some (vm_r th), some (vm_i v1), some (vm_i v2), some (vm_i v3), some (vm_i v4), w5] [] m (vm_qv Q)
  refine vm_gp [(.iload 4, 0, 0, []), (.iconst 12, 0, 0, [])] (pc1 := 33) (ls1 := [some (vm_r th), some (vm_i v1), some (vm_i v2), some (vm_i v3), some (vm_i v4), w5]) (st1 := [vm_i 12, vm_i v4]) (m1 := m) (ob := true) (by decide +kernel) rfl rfl ?_
  refine vm_gj (c := 12 ≤ v4) (t := 94) (e := 36) (i := (.if_icmp .ge 0, 94, 0, [])) (len := 3) (st1 := []) (by decide +kernel) rfl rfl (fun c1 => ?_) (fun c1 => ?_)
  · replace h := h.1 c1
    exact vm_gr (r := none) (i := (.return_, 0, 0, [])) (len := 1) (by decide +kernel) rfl rfl rfl ⟨rfl, h⟩
  · replace h := h.2 c1
    obtain ⟨⟨o3_0, o3_1, o3_2, o3_3, o3_4, o3_5, o3_6, o3_7, o3_8, o3_9, o3_10, o3_11, o3_12⟩, h⟩ := h
    refine vm_gp [(.aload 0, 0, 0, []), (.getfield 2, 4, 3, [(4, 1)]), (.iload 1, 0, 0, []), (.iconst 12, 0, 0, []), (.imul, 0, 0, []), (.iload 4, 0, 0, []), (.iadd, 0, 0, []), (.iaload, 360, 0, []), (.istore 5, 0, 0, []), (.aload 0, 0, 0, []), (.getfield 2, 4, 3, [(4, 1)]), (.iload 1, 0, 0, []), (.iconst 12, 0, 0, []), (.imul, 0, 0, []), (.iload 4, 0, 0, []), (.iadd, 0, 0, []), (.aload 0, 0, 0, []), (.getfield 2, 4, 3, [(4, 1)]), (.iload 2, 0, 0, []), (.iconst 12, 0, 0, []), (.imul, 0, 0, []), (.iload 4, 0, 0, []), (.iadd, 0, 0, []), (.iaload, 360, 0, []), (.iastore, 360, 0, []), (.aload 0, 0, 0, []), (.getfield 2, 4, 3, [(4, 1)]), (.iload 2, 0, 0, []), (.iconst 12, 0, 0, []), (.imul, 0, 0, []), (.iload 4, 0, 0, []), (.iadd, 0, 0, []), (.iload 5, 0, 0, []), (.iastore, 360, 0, []), (.iinc 4 1, 0, 0, []), (.goto 0, 29, 0, [])] (pc1 := 29) (ls1 := [some (vm_r th), some (vm_i v1), some (vm_i v2), some (vm_i v3), some (vm_i (v4 + 1)), some (vm_i (m (th + 4) ((v1 * 12) + v4)))]) (st1 := []) (m1 := (vm_st (vm_st m (th + 4) ((v1 * 12) + v4) (m (th + 4) ((v2 * 12) + v4))) (th + 4) ((v2 * 12) + v4) (m (th + 4) ((v1 * 12) + v4)))) (ob := (((((((((((((((((((((((((true && vm_is th 4) && true) && decide (vm_32 (v1 * 12))) && decide (vm_32 ((v1 * 12) + v4))) && vm_ar (th + 4) 100 360) && decide (0 ≤ ((v1 * 12) + v4) ∧ ((v1 * 12) + v4) < 360)) && vm_is th 4) && true) && decide (vm_32 (v1 * 12))) && decide (vm_32 ((v1 * 12) + v4))) && vm_is th 4) && true) && decide (vm_32 (v2 * 12))) && decide (vm_32 ((v2 * 12) + v4))) && vm_ar (th + 4) 100 360) && decide (0 ≤ ((v2 * 12) + v4) ∧ ((v2 * 12) + v4) < 360)) && vm_ar (th + 4) 100 360) && decide (0 ≤ ((v1 * 12) + v4) ∧ ((v1 * 12) + v4) < 360)) && vm_is th 4) && true) && decide (vm_32 (v2 * 12))) && decide (vm_32 ((v2 * 12) + v4))) && vm_ar (th + 4) 100 360) && decide (0 ≤ ((v2 * 12) + v4) ∧ ((v2 * 12) + v4) < 360)) && decide (vm_32 (v4 + 1)))) (by decide +kernel) rfl (vm_t (vm_t (vm_u (vm_t (vm_t (vm_u (vm_u (vm_t (vm_u (vm_t (vm_u (vm_t (vm_t (vm_u (vm_u (vm_t (vm_t (vm_u (vm_u (vm_t (vm_u (vm_t (vm_t (vm_u (vm_u rfl h_th) rfl) o3_0) o3_1) (vm_is_ar 4 (by decide) h_th (by decide +kernel))) o3_2) h_th) rfl) o3_3) o3_4) h_th) rfl) o3_5) o3_6) (vm_is_ar 4 (by decide) h_th (by decide +kernel))) o3_7) (vm_is_ar 4 (by decide) h_th (by decide +kernel))) o3_8) h_th) rfl) o3_9) o3_10) (vm_is_ar 4 (by decide) h_th (by decide +kernel))) o3_11) o3_12) ?_
    exact h
abbrev ku4_readWords_0 (th : Nat) (o2 : Nat) (m : vm_M) (Q : Int → vm_M → Prop) : Prop := vm_G 63 0 [some (vm_r th), some (vm_r 1), some (vm_r o2), none, none, none] [] m (vm_qi Q)
abbrev ku4_readWords_10 (th : Nat) (o2 : Nat) (v3 : Int) (v4 : Int) (w5 : Option vm_V) (m : vm_M) (Q : Int → vm_M → Prop) : Prop := vm_G 63 10 [some (vm_r th), some (vm_r 1), some (vm_r o2), some (vm_i v3), some (vm_i v4), w5] [] m (vm_qi Q)
set_option maxRecDepth 20000 in
theorem ru4_readWords_0 {th : Nat} {o2 : Nat} {m : vm_M} {Q : Int → vm_M → Prop} (h_th : vm_is th 4 = true) (h_o2 : vm_is o2 0 = true) (h :
    ku4_readWords_10 th o2 0 0 none (vm_st m th 6 0) Q) : vm_C 63 [vm_r th, vm_r 1, vm_r o2] m (vm_qi Q) := by
  show vm_G 63 0 [some (vm_r th), some (vm_r 1), some (vm_r o2), none, none, none] [] m (vm_qi Q)
  refine vm_gp [(.iconst 0, 0, 0, []), (.istore 3, 0, 0, []), (.aload 0, 0, 0, []), (.iconst 0, 0, 0, []), (.putfield 0, 4, 6, []), (.iconst 0, 0, 0, []), (.istore 4, 0, 0, [])] (pc1 := 10) (ls1 := [some (vm_r th), some (vm_r 1), some (vm_r o2), some (vm_i 0), some (vm_i 0), none]) (st1 := []) (m1 := (vm_st m th 6 0)) (ob := (true && vm_is th 4)) (by decide +kernel) rfl (vm_u rfl h_th) ?_
  exact h
set_option maxRecDepth 20000 in
theorem ru4_readWords_10 {th : Nat} {o2 : Nat} {v3 : Int} {v4 : Int} {w5 : Option vm_V} {m : vm_M} {Q : Int → vm_M → Prop} (h_th : vm_is th 4 = true) (h_o2 : vm_is o2 0 = true) (h :
    (((m 1 1) ≤ v4 →
      Q (-2) m) ∧ (¬ (m 1 1) ≤ v4 →
      (vm_C 85 [vm_r 1, vm_i v4] m (vm_qi (fun z1 m1 =>
        (vm_C 86 [vm_i z1] m1 (vm_qi (fun z2 m2 =>
          ((z2 = 0 →
            ((vm_32 (z1 - 97))) ∧
            (vm_C 3 [vm_r o2, vm_i (z1 - 97)] m2 (vm_qi (fun z3 m3 =>
              ((z3 = 0 →
                Q v4 m3) ∧ (¬ z3 = 0 →
                ((vm_32 (z1 - 97))) ∧
                (vm_C 64 [vm_r th, vm_i (z1 - 97), vm_i v3] m3 (vm_qi (fun z4 m4 =>
                  ((¬ z4 = 0 →
                    ((vm_32 (v4 + 1))) ∧
                    ku4_readWords_10 th o2 1 (v4 + 1) (some (vm_i z1)) m4 Q) ∧ (¬ ¬ z4 = 0 →
                    Q v4 m4))))))))))) ∧ (¬ z2 = 0 →
            ((vm_32 (v4 + 1))) ∧
            ku4_readWords_10 th o2 0 (v4 + 1) (some (vm_i z1)) m2 Q))))))))))) : ku4_readWords_10 th o2 v3 v4 w5 m Q := by
  show vm_G 63 10 [some (vm_r th), some (vm_r 1), some (vm_r o2), some (vm_i v3), some (vm_i v4), w5] [] m (vm_qi Q)
  refine vm_gp [(.iload 4, 0, 0, []), (.aload 1, 0, 0, []), (.getfield 0, 7, 1, [])] (pc1 := 16) (ls1 := [some (vm_r th), some (vm_r 1), some (vm_r o2), some (vm_i v3), some (vm_i v4), w5]) (st1 := [vm_i (m 1 1), vm_i v4]) (m1 := m) (ob := (true && vm_is 1 7)) (by decide +kernel) rfl (vm_u rfl (by decide +kernel)) ?_
  refine vm_gj (c := (m 1 1) ≤ v4) (t := 76) (e := 19) (i := (.if_icmp .ge 0, 76, 0, [])) (len := 3) (st1 := []) (by decide +kernel) rfl rfl (fun c1 => ?_) (fun c1 => ?_)
  · replace h := h.1 c1
    refine vm_gp [(.iconst (-2), 0, 0, [])] (pc1 := 78) (ls1 := [some (vm_r th), some (vm_r 1), some (vm_r o2), some (vm_i v3), some (vm_i v4), w5]) (st1 := [vm_i (-2)]) (m1 := m) (ob := true) (by decide +kernel) rfl rfl ?_
    exact vm_gr (r := some (vm_i (-2))) (i := (.ireturn, 1, 0, [])) (len := 1) (by decide +kernel) rfl rfl rfl ⟨_, rfl, h⟩
  · replace h := h.2 c1
    refine vm_gp [(.aload 1, 0, 0, []), (.iload 4, 0, 0, [])] (pc1 := 22) (ls1 := [some (vm_r th), some (vm_r 1), some (vm_r o2), some (vm_i v3), some (vm_i v4), w5]) (st1 := [vm_i v4, vm_r 1]) (m1 := m) (ob := true) (by decide +kernel) rfl rfl ?_
    refine vm_gc (g := 85) (na := 2) (av := [vm_r 1, vm_i v4]) (rest := []) (i := (.invokevirtual 0, 85, 2, [])) (len := 3) (by decide +kernel) rfl rfl rfl (by decide +kernel) (by decide +kernel) rfl rfl (vm_u (vm_okh_v (c := 7) (by decide +kernel) (by decide +kernel)) (show vm_okn 85 2 0 0 0 2 = true by decide +kernel)) ?_
    refine vm_G.mono h ?_
    rintro _ m1 ⟨z1, rfl, h⟩
    show vm_G 63 25 [some (vm_r th), some (vm_r 1), some (vm_r o2), some (vm_i v3), some (vm_i v4), w5] [vm_i z1] m1 _
    refine vm_gp [(.istore 5, 0, 0, []), (.iload 5, 0, 0, [])] (pc1 := 29) (ls1 := [some (vm_r th), some (vm_r 1), some (vm_r o2), some (vm_i v3), some (vm_i v4), some (vm_i z1)]) (st1 := [vm_i z1]) (m1 := m1) (ob := true) (by decide +kernel) rfl rfl ?_
    refine vm_gc (g := 86) (na := 1) (av := [vm_i z1]) (rest := []) (i := (.invokestatic 0, 86, 1, [])) (len := 3) (by decide +kernel) rfl rfl rfl (by decide +kernel) (by decide +kernel) rfl rfl (vm_u (vm_okh_s (by decide +kernel)) (show vm_okn 86 1 0 0 0 1 = true by decide +kernel)) ?_
    refine vm_G.mono h ?_
    rintro _ m2 ⟨z2, rfl, h⟩
    show vm_G 63 32 [some (vm_r th), some (vm_r 1), some (vm_r o2), some (vm_i v3), some (vm_i v4), some (vm_i z1)] [vm_i z2] m2 _
    refine vm_gj (c := z2 = 0) (t := 40) (e := 35) (i := (.ifCond .eq 0, 40, 0, [])) (len := 3) (st1 := []) (by decide +kernel) rfl rfl (fun c2 => ?_) (fun c2 => ?_)
    · replace h := h.1 c2
      obtain ⟨o6_0, h⟩ := h
      refine vm_gp [(.aload 2, 0, 0, []), (.iload 5, 0, 0, []), (.iconst 97, 0, 0, []), (.isub, 0, 0, [])] (pc1 := 46) (ls1 := [some (vm_r th), some (vm_r 1), some (vm_r o2), some (vm_i v3), some (vm_i v4), some (vm_i z1)]) (st1 := [vm_i (z1 - 97), vm_r o2]) (m1 := m2) (ob := (true && decide (vm_32 (z1 - 97)))) (by decide +kernel) rfl (vm_t rfl o6_0) ?_
      refine vm_gc (g := 3) (na := 2) (av := [vm_r o2, vm_i (z1 - 97)]) (rest := []) (i := (.invokevirtual 0, 3, 2, [])) (len := 3) (by decide +kernel) rfl rfl rfl (by decide +kernel) (by decide +kernel) rfl rfl (vm_u (vm_okh_v (c := 0) (by decide +kernel) h_o2) (show vm_okn 3 2 0 0 0 2 = true by decide +kernel)) ?_
      refine vm_G.mono h ?_
      rintro _ m3 ⟨z3, rfl, h⟩
      show vm_G 63 49 [some (vm_r th), some (vm_r 1), some (vm_r o2), some (vm_i v3), some (vm_i v4), some (vm_i z1)] [vm_i z3] m3 _
      refine vm_gj (c := z3 = 0) (t := 65) (e := 52) (i := (.ifCond .eq 0, 65, 0, [])) (len := 3) (st1 := []) (by decide +kernel) rfl rfl (fun c3 => ?_) (fun c3 => ?_)
      · replace h := h.1 c3
        refine vm_gp [(.iload 4, 0, 0, [])] (pc1 := 67) (ls1 := [some (vm_r th), some (vm_r 1), some (vm_r o2), some (vm_i v3), some (vm_i v4), some (vm_i z1)]) (st1 := [vm_i v4]) (m1 := m3) (ob := true) (by decide +kernel) rfl rfl ?_
        exact vm_gr (r := some (vm_i v4)) (i := (.ireturn, 1, 0, [])) (len := 1) (by decide +kernel) rfl rfl rfl ⟨_, rfl, h⟩
      · replace h := h.2 c3
        obtain ⟨o9_0, h⟩ := h
        refine vm_gp [(.aload 0, 0, 0, []), (.iload 5, 0, 0, []), (.iconst 97, 0, 0, []), (.isub, 0, 0, []), (.iload 3, 0, 0, [])] (pc1 := 59) (ls1 := [some (vm_r th), some (vm_r 1), some (vm_r o2), some (vm_i v3), some (vm_i v4), some (vm_i z1)]) (st1 := [vm_i v3, vm_i (z1 - 97), vm_r th]) (m1 := m3) (ob := (true && decide (vm_32 (z1 - 97)))) (by decide +kernel) rfl (vm_t rfl o9_0) ?_
        refine vm_gc (g := 64) (na := 3) (av := [vm_r th, vm_i (z1 - 97), vm_i v3]) (rest := []) (i := (.invokevirtual 0, 64, 3, [])) (len := 3) (by decide +kernel) rfl rfl rfl (by decide +kernel) (by decide +kernel) rfl rfl (vm_u (vm_okh_v (c := 4) (by decide +kernel) h_th) (show vm_okn 64 3 0 0 0 3 = true by decide +kernel)) ?_
        refine vm_G.mono h ?_
        rintro _ m4 ⟨z4, rfl, h⟩
        show vm_G 63 62 [some (vm_r th), some (vm_r 1), some (vm_r o2), some (vm_i v3), some (vm_i v4), some (vm_i z1)] [vm_i z4] m4 _
        refine vm_gj (c := ¬ z4 = 0) (t := 68) (e := 65) (i := (.ifCond .ne 0, 68, 0, [])) (len := 3) (st1 := []) (by decide +kernel) rfl rfl (fun c4 => ?_) (fun c4 => ?_)
        · replace h := h.1 c4
          obtain ⟨o11_0, h⟩ := h
          refine vm_gp [(.iconst 1, 0, 0, []), (.istore 3, 0, 0, []), (.iinc 4 1, 0, 0, []), (.goto 0, 10, 0, [])] (pc1 := 10) (ls1 := [some (vm_r th), some (vm_r 1), some (vm_r o2), some (vm_i 1), some (vm_i (v4 + 1)), some (vm_i z1)]) (st1 := []) (m1 := m4) (ob := (true && decide (vm_32 (v4 + 1)))) (by decide +kernel) rfl (vm_t rfl o11_0) ?_
          exact h
        · replace h := h.2 c4
          refine vm_gp [(.iload 4, 0, 0, [])] (pc1 := 67) (ls1 := [some (vm_r th), some (vm_r 1), some (vm_r o2), some (vm_i v3), some (vm_i v4), some (vm_i z1)]) (st1 := [vm_i v4]) (m1 := m4) (ob := true) (by decide +kernel) rfl rfl ?_
          exact vm_gr (r := some (vm_i v4)) (i := (.ireturn, 1, 0, [])) (len := 1) (by decide +kernel) rfl rfl rfl ⟨_, rfl, h⟩
    · replace h := h.2 c2
      obtain ⟨o13_0, h⟩ := h
      refine vm_gp [(.iconst 0, 0, 0, []), (.istore 3, 0, 0, []), (.goto 0, 70, 0, []), (.iinc 4 1, 0, 0, []), (.goto 0, 10, 0, [])] (pc1 := 10) (ls1 := [some (vm_r th), some (vm_r 1), some (vm_r o2), some (vm_i 0), some (vm_i (v4 + 1)), some (vm_i z1)]) (st1 := []) (m1 := m2) (ob := (true && decide (vm_32 (v4 + 1)))) (by decide +kernel) rfl (vm_t rfl o13_0) ?_
      exact h
abbrev ku4_addLetter_0 (th : Nat) (v1 : Int) (v2 : Int) (m : vm_M) (Q : Int → vm_M → Prop) : Prop := vm_G 64 0 [some (vm_r th), some (vm_i v1), some (vm_i v2), none] [] m (vm_qi Q)
set_option maxRecDepth 20000 in
theorem ru4_addLetter_0 {th : Nat} {v1 : Int} {v2 : Int} {m : vm_M} {Q : Int → vm_M → Prop} (h_th : vm_is th 4 = true) (h :
    ((¬ v2 = 0 →
      ((vm_32 ((m th 6) - 1))) ∧
      ((((m th 6) - 1) < 0 →
        Q 0 m) ∧ (¬ ((m th 6) - 1) < 0 →
        ((0 ≤ ((m th 6) - 1) ∧ ((m th 6) - 1) < 30)) ∧
        (((m (th + 3) ((m th 6) - 1)) < 12 →
          ((vm_32 (((m th 6) - 1) * 12)) ∧ (0 ≤ ((m th 6) - 1) ∧ ((m th 6) - 1) < 30) ∧ (vm_32 ((((m th 6) - 1) * 12) + (m (th + 3) ((m th 6) - 1)))) ∧ (0 ≤ ((((m th 6) - 1) * 12) + (m (th + 3) ((m th 6) - 1))) ∧ ((((m th 6) - 1) * 12) + (m (th + 3) ((m th 6) - 1))) < 360) ∧ (0 ≤ ((m th 6) - 1) ∧ ((m th 6) - 1) < 30) ∧ (vm_32 (((vm_st m (th + 4) ((((m th 6) - 1) * 12) + (m (th + 3) ((m th 6) - 1))) v1) (th + 3) ((m th 6) - 1)) + 1)) ∧ (0 ≤ ((m th 6) - 1) ∧ ((m th 6) - 1) < 30)) ∧
          Q 1 (vm_st (vm_st m (th + 4) ((((m th 6) - 1) * 12) + (m (th + 3) ((m th 6) - 1))) v1) (th + 3) ((m th 6) - 1) (((vm_st m (th + 4) ((((m th 6) - 1) * 12) + (m (th + 3) ((m th 6) - 1))) v1) (th + 3) ((m th 6) - 1)) + 1))) ∧ (¬ (m (th + 3) ((m th 6) - 1)) < 12 →
          Q 0 m))))) ∧ (¬ ¬ v2 = 0 →
      (((m th 6) < 30 →
        ((0 ≤ (m th 6) ∧ (m th 6) < 30) ∧ (vm_32 (((vm_st m (th + 3) (m th 6) 0) th 6) + 1)) ∧ (vm_32 (((vm_st (vm_st m (th + 3) (m th 6) 0) th 6 (((vm_st m (th + 3) (m th 6) 0) th 6) + 1)) th 6) - 1))) ∧
        (((((vm_st (vm_st m (th + 3) (m th 6) 0) th 6 (((vm_st m (th + 3) (m th 6) 0) th 6) + 1)) th 6) - 1) < 0 →
          Q 0 (vm_st (vm_st m (th + 3) (m th 6) 0) th 6 (((vm_st m (th + 3) (m th 6) 0) th 6) + 1))) ∧ (¬ (((vm_st (vm_st m (th + 3) (m th 6) 0) th 6 (((vm_st m (th + 3) (m th 6) 0) th 6) + 1)) th 6) - 1) < 0 →
          ((0 ≤ (((vm_st (vm_st m (th + 3) (m th 6) 0) th 6 (((vm_st m (th + 3) (m th 6) 0) th 6) + 1)) th 6) - 1) ∧ (((vm_st (vm_st m (th + 3) (m th 6) 0) th 6 (((vm_st m (th + 3) (m th 6) 0) th 6) + 1)) th 6) - 1) < 30)) ∧
          ((((vm_st (vm_st m (th + 3) (m th 6) 0) th 6 (((vm_st m (th + 3) (m th 6) 0) th 6) + 1)) (th + 3) (((vm_st (vm_st m (th + 3) (m th 6) 0) th 6 (((vm_st m (th + 3) (m th 6) 0) th 6) + 1)) th 6) - 1)) < 12 →
            ((vm_32 ((((vm_st (vm_st m (th + 3) (m th 6) 0) th 6 (((vm_st m (th + 3) (m th 6) 0) th 6) + 1)) th 6) - 1) * 12)) ∧ (0 ≤ (((vm_st (vm_st m (th + 3) (m th 6) 0) th 6 (((vm_st m (th + 3) (m th 6) 0) th 6) + 1)) th 6) - 1) ∧ (((vm_st (vm_st m (th + 3) (m th 6) 0) th 6 (((vm_st m (th + 3) (m th 6) 0) th 6) + 1)) th 6) - 1) < 30) ∧ (vm_32 (((((vm_st (vm_st m (th + 3) (m th 6) 0) th 6 (((vm_st m (th + 3) (m th 6) 0) th 6) + 1)) th 6) - 1) * 12) + ((vm_st (vm_st m (th + 3) (m th 6) 0) th 6 (((vm_st m (th + 3) (m th 6) 0) th 6) + 1)) (th + 3) (((vm_st (vm_st m (th + 3) (m th 6) 0) th 6 (((vm_st m (th + 3) (m th 6) 0) th 6) + 1)) th 6) - 1)))) ∧ (0 ≤ (((((vm_st (vm_st m (th + 3) (m th 6) 0) th 6 (((vm_st m (th + 3) (m th 6) 0) th 6) + 1)) th 6) - 1) * 12) + ((vm_st (vm_st m (th + 3) (m th 6) 0) th 6 (((vm_st m (th + 3) (m th 6) 0) th 6) + 1)) (th + 3) (((vm_st (vm_st m (th + 3) (m th 6) 0) th 6 (((vm_st m (th + 3) (m th 6) 0) th 6) + 1)) th 6) - 1))) ∧ (((((vm_st (vm_st m (th + 3) (m th 6) 0) th 6 (((vm_st m (th + 3) (m th 6) 0) th 6) + 1)) th 6) - 1) * 12) + ((vm_st (vm_st m (th + 3) (m th 6) 0) th 6 (((vm_st m (th + 3) (m th 6) 0) th 6) + 1)) (th + 3) (((vm_st (vm_st m (th + 3) (m th 6) 0) th 6 (((vm_st m (th + 3) (m th 6) 0) th 6) + 1)) th 6) - 1))) < 360) ∧ (0 ≤ (((vm_st (vm_st m (th + 3) (m th 6) 0) th 6 (((vm_st m (th + 3) (m th 6) 0) th 6) + 1)) th 6) - 1) ∧ (((vm_st (vm_st m (th + 3) (m th 6) 0) th 6 (((vm_st m (th + 3) (m th 6) 0) th 6) + 1)) th 6) - 1) < 30) ∧ (vm_32 (((vm_st (vm_st (vm_st m (th + 3) (m th 6) 0) th 6 (((vm_st m (th + 3) (m th 6) 0) th 6) + 1)) (th + 4) (((((vm_st (vm_st m (th + 3) (m th 6) 0) th 6 (((vm_st m (th + 3) (m th 6) 0) th 6) + 1)) th 6) - 1) * 12) + ((vm_st (vm_st m (th + 3) (m th 6) 0) th 6 (((vm_st m (th + 3) (m th 6) 0) th 6) + 1)) (th + 3) (((vm_st (vm_st m (th + 3) (m th 6) 0) th 6 (((vm_st m (th + 3) (m th 6) 0) th 6) + 1)) th 6) - 1))) v1) (th + 3) (((vm_st (vm_st m (th + 3) (m th 6) 0) th 6 (((vm_st m (th + 3) (m th 6) 0) th 6) + 1)) th 6) - 1)) + 1)) ∧ (0 ≤ (((vm_st (vm_st m (th + 3) (m th 6) 0) th 6 (((vm_st m (th + 3) (m th 6) 0) th 6) + 1)) th 6) - 1) ∧ (((vm_st (vm_st m (th + 3) (m th 6) 0) th 6 (((vm_st m (th + 3) (m th 6) 0) th 6) + 1)) th 6) - 1) < 30)) ∧
            Q 1 (vm_st (vm_st (vm_st (vm_st m (th + 3) (m th 6) 0) th 6 (((vm_st m (th + 3) (m th 6) 0) th 6) + 1)) (th + 4) (((((vm_st (vm_st m (th + 3) (m th 6) 0) th 6 (((vm_st m (th + 3) (m th 6) 0) th 6) + 1)) th 6) - 1) * 12) + ((vm_st (vm_st m (th + 3) (m th 6) 0) th 6 (((vm_st m (th + 3) (m th 6) 0) th 6) + 1)) (th + 3) (((vm_st (vm_st m (th + 3) (m th 6) 0) th 6 (((vm_st m (th + 3) (m th 6) 0) th 6) + 1)) th 6) - 1))) v1) (th + 3) (((vm_st (vm_st m (th + 3) (m th 6) 0) th 6 (((vm_st m (th + 3) (m th 6) 0) th 6) + 1)) th 6) - 1) (((vm_st (vm_st (vm_st m (th + 3) (m th 6) 0) th 6 (((vm_st m (th + 3) (m th 6) 0) th 6) + 1)) (th + 4) (((((vm_st (vm_st m (th + 3) (m th 6) 0) th 6 (((vm_st m (th + 3) (m th 6) 0) th 6) + 1)) th 6) - 1) * 12) + ((vm_st (vm_st m (th + 3) (m th 6) 0) th 6 (((vm_st m (th + 3) (m th 6) 0) th 6) + 1)) (th + 3) (((vm_st (vm_st m (th + 3) (m th 6) 0) th 6 (((vm_st m (th + 3) (m th 6) 0) th 6) + 1)) th 6) - 1))) v1) (th + 3) (((vm_st (vm_st m (th + 3) (m th 6) 0) th 6 (((vm_st m (th + 3) (m th 6) 0) th 6) + 1)) th 6) - 1)) + 1))) ∧ (¬ ((vm_st (vm_st m (th + 3) (m th 6) 0) th 6 (((vm_st m (th + 3) (m th 6) 0) th 6) + 1)) (th + 3) (((vm_st (vm_st m (th + 3) (m th 6) 0) th 6 (((vm_st m (th + 3) (m th 6) 0) th 6) + 1)) th 6) - 1)) < 12 →
            Q 0 (vm_st (vm_st m (th + 3) (m th 6) 0) th 6 (((vm_st m (th + 3) (m th 6) 0) th 6) + 1))))))) ∧ (¬ (m th 6) < 30 →
        Q 0 m))))) : vm_C 64 [vm_r th, vm_i v1, vm_i v2] m (vm_qi Q) := by
  show vm_G 64 0 [some (vm_r th), some (vm_i v1), some (vm_i v2), none] [] m (vm_qi Q)
  refine vm_gp [(.iload 2, 0, 0, [])] (pc1 := 1) (ls1 := [some (vm_r th), some (vm_i v1), some (vm_i v2), none]) (st1 := [vm_i v2]) (m1 := m) (ob := true) (by decide +kernel) rfl rfl ?_
  refine vm_gj (c := ¬ v2 = 0) (t := 35) (e := 4) (i := (.ifCond .ne 0, 35, 0, [])) (len := 3) (st1 := []) (by decide +kernel) rfl rfl (fun c1 => ?_) (fun c1 => ?_)
  · replace h := h.1 c1
    obtain ⟨o2_0, h⟩ := h
    refine vm_gp [(.aload 0, 0, 0, []), (.getfield 0, 4, 6, []), (.iconst 1, 0, 0, []), (.isub, 0, 0, []), (.istore 3, 0, 0, []), (.iload 3, 0, 0, [])] (pc1 := 43) (ls1 := [some (vm_r th), some (vm_i v1), some (vm_i v2), some (vm_i ((m th 6) - 1))]) (st1 := [vm_i ((m th 6) - 1)]) (m1 := m) (ob := ((true && vm_is th 4) && decide (vm_32 ((m th 6) - 1)))) (by decide +kernel) rfl (vm_t (vm_u rfl h_th) o2_0) ?_
    refine vm_gj (c := ((m th 6) - 1) < 0) (t := 57) (e := 46) (i := (.ifCond .lt 0, 57, 0, [])) (len := 3) (st1 := []) (by decide +kernel) rfl rfl (fun c2 => ?_) (fun c2 => ?_)
    · replace h := h.1 c2
      refine vm_gp [(.iconst 0, 0, 0, [])] (pc1 := 58) (ls1 := [some (vm_r th), some (vm_i v1), some (vm_i v2), some (vm_i ((m th 6) - 1))]) (st1 := [vm_i 0]) (m1 := m) (ob := true) (by decide +kernel) rfl rfl ?_
      exact vm_gr (r := some (vm_i 0)) (i := (.ireturn, 2, 0, [])) (len := 1) (by decide +kernel) rfl rfl (by decide) ⟨_, rfl, h⟩
    · replace h := h.2 c2
      obtain ⟨o4_0, h⟩ := h
      refine vm_gp [(.aload 0, 0, 0, []), (.getfield 2, 4, 2, [(3, 1)]), (.iload 3, 0, 0, []), (.iaload, 30, 0, []), (.iconst 12, 0, 0, [])] (pc1 := 54) (ls1 := [some (vm_r th), some (vm_i v1), some (vm_i v2), some (vm_i ((m th 6) - 1))]) (st1 := [vm_i 12, vm_i (m (th + 3) ((m th 6) - 1))]) (m1 := m) (ob := ((((true && vm_is th 4) && true) && vm_ar (th + 3) 100 30) && decide (0 ≤ ((m th 6) - 1) ∧ ((m th 6) - 1) < 30))) (by decide +kernel) rfl (vm_t (vm_u (vm_u (vm_u rfl h_th) rfl) (vm_is_ar 3 (by decide) h_th (by decide +kernel))) o4_0) ?_
      refine vm_gj (c := (m (th + 3) ((m th 6) - 1)) < 12) (t := 59) (e := 57) (i := (.if_icmp .lt 0, 59, 0, [])) (len := 3) (st1 := []) (by decide +kernel) rfl rfl (fun c3 => ?_) (fun c3 => ?_)
      · replace h := h.1 c3
        obtain ⟨⟨o5_0, o5_1, o5_2, o5_3, o5_4, o5_5, o5_6⟩, h⟩ := h
        refine vm_gp [(.aload 0, 0, 0, []), (.getfield 2, 4, 3, [(4, 1)]), (.iload 3, 0, 0, []), (.iconst 12, 0, 0, []), (.imul, 0, 0, []), (.aload 0, 0, 0, []), (.getfield 2, 4, 2, [(3, 1)]), (.iload 3, 0, 0, []), (.iaload, 30, 0, []), (.iadd, 0, 0, []), (.iload 1, 0, 0, []), (.iastore, 360, 0, []), (.aload 0, 0, 0, []), (.getfield 2, 4, 2, [(3, 1)]), (.iload 3, 0, 0, []), (.dup2, 0, 0, []), (.iaload, 30, 0, []), (.iconst 1, 0, 0, []), (.iadd, 0, 0, []), (.iastore, 30, 0, []), (.iconst 1, 0, 0, [])] (pc1 := 87) (ls1 := [some (vm_r th), some (vm_i v1), some (vm_i v2), some (vm_i ((m th 6) - 1))]) (st1 := [vm_i 1]) (m1 := (vm_st (vm_st m (th + 4) ((((m th 6) - 1) * 12) + (m (th + 3) ((m th 6) - 1))) v1) (th + 3) ((m th 6) - 1) (((vm_st m (th + 4) ((((m th 6) - 1) * 12) + (m (th + 3) ((m th 6) - 1))) v1) (th + 3) ((m th 6) - 1)) + 1))) (ob := (((((((((((((((((true && vm_is th 4) && true) && decide (vm_32 (((m th 6) - 1) * 12))) && vm_is th 4) && true) && vm_ar (th + 3) 100 30) && decide (0 ≤ ((m th 6) - 1) ∧ ((m th 6) - 1) < 30)) && decide (vm_32 ((((m th 6) - 1) * 12) + (m (th + 3) ((m th 6) - 1))))) && vm_ar (th + 4) 100 360) && decide (0 ≤ ((((m th 6) - 1) * 12) + (m (th + 3) ((m th 6) - 1))) ∧ ((((m th 6) - 1) * 12) + (m (th + 3) ((m th 6) - 1))) < 360)) && vm_is th 4) && true) && vm_ar (th + 3) 100 30) && decide (0 ≤ ((m th 6) - 1) ∧ ((m th 6) - 1) < 30)) && decide (vm_32 (((vm_st m (th + 4) ((((m th 6) - 1) * 12) + (m (th + 3) ((m th 6) - 1))) v1) (th + 3) ((m th 6) - 1)) + 1))) && vm_ar (th + 3) 100 30) && decide (0 ≤ ((m th 6) - 1) ∧ ((m th 6) - 1) < 30))) (by decide +kernel) rfl (vm_t (vm_u (vm_t (vm_t (vm_u (vm_u (vm_u (vm_t (vm_u (vm_t (vm_t (vm_u (vm_u (vm_u (vm_t (vm_u (vm_u rfl h_th) rfl) o5_0) h_th) rfl) (vm_is_ar 3 (by decide) h_th (by decide +kernel))) o5_1) o5_2) (vm_is_ar 4 (by decide) h_th (by decide +kernel))) o5_3) h_th) rfl) (vm_is_ar 3 (by decide) h_th (by decide +kernel))) o5_4) o5_5) (vm_is_ar 3 (by decide) h_th (by decide +kernel))) o5_6) ?_
        exact vm_gr (r := some (vm_i 1)) (i := (.ireturn, 2, 0, [])) (len := 1) (by decide +kernel) rfl rfl (by decide) ⟨_, rfl, h⟩
      · replace h := h.2 c3
        refine vm_gp [(.iconst 0, 0, 0, [])] (pc1 := 58) (ls1 := [some (vm_r th), some (vm_i v1), some (vm_i v2), some (vm_i ((m th 6) - 1))]) (st1 := [vm_i 0]) (m1 := m) (ob := true) (by decide +kernel) rfl rfl ?_
        exact vm_gr (r := some (vm_i 0)) (i := (.ireturn, 2, 0, [])) (len := 1) (by decide +kernel) rfl rfl (by decide) ⟨_, rfl, h⟩
  · replace h := h.2 c1
    refine vm_gp [(.aload 0, 0, 0, []), (.getfield 0, 4, 6, []), (.iconst 30, 0, 0, [])] (pc1 := 10) (ls1 := [some (vm_r th), some (vm_i v1), some (vm_i v2), none]) (st1 := [vm_i 30, vm_i (m th 6)]) (m1 := m) (ob := (true && vm_is th 4)) (by decide +kernel) rfl (vm_u rfl h_th) ?_
    refine vm_gj (c := (m th 6) < 30) (t := 15) (e := 13) (i := (.if_icmp .lt 0, 15, 0, [])) (len := 3) (st1 := []) (by decide +kernel) rfl rfl (fun c4 => ?_) (fun c4 => ?_)
    · replace h := h.1 c4
      obtain ⟨⟨o8_0, o8_1, o8_2⟩, h⟩ := h
      refine vm_gp [(.aload 0, 0, 0, []), (.getfield 2, 4, 2, [(3, 1)]), (.aload 0, 0, 0, []), (.getfield 0, 4, 6, []), (.iconst 0, 0, 0, []), (.iastore, 30, 0, []), (.aload 0, 0, 0, []), (.dup, 0, 0, []), (.getfield 0, 4, 6, []), (.iconst 1, 0, 0, []), (.iadd, 0, 0, []), (.putfield 0, 4, 6, []), (.aload 0, 0, 0, []), (.getfield 0, 4, 6, []), (.iconst 1, 0, 0, []), (.isub, 0, 0, []), (.istore 3, 0, 0, []), (.iload 3, 0, 0, [])] (pc1 := 43) (ls1 := [some (vm_r th), some (vm_i v1), some (vm_i v2), some (vm_i (((vm_st (vm_st m (th + 3) (m th 6) 0) th 6 (((vm_st m (th + 3) (m th 6) 0) th 6) + 1)) th 6) - 1))]) (st1 := [vm_i (((vm_st (vm_st m (th + 3) (m th 6) 0) th 6 (((vm_st m (th + 3) (m th 6) 0) th 6) + 1)) th 6) - 1)]) (m1 := (vm_st (vm_st m (th + 3) (m th 6) 0) th 6 (((vm_st m (th + 3) (m th 6) 0) th 6) + 1))) (ob := ((((((((((true && vm_is th 4) && true) && vm_is th 4) && vm_ar (th + 3) 100 30) && decide (0 ≤ (m th 6) ∧ (m th 6) < 30)) && vm_is th 4) && decide (vm_32 (((vm_st m (th + 3) (m th 6) 0) th 6) + 1))) && vm_is th 4) && vm_is th 4) && decide (vm_32 (((vm_st (vm_st m (th + 3) (m th 6) 0) th 6 (((vm_st m (th + 3) (m th 6) 0) th 6) + 1)) th 6) - 1)))) (by decide +kernel) rfl (vm_t (vm_u (vm_u (vm_t (vm_u (vm_t (vm_u (vm_u (vm_u (vm_u rfl h_th) rfl) h_th) (vm_is_ar 3 (by decide) h_th (by decide +kernel))) o8_0) h_th) o8_1) h_th) h_th) o8_2) ?_
      refine vm_gj (c := (((vm_st (vm_st m (th + 3) (m th 6) 0) th 6 (((vm_st m (th + 3) (m th 6) 0) th 6) + 1)) th 6) - 1) < 0) (t := 57) (e := 46) (i := (.ifCond .lt 0, 57, 0, [])) (len := 3) (st1 := []) (by decide +kernel) rfl rfl (fun c5 => ?_) (fun c5 => ?_)
      · replace h := h.1 c5
        refine vm_gp [(.iconst 0, 0, 0, [])] (pc1 := 58) (ls1 := [some (vm_r th), some (vm_i v1), some (vm_i v2), some (vm_i (((vm_st (vm_st m (th + 3) (m th 6) 0) th 6 (((vm_st m (th + 3) (m th 6) 0) th 6) + 1)) th 6) - 1))]) (st1 := [vm_i 0]) (m1 := (vm_st (vm_st m (th + 3) (m th 6) 0) th 6 (((vm_st m (th + 3) (m th 6) 0) th 6) + 1))) (ob := true) (by decide +kernel) rfl rfl ?_
        exact vm_gr (r := some (vm_i 0)) (i := (.ireturn, 2, 0, [])) (len := 1) (by decide +kernel) rfl rfl (by decide) ⟨_, rfl, h⟩
      · replace h := h.2 c5
        obtain ⟨o10_0, h⟩ := h
        refine vm_gp [(.aload 0, 0, 0, []), (.getfield 2, 4, 2, [(3, 1)]), (.iload 3, 0, 0, []), (.iaload, 30, 0, []), (.iconst 12, 0, 0, [])] (pc1 := 54) (ls1 := [some (vm_r th), some (vm_i v1), some (vm_i v2), some (vm_i (((vm_st (vm_st m (th + 3) (m th 6) 0) th 6 (((vm_st m (th + 3) (m th 6) 0) th 6) + 1)) th 6) - 1))]) (st1 := [vm_i 12, vm_i ((vm_st (vm_st m (th + 3) (m th 6) 0) th 6 (((vm_st m (th + 3) (m th 6) 0) th 6) + 1)) (th + 3) (((vm_st (vm_st m (th + 3) (m th 6) 0) th 6 (((vm_st m (th + 3) (m th 6) 0) th 6) + 1)) th 6) - 1))]) (m1 := (vm_st (vm_st m (th + 3) (m th 6) 0) th 6 (((vm_st m (th + 3) (m th 6) 0) th 6) + 1))) (ob := ((((true && vm_is th 4) && true) && vm_ar (th + 3) 100 30) && decide (0 ≤ (((vm_st (vm_st m (th + 3) (m th 6) 0) th 6 (((vm_st m (th + 3) (m th 6) 0) th 6) + 1)) th 6) - 1) ∧ (((vm_st (vm_st m (th + 3) (m th 6) 0) th 6 (((vm_st m (th + 3) (m th 6) 0) th 6) + 1)) th 6) - 1) < 30))) (by decide +kernel) rfl (vm_t (vm_u (vm_u (vm_u rfl h_th) rfl) (vm_is_ar 3 (by decide) h_th (by decide +kernel))) o10_0) ?_
        refine vm_gj (c := ((vm_st (vm_st m (th + 3) (m th 6) 0) th 6 (((vm_st m (th + 3) (m th 6) 0) th 6) + 1)) (th + 3) (((vm_st (vm_st m (th + 3) (m th 6) 0) th 6 (((vm_st m (th + 3) (m th 6) 0) th 6) + 1)) th 6) - 1)) < 12) (t := 59) (e := 57) (i := (.if_icmp .lt 0, 59, 0, [])) (len := 3) (st1 := []) (by decide +kernel) rfl rfl (fun c6 => ?_) (fun c6 => ?_)
        · replace h := h.1 c6
          obtain ⟨⟨o11_0, o11_1, o11_2, o11_3, o11_4, o11_5, o11_6⟩, h⟩ := h
          refine vm_gp [(.aload 0, 0, 0, []), (.getfield 2, 4, 3, [(4, 1)]), (.iload 3, 0, 0, []), (.iconst 12, 0, 0, []), (.imul, 0, 0, []), (.aload 0, 0, 0, []), (.getfield 2, 4, 2, [(3, 1)]), (.iload 3, 0, 0, []), (.iaload, 30, 0, []), (.iadd, 0, 0, []), (.iload 1, 0, 0, []), (.iastore, 360, 0, []), (.aload 0, 0, 0, []), (.getfield 2, 4, 2, [(3, 1)]), (.iload 3, 0, 0, []), (.dup2, 0, 0, []), (.iaload, 30, 0, []), (.iconst 1, 0, 0, []), (.iadd, 0, 0, []), (.iastore, 30, 0, []), (.iconst 1, 0, 0, [])] (pc1 := 87) (ls1 := [some (vm_r th), some (vm_i v1), some (vm_i v2), some (vm_i (((vm_st (vm_st m (th + 3) (m th 6) 0) th 6 (((vm_st m (th + 3) (m th 6) 0) th 6) + 1)) th 6) - 1))]) (st1 := [vm_i 1]) (m1 := (vm_st (vm_st (vm_st (vm_st m (th + 3) (m th 6) 0) th 6 (((vm_st m (th + 3) (m th 6) 0) th 6) + 1)) (th + 4) (((((vm_st (vm_st m (th + 3) (m th 6) 0) th 6 (((vm_st m (th + 3) (m th 6) 0) th 6) + 1)) th 6) - 1) * 12) + ((vm_st (vm_st m (th + 3) (m th 6) 0) th 6 (((vm_st m (th + 3) (m th 6) 0) th 6) + 1)) (th + 3) (((vm_st (vm_st m (th + 3) (m th 6) 0) th 6 (((vm_st m (th + 3) (m th 6) 0) th 6) + 1)) th 6) - 1))) v1) (th + 3) (((vm_st (vm_st m (th + 3) (m th 6) 0) th 6 (((vm_st m (th + 3) (m th 6) 0) th 6) + 1)) th 6) - 1) (((vm_st (vm_st (vm_st m (th + 3) (m th 6) 0) th 6 (((vm_st m (th + 3) (m th 6) 0) th 6) + 1)) (th + 4) (((((vm_st (vm_st m (th + 3) (m th 6) 0) th 6 (((vm_st m (th + 3) (m th 6) 0) th 6) + 1)) th 6) - 1) * 12) + ((vm_st (vm_st m (th + 3) (m th 6) 0) th 6 (((vm_st m (th + 3) (m th 6) 0) th 6) + 1)) (th + 3) (((vm_st (vm_st m (th + 3) (m th 6) 0) th 6 (((vm_st m (th + 3) (m th 6) 0) th 6) + 1)) th 6) - 1))) v1) (th + 3) (((vm_st (vm_st m (th + 3) (m th 6) 0) th 6 (((vm_st m (th + 3) (m th 6) 0) th 6) + 1)) th 6) - 1)) + 1))) (ob := (((((((((((((((((true && vm_is th 4) && true) && decide (vm_32 ((((vm_st (vm_st m (th + 3) (m th 6) 0) th 6 (((vm_st m (th + 3) (m th 6) 0) th 6) + 1)) th 6) - 1) * 12))) && vm_is th 4) && true) && vm_ar (th + 3) 100 30) && decide (0 ≤ (((vm_st (vm_st m (th + 3) (m th 6) 0) th 6 (((vm_st m (th + 3) (m th 6) 0) th 6) + 1)) th 6) - 1) ∧ (((vm_st (vm_st m (th + 3) (m th 6) 0) th 6 (((vm_st m (th + 3) (m th 6) 0) th 6) + 1)) th 6) - 1) < 30)) && decide (vm_32 (((((vm_st (vm_st m (th + 3) (m th 6) 0) th 6 (((vm_st m (th + 3) (m th 6) 0) th 6) + 1)) th 6) - 1) * 12) + ((vm_st (vm_st m (th + 3) (m th 6) 0) th 6 (((vm_st m (th + 3) (m th 6) 0) th 6) + 1)) (th + 3) (((vm_st (vm_st m (th + 3) (m th 6) 0) th 6 (((vm_st m (th + 3) (m th 6) 0) th 6) + 1)) th 6) - 1))))) && vm_ar (th + 4) 100 360) && decide (0 ≤ (((((vm_st (vm_st m (th + 3) (m th 6) 0) th 6 (((vm_st m (th + 3) (m th 6) 0) th 6) + 1)) th 6) - 1) * 12) + ((vm_st (vm_st m (th + 3) (m th 6) 0) th 6 (((vm_st m (th + 3) (m th 6) 0) th 6) + 1)) (th + 3) (((vm_st (vm_st m (th + 3) (m th 6) 0) th 6 (((vm_st m (th + 3) (m th 6) 0) th 6) + 1)) th 6) - 1))) ∧ (((((vm_st (vm_st m (th + 3) (m th 6) 0) th 6 (((vm_st m (th + 3) (m th 6) 0) th 6) + 1)) th 6) - 1) * 12) + ((vm_st (vm_st m (th + 3) (m th 6) 0) th 6 (((vm_st m (th + 3) (m th 6) 0) th 6) + 1)) (th + 3) (((vm_st (vm_st m (th + 3) (m th 6) 0) th 6 (((vm_st m (th + 3) (m th 6) 0) th 6) + 1)) th 6) - 1))) < 360)) && vm_is th 4) && true) && vm_ar (th + 3) 100 30) && decide (0 ≤ (((vm_st (vm_st m (th + 3) (m th 6) 0) th 6 (((vm_st m (th + 3) (m th 6) 0) th 6) + 1)) th 6) - 1) ∧ (((vm_st (vm_st m (th + 3) (m th 6) 0) th 6 (((vm_st m (th + 3) (m th 6) 0) th 6) + 1)) th 6) - 1) < 30)) && decide (vm_32 (((vm_st (vm_st (vm_st m (th + 3) (m th 6) 0) th 6 (((vm_st m (th + 3) (m th 6) 0) th 6) + 1)) (th + 4) (((((vm_st (vm_st m (th + 3) (m th 6) 0) th 6 (((vm_st m (th + 3) (m th 6) 0) th 6) + 1)) th 6) - 1) * 12) + ((vm_st (vm_st m (th + 3) (m th 6) 0) th 6 (((vm_st m (th + 3) (m th 6) 0) th 6) + 1)) (th + 3) (((vm_st (vm_st m (th + 3) (m th 6) 0) th 6 (((vm_st m (th + 3) (m th 6) 0) th 6) + 1)) th 6) - 1))) v1) (th + 3) (((vm_st (vm_st m (th + 3) (m th 6) 0) th 6 (((vm_st m (th + 3) (m th 6) 0) th 6) + 1)) th 6) - 1)) + 1))) && vm_ar (th + 3) 100 30) && decide (0 ≤ (((vm_st (vm_st m (th + 3) (m th 6) 0) th 6 (((vm_st m (th + 3) (m th 6) 0) th 6) + 1)) th 6) - 1) ∧ (((vm_st (vm_st m (th + 3) (m th 6) 0) th 6 (((vm_st m (th + 3) (m th 6) 0) th 6) + 1)) th 6) - 1) < 30))) (by decide +kernel) rfl (vm_t (vm_u (vm_t (vm_t (vm_u (vm_u (vm_u (vm_t (vm_u (vm_t (vm_t (vm_u (vm_u (vm_u (vm_t (vm_u (vm_u rfl h_th) rfl) o11_0) h_th) rfl) (vm_is_ar 3 (by decide) h_th (by decide +kernel))) o11_1) o11_2) (vm_is_ar 4 (by decide) h_th (by decide +kernel))) o11_3) h_th) rfl) (vm_is_ar 3 (by decide) h_th (by decide +kernel))) o11_4) o11_5) (vm_is_ar 3 (by decide) h_th (by decide +kernel))) o11_6) ?_
          exact vm_gr (r := some (vm_i 1)) (i := (.ireturn, 2, 0, [])) (len := 1) (by decide +kernel) rfl rfl (by decide) ⟨_, rfl, h⟩
        · replace h := h.2 c6
          refine vm_gp [(.iconst 0, 0, 0, [])] (pc1 := 58) (ls1 := [some (vm_r th), some (vm_i v1), some (vm_i v2), some (vm_i (((vm_st (vm_st m (th + 3) (m th 6) 0) th 6 (((vm_st m (th + 3) (m th 6) 0) th 6) + 1)) th 6) - 1))]) (st1 := [vm_i 0]) (m1 := (vm_st (vm_st m (th + 3) (m th 6) 0) th 6 (((vm_st m (th + 3) (m th 6) 0) th 6) + 1))) (ob := true) (by decide +kernel) rfl rfl ?_
          exact vm_gr (r := some (vm_i 0)) (i := (.ireturn, 2, 0, [])) (len := 1) (by decide +kernel) rfl rfl (by decide) ⟨_, rfl, h⟩
    · replace h := h.2 c4
      refine vm_gp [(.iconst 0, 0, 0, [])] (pc1 := 14) (ls1 := [some (vm_r th), some (vm_i v1), some (vm_i v2), none]) (st1 := [vm_i 0]) (m1 := m) (ob := true) (by decide +kernel) rfl rfl ?_
      exact vm_gr (r := some (vm_i 0)) (i := (.ireturn, 2, 0, [])) (len := 1) (by decide +kernel) rfl rfl (by decide) ⟨_, rfl, h⟩
abbrev ku5_stoppedAt_0  (m : vm_M) (Q : Int → vm_M → Prop) : Prop := vm_G 66 0 [some (vm_r 19)] [] m (vm_qi Q)
set_option maxRecDepth 20000 in
theorem ru5_stoppedAt_0  {m : vm_M} {Q : Int → vm_M → Prop}  (h :
    Q (m 20 2) m) : vm_C 66 [vm_r 19] m (vm_qi Q) := by
  show vm_G 66 0 [some (vm_r 19)] [] m (vm_qi Q)
  refine vm_gp [(.aload 0, 0, 0, []), (.getfield 2, 5, 0, [(20, 0)]), (.getfield 0, 8, 2, [])] (pc1 := 7) (ls1 := [some (vm_r 19)]) (st1 := [vm_i (m 20 2)]) (m1 := m) (ob := (((true && vm_is 19 5) && true) && vm_is 20 8)) (by decide +kernel) rfl (vm_u (vm_u (vm_u rfl (by decide +kernel)) rfl) (by decide +kernel)) ?_
  exact vm_gr (r := some (vm_i (m 20 2))) (i := (.ireturn, 1, 0, [])) (len := 1) (by decide +kernel) rfl rfl rfl ⟨_, rfl, h⟩
abbrev ku5_read_0  (m : vm_M) (Q : Int → vm_M → Prop) : Prop := vm_G 67 0 [some (vm_r 19), none] [] m (vm_qi Q)
abbrev ku5_read_39 (v1 : Int) (m : vm_M) (Q : Int → vm_M → Prop) : Prop := vm_G 67 39 [some (vm_r 19), some (vm_i v1)] [] m (vm_qi Q)
abbrev ku5_read_74 (v1 : Int) (m : vm_M) (Q : Int → vm_M → Prop) : Prop := vm_G 67 74 [some (vm_r 19), some (vm_i v1)] [] m (vm_qi Q)
set_option maxRecDepth 20000 in
theorem ru5_read_0  {m : vm_M} {Q : Int → vm_M → Prop}  (h :
    (vm_C 2 [vm_r 6] m (vm_qv (fun m1 =>
      (vm_C 55 [vm_r 14] m1 (vm_qv (fun m2 =>
        (vm_C 88 [vm_r 20] m2 (vm_qv (fun m3 =>
          (vm_C 68 [vm_r 19] m3 (vm_qi (fun z4 m4 =>
            ((z4 = 0 →
              Q 0 m4) ∧ (¬ z4 = 0 →
              (vm_C 71 [vm_r 19] m4 (vm_qi (fun z5 m5 =>
                ((¬ z5 = 0 →
                  ku5_read_39 0 m5 Q) ∧ (¬ ¬ z5 = 0 →
                  Q 0 m5)))))))))))))))))))) : vm_C 67 [vm_r 19] m (vm_qi Q) := by
  show vm_G 67 0 [some (vm_r 19), none] [] m (vm_qi Q)
  refine vm_gp [(.aload 0, 0, 0, []), (.getfield 2, 5, 2, [(6, 0)])] (pc1 := 4) (ls1 := [some (vm_r 19), none]) (st1 := [vm_r 6]) (m1 := m) (ob := ((true && vm_is 19 5) && true)) (by decide +kernel) rfl (vm_u (vm_u rfl (by decide +kernel)) rfl) ?_
  refine vm_gc (g := 2) (na := 1) (av := [vm_r 6]) (rest := []) (i := (.invokevirtual 0, 2, 1, [])) (len := 3) (by decide +kernel) rfl rfl rfl (by decide +kernel) (by decide +kernel) rfl rfl (vm_u (vm_okh_v (c := 0) (by decide +kernel) (by decide +kernel)) (show vm_okn 2 1 0 0 0 1 = true by decide +kernel)) ?_
  refine vm_G.mono h ?_
  rintro _ m1 ⟨rfl, h⟩
  show vm_G 67 7 [some (vm_r 19), none] [] m1 _
  refine vm_gp [(.aload 0, 0, 0, []), (.getfield 2, 5, 3, [(14, 0)])] (pc1 := 11) (ls1 := [some (vm_r 19), none]) (st1 := [vm_r 14]) (m1 := m1) (ob := ((true && vm_is 19 5) && true)) (by decide +kernel) rfl (vm_u (vm_u rfl (by decide +kernel)) rfl) ?_
  refine vm_gc (g := 55) (na := 1) (av := [vm_r 14]) (rest := []) (i := (.invokevirtual 0, 55, 1, [])) (len := 3) (by decide +kernel) rfl rfl rfl (by decide +kernel) (by decide +kernel) rfl rfl (vm_u (vm_okh_v (c := 4) (by decide +kernel) (by decide +kernel)) (show vm_okn 55 1 0 0 0 1 = true by decide +kernel)) ?_
  refine vm_G.mono h ?_
  rintro _ m2 ⟨rfl, h⟩
  show vm_G 67 14 [some (vm_r 19), none] [] m2 _
  refine vm_gp [(.aload 0, 0, 0, []), (.getfield 2, 5, 0, [(20, 0)])] (pc1 := 18) (ls1 := [some (vm_r 19), none]) (st1 := [vm_r 20]) (m1 := m2) (ob := ((true && vm_is 19 5) && true)) (by decide +kernel) rfl (vm_u (vm_u rfl (by decide +kernel)) rfl) ?_
  refine vm_gc (g := 88) (na := 1) (av := [vm_r 20]) (rest := []) (i := (.invokevirtual 0, 88, 1, [])) (len := 3) (by decide +kernel) rfl rfl rfl (by decide +kernel) (by decide +kernel) rfl rfl (vm_u (vm_okh_v (c := 8) (by decide +kernel) (by decide +kernel)) (show vm_okn 88 1 0 0 0 1 = true by decide +kernel)) ?_
  refine vm_G.mono h ?_
  rintro _ m3 ⟨rfl, h⟩
  show vm_G 67 21 [some (vm_r 19), none] [] m3 _
  refine vm_gp [(.aload 0, 0, 0, [])] (pc1 := 22) (ls1 := [some (vm_r 19), none]) (st1 := [vm_r 19]) (m1 := m3) (ob := true) (by decide +kernel) rfl rfl ?_
  refine vm_gc (g := 68) (na := 1) (av := [vm_r 19]) (rest := []) (i := (.invokevirtual 0, 68, 1, [])) (len := 3) (by decide +kernel) rfl rfl rfl (by decide +kernel) (by decide +kernel) rfl rfl (vm_u (vm_okh_v (c := 5) (by decide +kernel) (by decide +kernel)) (show vm_okn 68 1 0 0 0 1 = true by decide +kernel)) ?_
  refine vm_G.mono h ?_
  rintro _ m4 ⟨z4, rfl, h⟩
  show vm_G 67 25 [some (vm_r 19), none] [vm_i z4] m4 _
  refine vm_gj (c := z4 = 0) (t := 35) (e := 28) (i := (.ifCond .eq 0, 35, 0, [])) (len := 3) (st1 := []) (by decide +kernel) rfl rfl (fun c1 => ?_) (fun c1 => ?_)
  · replace h := h.1 c1
    refine vm_gp [(.iconst 0, 0, 0, [])] (pc1 := 36) (ls1 := [some (vm_r 19), none]) (st1 := [vm_i 0]) (m1 := m4) (ob := true) (by decide +kernel) rfl rfl ?_
    exact vm_gr (r := some (vm_i 0)) (i := (.ireturn, 2, 0, [])) (len := 1) (by decide +kernel) rfl rfl (by decide) ⟨_, rfl, h⟩
  · replace h := h.2 c1
    refine vm_gp [(.aload 0, 0, 0, [])] (pc1 := 29) (ls1 := [some (vm_r 19), none]) (st1 := [vm_r 19]) (m1 := m4) (ob := true) (by decide +kernel) rfl rfl ?_
    refine vm_gc (g := 71) (na := 1) (av := [vm_r 19]) (rest := []) (i := (.invokevirtual 0, 71, 1, [])) (len := 3) (by decide +kernel) rfl rfl rfl (by decide +kernel) (by decide +kernel) rfl rfl (vm_u (vm_okh_v (c := 5) (by decide +kernel) (by decide +kernel)) (show vm_okn 71 1 0 0 0 1 = true by decide +kernel)) ?_
    refine vm_G.mono h ?_
    rintro _ m5 ⟨z5, rfl, h⟩
    show vm_G 67 32 [some (vm_r 19), none] [vm_i z5] m5 _
    refine vm_gj (c := ¬ z5 = 0) (t := 37) (e := 35) (i := (.ifCond .ne 0, 37, 0, [])) (len := 3) (st1 := []) (by decide +kernel) rfl rfl (fun c2 => ?_) (fun c2 => ?_)
    · replace h := h.1 c2
      refine vm_gp [(.iconst 0, 0, 0, []), (.istore 1, 0, 0, [])] (pc1 := 39) (ls1 := [some (vm_r 19), some (vm_i 0)]) (st1 := []) (m1 := m5) (ob := true) (by decide +kernel) rfl rfl ?_
      exact h
    · replace h := h.2 c2
      refine vm_gp [(.iconst 0, 0, 0, [])] (pc1 := 36) (ls1 := [some (vm_r 19), none]) (st1 := [vm_i 0]) (m1 := m5) (ob := true) (by decide +kernel) rfl rfl ?_
      exact vm_gr (r := some (vm_i 0)) (i := (.ireturn, 2, 0, [])) (len := 1) (by decide +kernel) rfl rfl (by decide) ⟨_, rfl, h⟩
set_option maxRecDepth 20000 in
theorem ru5_read_39 {v1 : Int} {m : vm_M} {Q : Int → vm_M → Prop}  (h :
    ((26 ≤ v1 →
      ku5_read_74 0 m Q) ∧ (¬ 26 ≤ v1 →
      (vm_C 90 [vm_r 20, vm_r (1000 + 0)] m (vm_qi (fun z1 m1 =>
        ((z1 = 0 →
          ku5_read_74 0 m1 Q) ∧ (¬ z1 = 0 →
          (vm_C 71 [vm_r 19] m1 (vm_qi (fun z2 m2 =>
            ((¬ z2 = 0 →
              ((vm_32 (v1 + 1))) ∧
              ku5_read_39 (v1 + 1) m2 Q) ∧ (¬ ¬ z2 = 0 →
              Q 0 m2))))))))))))) : ku5_read_39 v1 m Q := by
  show vm_G 67 39 [some (vm_r 19), some (vm_i v1)] [] m (vm_qi Q)
  refine vm_gp [(.iload 1, 0, 0, []), (.iconst 26, 0, 0, [])] (pc1 := 42) (ls1 := [some (vm_r 19), some (vm_i v1)]) (st1 := [vm_i 26, vm_i v1]) (m1 := m) (ob := true) (by decide +kernel) rfl rfl ?_
  refine vm_gj (c := 26 ≤ v1) (t := 72) (e := 45) (i := (.if_icmp .ge 0, 72, 0, [])) (len := 3) (st1 := []) (by decide +kernel) rfl rfl (fun c1 => ?_) (fun c1 => ?_)
  · replace h := h.1 c1
    refine vm_gp [(.iconst 0, 0, 0, []), (.istore 1, 0, 0, [])] (pc1 := 74) (ls1 := [some (vm_r 19), some (vm_i 0)]) (st1 := []) (m1 := m) (ob := true) (by decide +kernel) rfl rfl ?_
    exact h
  · replace h := h.2 c1
    refine vm_gp [(.aload 0, 0, 0, []), (.getfield 2, 5, 0, [(20, 0)]), (.ldc 0, 0, 0, [])] (pc1 := 51) (ls1 := [some (vm_r 19), some (vm_i v1)]) (st1 := [vm_r (1000 + 0), vm_r 20]) (m1 := m) (ob := ((true && vm_is 19 5) && true)) (by decide +kernel) rfl (vm_u (vm_u rfl (by decide +kernel)) rfl) ?_
    refine vm_gc (g := 90) (na := 2) (av := [vm_r 20, vm_r (1000 + 0)]) (rest := []) (i := (.invokevirtual 0, 90, 2, [])) (len := 3) (by decide +kernel) rfl rfl rfl (by decide +kernel) (by decide +kernel) rfl rfl (vm_u (vm_okh_v (c := 8) (by decide +kernel) (by decide +kernel)) (show vm_okn 90 2 0 0 0 2 = true by decide +kernel)) ?_
    refine vm_G.mono h ?_
    rintro _ m1 ⟨z1, rfl, h⟩
    show vm_G 67 54 [some (vm_r 19), some (vm_i v1)] [vm_i z1] m1 _
    refine vm_gj (c := z1 = 0) (t := 72) (e := 57) (i := (.ifCond .eq 0, 72, 0, [])) (len := 3) (st1 := []) (by decide +kernel) rfl rfl (fun c2 => ?_) (fun c2 => ?_)
    · replace h := h.1 c2
      refine vm_gp [(.iconst 0, 0, 0, []), (.istore 1, 0, 0, [])] (pc1 := 74) (ls1 := [some (vm_r 19), some (vm_i 0)]) (st1 := []) (m1 := m1) (ob := true) (by decide +kernel) rfl rfl ?_
      exact h
    · replace h := h.2 c2
      refine vm_gp [(.aload 0, 0, 0, [])] (pc1 := 58) (ls1 := [some (vm_r 19), some (vm_i v1)]) (st1 := [vm_r 19]) (m1 := m1) (ob := true) (by decide +kernel) rfl rfl ?_
      refine vm_gc (g := 71) (na := 1) (av := [vm_r 19]) (rest := []) (i := (.invokevirtual 0, 71, 1, [])) (len := 3) (by decide +kernel) rfl rfl rfl (by decide +kernel) (by decide +kernel) rfl rfl (vm_u (vm_okh_v (c := 5) (by decide +kernel) (by decide +kernel)) (show vm_okn 71 1 0 0 0 1 = true by decide +kernel)) ?_
      refine vm_G.mono h ?_
      rintro _ m2 ⟨z2, rfl, h⟩
      show vm_G 67 61 [some (vm_r 19), some (vm_i v1)] [vm_i z2] m2 _
      refine vm_gj (c := ¬ z2 = 0) (t := 66) (e := 64) (i := (.ifCond .ne 0, 66, 0, [])) (len := 3) (st1 := []) (by decide +kernel) rfl rfl (fun c3 => ?_) (fun c3 => ?_)
      · replace h := h.1 c3
        obtain ⟨o8_0, h⟩ := h
        refine vm_gp [(.iinc 1 1, 0, 0, []), (.goto 0, 39, 0, [])] (pc1 := 39) (ls1 := [some (vm_r 19), some (vm_i (v1 + 1))]) (st1 := []) (m1 := m2) (ob := (true && decide (vm_32 (v1 + 1)))) (by decide +kernel) rfl (vm_t rfl o8_0) ?_
        exact h
      · replace h := h.2 c3
        refine vm_gp [(.iconst 0, 0, 0, [])] (pc1 := 65) (ls1 := [some (vm_r 19), some (vm_i v1)]) (st1 := [vm_i 0]) (m1 := m2) (ob := true) (by decide +kernel) rfl rfl ?_
        exact vm_gr (r := some (vm_i 0)) (i := (.ireturn, 2, 0, [])) (len := 1) (by decide +kernel) rfl rfl (by decide) ⟨_, rfl, h⟩
set_option maxRecDepth 20000 in
theorem ru5_read_74 {v1 : Int} {m : vm_M} {Q : Int → vm_M → Prop}  (h :
    (((m 1 1) ≤ v1 →
      Q 1 m) ∧ (¬ (m 1 1) ≤ v1 →
      (((m 20 1) = 0 →
        Q 1 m) ∧ (¬ (m 20 1) = 0 →
        (vm_C 73 [vm_r 19] m (vm_qi (fun z1 m1 =>
          ((¬ z1 = 0 →
            ((vm_32 (v1 + 1))) ∧
            ku5_read_74 (v1 + 1) m1 Q) ∧ (¬ ¬ z1 = 0 →
            Q 0 m1)))))))))) : ku5_read_74 v1 m Q := by
  show vm_G 67 74 [some (vm_r 19), some (vm_i v1)] [] m (vm_qi Q)
  refine vm_gp [(.iload 1, 0, 0, []), (.aload 0, 0, 0, []), (.getfield 2, 5, 1, [(1, 0)]), (.getfield 0, 7, 1, [])] (pc1 := 82) (ls1 := [some (vm_r 19), some (vm_i v1)]) (st1 := [vm_i (m 1 1), vm_i v1]) (m1 := m) (ob := (((true && vm_is 19 5) && true) && vm_is 1 7)) (by decide +kernel) rfl (vm_u (vm_u (vm_u rfl (by decide +kernel)) rfl) (by decide +kernel)) ?_
  refine vm_gj (c := (m 1 1) ≤ v1) (t := 110) (e := 85) (i := (.if_icmp .ge 0, 110, 0, [])) (len := 3) (st1 := []) (by decide +kernel) rfl rfl (fun c1 => ?_) (fun c1 => ?_)
  · replace h := h.1 c1
    refine vm_gp [(.iconst 1, 0, 0, [])] (pc1 := 111) (ls1 := [some (vm_r 19), some (vm_i v1)]) (st1 := [vm_i 1]) (m1 := m) (ob := true) (by decide +kernel) rfl rfl ?_
    exact vm_gr (r := some (vm_i 1)) (i := (.ireturn, 2, 0, [])) (len := 1) (by decide +kernel) rfl rfl (by decide) ⟨_, rfl, h⟩
  · replace h := h.2 c1
    refine vm_gp [(.aload 0, 0, 0, []), (.getfield 2, 5, 0, [(20, 0)]), (.getfield 0, 8, 1, [])] (pc1 := 92) (ls1 := [some (vm_r 19), some (vm_i v1)]) (st1 := [vm_i (m 20 1)]) (m1 := m) (ob := (((true && vm_is 19 5) && true) && vm_is 20 8)) (by decide +kernel) rfl (vm_u (vm_u (vm_u rfl (by decide +kernel)) rfl) (by decide +kernel)) ?_
    refine vm_gj (c := (m 20 1) = 0) (t := 110) (e := 95) (i := (.ifCond .eq 0, 110, 0, [])) (len := 3) (st1 := []) (by decide +kernel) rfl rfl (fun c2 => ?_) (fun c2 => ?_)
    · replace h := h.1 c2
      refine vm_gp [(.iconst 1, 0, 0, [])] (pc1 := 111) (ls1 := [some (vm_r 19), some (vm_i v1)]) (st1 := [vm_i 1]) (m1 := m) (ob := true) (by decide +kernel) rfl rfl ?_
      exact vm_gr (r := some (vm_i 1)) (i := (.ireturn, 2, 0, [])) (len := 1) (by decide +kernel) rfl rfl (by decide) ⟨_, rfl, h⟩
    · replace h := h.2 c2
      refine vm_gp [(.aload 0, 0, 0, [])] (pc1 := 96) (ls1 := [some (vm_r 19), some (vm_i v1)]) (st1 := [vm_r 19]) (m1 := m) (ob := true) (by decide +kernel) rfl rfl ?_
      refine vm_gc (g := 73) (na := 1) (av := [vm_r 19]) (rest := []) (i := (.invokevirtual 0, 73, 1, [])) (len := 3) (by decide +kernel) rfl rfl rfl (by decide +kernel) (by decide +kernel) rfl rfl (vm_u (vm_okh_v (c := 5) (by decide +kernel) (by decide +kernel)) (show vm_okn 73 1 0 0 0 1 = true by decide +kernel)) ?_
      refine vm_G.mono h ?_
      rintro _ m1 ⟨z1, rfl, h⟩
      show vm_G 67 99 [some (vm_r 19), some (vm_i v1)] [vm_i z1] m1 _
      refine vm_gj (c := ¬ z1 = 0) (t := 104) (e := 102) (i := (.ifCond .ne 0, 104, 0, [])) (len := 3) (st1 := []) (by decide +kernel) rfl rfl (fun c3 => ?_) (fun c3 => ?_)
      · replace h := h.1 c3
        obtain ⟨o7_0, h⟩ := h
        refine vm_gp [(.iinc 1 1, 0, 0, []), (.goto 0, 74, 0, [])] (pc1 := 74) (ls1 := [some (vm_r 19), some (vm_i (v1 + 1))]) (st1 := []) (m1 := m1) (ob := (true && decide (vm_32 (v1 + 1)))) (by decide +kernel) rfl (vm_t rfl o7_0) ?_
        exact h
      · replace h := h.2 c3
        refine vm_gp [(.iconst 0, 0, 0, [])] (pc1 := 103) (ls1 := [some (vm_r 19), some (vm_i v1)]) (st1 := [vm_i 0]) (m1 := m1) (ob := true) (by decide +kernel) rfl rfl ?_
        exact vm_gr (r := some (vm_i 0)) (i := (.ireturn, 2, 0, [])) (len := 1) (by decide +kernel) rfl rfl (by decide) ⟨_, rfl, h⟩
abbrev ku5_readBoard_0  (m : vm_M) (Q : Int → vm_M → Prop) : Prop := vm_G 68 0 [some (vm_r 19)] [] m (vm_qi Q)
set_option maxRecDepth 20000 in
theorem ru5_readBoard_0  {m : vm_M} {Q : Int → vm_M → Prop}  (h :
    (vm_C 74 [vm_r 19, vm_r (1000 + 1)] m (vm_qi (fun z1 m1 =>
      ((z1 = 0 →
        Q 0 m1) ∧ (¬ z1 = 0 →
        (vm_C 69 [vm_r 19, vm_i 0] m1 (vm_qi (fun z2 m2 =>
          ((z2 = 0 →
            Q 0 m2) ∧ (¬ z2 = 0 →
            (vm_C 69 [vm_r 19, vm_i 1] m2 (vm_qi (fun z3 m3 =>
              ((z3 = 0 →
                Q 0 m3) ∧ (¬ z3 = 0 →
                (vm_C 74 [vm_r 19, vm_r (1000 + 2)] m3 (vm_qi (fun z4 m4 =>
                  ((z4 = 0 →
                    Q 0 m4) ∧ (¬ z4 = 0 →
                    (vm_C 69 [vm_r 19, vm_i 2] m4 (vm_qi (fun z5 m5 =>
                      ((z5 = 0 →
                        Q 0 m5) ∧ (¬ z5 = 0 →
                        (vm_C 74 [vm_r 19, vm_r (1000 + 3)] m5 (vm_qi (fun z6 m6 =>
                          ((z6 = 0 →
                            Q 0 m6) ∧ (¬ z6 = 0 →
                            (vm_C 70 [vm_r 19] m6 (vm_qi (fun z7 m7 =>
                              ((z7 = 0 →
                                Q 0 m7) ∧ (¬ z7 = 0 →
                                (vm_C 74 [vm_r 19, vm_r (1000 + 4)] m7 (vm_qi (fun z8 m8 =>
                                  ((z8 = 0 →
                                    Q 0 m8) ∧ (¬ z8 = 0 →
                                    (vm_C 69 [vm_r 19, vm_i 3] m8 (vm_qi (fun z9 m9 =>
                                      ((z9 = 0 →
                                        Q 0 m9) ∧ (¬ z9 = 0 →
                                        (vm_C 74 [vm_r 19, vm_r (1000 + 5)] m9 (vm_qi (fun z10 m10 =>
                                          ((z10 = 0 →
                                            Q 0 m10) ∧ (¬ z10 = 0 →
                                            (vm_C 69 [vm_r 19, vm_i 4] m10 (vm_qi (fun z11 m11 =>
                                              ((z11 = 0 →
                                                Q 0 m11) ∧ (¬ z11 = 0 →
                                                (vm_C 74 [vm_r 19, vm_r (1000 + 6)] m11 (vm_qi (fun z12 m12 =>
                                                  ((z12 = 0 →
                                                    Q 0 m12) ∧ (¬ z12 = 0 →
                                                    (vm_C 69 [vm_r 19, vm_i 5] m12 (vm_qi (fun z13 m13 =>
                                                      ((z13 = 0 →
                                                        Q 0 m13) ∧ (¬ z13 = 0 →
                                                        (vm_C 76 [vm_r 19] m13 (vm_qi (fun z14 m14 =>
                                                          ((z14 = 0 →
                                                            Q 0 m14) ∧ (¬ z14 = 0 →
                                                            Q 1 m14))))))))))))))))))))))))))))))))))))))))))))))))))))))))))))))))))))))) : vm_C 68 [vm_r 19] m (vm_qi Q) := by
  show vm_G 68 0 [some (vm_r 19)] [] m (vm_qi Q)
  refine vm_gp [(.aload 0, 0, 0, []), (.ldc 0, 1, 0, [])] (pc1 := 3) (ls1 := [some (vm_r 19)]) (st1 := [vm_r (1000 + 1), vm_r 19]) (m1 := m) (ob := true) (by decide +kernel) rfl rfl ?_
  refine vm_gc (g := 74) (na := 2) (av := [vm_r 19, vm_r (1000 + 1)]) (rest := []) (i := (.invokevirtual 0, 74, 2, [])) (len := 3) (by decide +kernel) rfl rfl rfl (by decide +kernel) (by decide +kernel) rfl rfl (vm_u (vm_okh_v (c := 5) (by decide +kernel) (by decide +kernel)) (show vm_okn 74 2 0 0 0 2 = true by decide +kernel)) ?_
  refine vm_G.mono h ?_
  rintro _ m1 ⟨z1, rfl, h⟩
  show vm_G 68 6 [some (vm_r 19)] [vm_i z1] m1 _
  refine vm_gj (c := z1 = 0) (t := 120) (e := 9) (i := (.ifCond .eq 0, 120, 0, [])) (len := 3) (st1 := []) (by decide +kernel) rfl rfl (fun c1 => ?_) (fun c1 => ?_)
  · replace h := h.1 c1
    refine vm_gp [(.iconst 0, 0, 0, [])] (pc1 := 121) (ls1 := [some (vm_r 19)]) (st1 := [vm_i 0]) (m1 := m1) (ob := true) (by decide +kernel) rfl rfl ?_
    exact vm_gr (r := some (vm_i 0)) (i := (.ireturn, 2, 0, [])) (len := 1) (by decide +kernel) rfl rfl (by decide) ⟨_, rfl, h⟩
  · replace h := h.2 c1
    refine vm_gp [(.aload 0, 0, 0, []), (.iconst 0, 0, 0, [])] (pc1 := 11) (ls1 := [some (vm_r 19)]) (st1 := [vm_i 0, vm_r 19]) (m1 := m1) (ob := true) (by decide +kernel) rfl rfl ?_
    refine vm_gc (g := 69) (na := 2) (av := [vm_r 19, vm_i 0]) (rest := []) (i := (.invokevirtual 0, 69, 2, [])) (len := 3) (by decide +kernel) rfl rfl rfl (by decide +kernel) (by decide +kernel) rfl rfl (vm_u (vm_okh_v (c := 5) (by decide +kernel) (by decide +kernel)) (show vm_okn 69 2 0 0 0 2 = true by decide +kernel)) ?_
    refine vm_G.mono h ?_
    rintro _ m2 ⟨z2, rfl, h⟩
    show vm_G 68 14 [some (vm_r 19)] [vm_i z2] m2 _
    refine vm_gj (c := z2 = 0) (t := 120) (e := 17) (i := (.ifCond .eq 0, 120, 0, [])) (len := 3) (st1 := []) (by decide +kernel) rfl rfl (fun c2 => ?_) (fun c2 => ?_)
    · replace h := h.1 c2
      refine vm_gp [(.iconst 0, 0, 0, [])] (pc1 := 121) (ls1 := [some (vm_r 19)]) (st1 := [vm_i 0]) (m1 := m2) (ob := true) (by decide +kernel) rfl rfl ?_
      exact vm_gr (r := some (vm_i 0)) (i := (.ireturn, 2, 0, [])) (len := 1) (by decide +kernel) rfl rfl (by decide) ⟨_, rfl, h⟩
    · replace h := h.2 c2
      refine vm_gp [(.aload 0, 0, 0, []), (.iconst 1, 0, 0, [])] (pc1 := 19) (ls1 := [some (vm_r 19)]) (st1 := [vm_i 1, vm_r 19]) (m1 := m2) (ob := true) (by decide +kernel) rfl rfl ?_
      refine vm_gc (g := 69) (na := 2) (av := [vm_r 19, vm_i 1]) (rest := []) (i := (.invokevirtual 0, 69, 2, [])) (len := 3) (by decide +kernel) rfl rfl rfl (by decide +kernel) (by decide +kernel) rfl rfl (vm_u (vm_okh_v (c := 5) (by decide +kernel) (by decide +kernel)) (show vm_okn 69 2 0 0 0 2 = true by decide +kernel)) ?_
      refine vm_G.mono h ?_
      rintro _ m3 ⟨z3, rfl, h⟩
      show vm_G 68 22 [some (vm_r 19)] [vm_i z3] m3 _
      refine vm_gj (c := z3 = 0) (t := 120) (e := 25) (i := (.ifCond .eq 0, 120, 0, [])) (len := 3) (st1 := []) (by decide +kernel) rfl rfl (fun c3 => ?_) (fun c3 => ?_)
      · replace h := h.1 c3
        refine vm_gp [(.iconst 0, 0, 0, [])] (pc1 := 121) (ls1 := [some (vm_r 19)]) (st1 := [vm_i 0]) (m1 := m3) (ob := true) (by decide +kernel) rfl rfl ?_
        exact vm_gr (r := some (vm_i 0)) (i := (.ireturn, 2, 0, [])) (len := 1) (by decide +kernel) rfl rfl (by decide) ⟨_, rfl, h⟩
      · replace h := h.2 c3
        refine vm_gp [(.aload 0, 0, 0, []), (.ldc 0, 2, 0, [])] (pc1 := 28) (ls1 := [some (vm_r 19)]) (st1 := [vm_r (1000 + 2), vm_r 19]) (m1 := m3) (ob := true) (by decide +kernel) rfl rfl ?_
        refine vm_gc (g := 74) (na := 2) (av := [vm_r 19, vm_r (1000 + 2)]) (rest := []) (i := (.invokevirtual 0, 74, 2, [])) (len := 3) (by decide +kernel) rfl rfl rfl (by decide +kernel) (by decide +kernel) rfl rfl (vm_u (vm_okh_v (c := 5) (by decide +kernel) (by decide +kernel)) (show vm_okn 74 2 0 0 0 2 = true by decide +kernel)) ?_
        refine vm_G.mono h ?_
        rintro _ m4 ⟨z4, rfl, h⟩
        show vm_G 68 31 [some (vm_r 19)] [vm_i z4] m4 _
        refine vm_gj (c := z4 = 0) (t := 120) (e := 34) (i := (.ifCond .eq 0, 120, 0, [])) (len := 3) (st1 := []) (by decide +kernel) rfl rfl (fun c4 => ?_) (fun c4 => ?_)
        · replace h := h.1 c4
          refine vm_gp [(.iconst 0, 0, 0, [])] (pc1 := 121) (ls1 := [some (vm_r 19)]) (st1 := [vm_i 0]) (m1 := m4) (ob := true) (by decide +kernel) rfl rfl ?_
          exact vm_gr (r := some (vm_i 0)) (i := (.ireturn, 2, 0, [])) (len := 1) (by decide +kernel) rfl rfl (by decide) ⟨_, rfl, h⟩
        · replace h := h.2 c4
          refine vm_gp [(.aload 0, 0, 0, []), (.iconst 2, 0, 0, [])] (pc1 := 36) (ls1 := [some (vm_r 19)]) (st1 := [vm_i 2, vm_r 19]) (m1 := m4) (ob := true) (by decide +kernel) rfl rfl ?_
          refine vm_gc (g := 69) (na := 2) (av := [vm_r 19, vm_i 2]) (rest := []) (i := (.invokevirtual 0, 69, 2, [])) (len := 3) (by decide +kernel) rfl rfl rfl (by decide +kernel) (by decide +kernel) rfl rfl (vm_u (vm_okh_v (c := 5) (by decide +kernel) (by decide +kernel)) (show vm_okn 69 2 0 0 0 2 = true by decide +kernel)) ?_
          refine vm_G.mono h ?_
          rintro _ m5 ⟨z5, rfl, h⟩
          show vm_G 68 39 [some (vm_r 19)] [vm_i z5] m5 _
          refine vm_gj (c := z5 = 0) (t := 120) (e := 42) (i := (.ifCond .eq 0, 120, 0, [])) (len := 3) (st1 := []) (by decide +kernel) rfl rfl (fun c5 => ?_) (fun c5 => ?_)
          · replace h := h.1 c5
            refine vm_gp [(.iconst 0, 0, 0, [])] (pc1 := 121) (ls1 := [some (vm_r 19)]) (st1 := [vm_i 0]) (m1 := m5) (ob := true) (by decide +kernel) rfl rfl ?_
            exact vm_gr (r := some (vm_i 0)) (i := (.ireturn, 2, 0, [])) (len := 1) (by decide +kernel) rfl rfl (by decide) ⟨_, rfl, h⟩
          · replace h := h.2 c5
            refine vm_gp [(.aload 0, 0, 0, []), (.ldc 0, 3, 0, [])] (pc1 := 45) (ls1 := [some (vm_r 19)]) (st1 := [vm_r (1000 + 3), vm_r 19]) (m1 := m5) (ob := true) (by decide +kernel) rfl rfl ?_
            refine vm_gc (g := 74) (na := 2) (av := [vm_r 19, vm_r (1000 + 3)]) (rest := []) (i := (.invokevirtual 0, 74, 2, [])) (len := 3) (by decide +kernel) rfl rfl rfl (by decide +kernel) (by decide +kernel) rfl rfl (vm_u (vm_okh_v (c := 5) (by decide +kernel) (by decide +kernel)) (show vm_okn 74 2 0 0 0 2 = true by decide +kernel)) ?_
            refine vm_G.mono h ?_
            rintro _ m6 ⟨z6, rfl, h⟩
            show vm_G 68 48 [some (vm_r 19)] [vm_i z6] m6 _
            refine vm_gj (c := z6 = 0) (t := 120) (e := 51) (i := (.ifCond .eq 0, 120, 0, [])) (len := 3) (st1 := []) (by decide +kernel) rfl rfl (fun c6 => ?_) (fun c6 => ?_)
            · replace h := h.1 c6
              refine vm_gp [(.iconst 0, 0, 0, [])] (pc1 := 121) (ls1 := [some (vm_r 19)]) (st1 := [vm_i 0]) (m1 := m6) (ob := true) (by decide +kernel) rfl rfl ?_
              exact vm_gr (r := some (vm_i 0)) (i := (.ireturn, 2, 0, [])) (len := 1) (by decide +kernel) rfl rfl (by decide) ⟨_, rfl, h⟩
            · replace h := h.2 c6
              refine vm_gp [(.aload 0, 0, 0, [])] (pc1 := 52) (ls1 := [some (vm_r 19)]) (st1 := [vm_r 19]) (m1 := m6) (ob := true) (by decide +kernel) rfl rfl ?_
              refine vm_gc (g := 70) (na := 1) (av := [vm_r 19]) (rest := []) (i := (.invokevirtual 0, 70, 1, [])) (len := 3) (by decide +kernel) rfl rfl rfl (by decide +kernel) (by decide +kernel) rfl rfl (vm_u (vm_okh_v (c := 5) (by decide +kernel) (by decide +kernel)) (show vm_okn 70 1 0 0 0 1 = true by decide +kernel)) ?_
              refine vm_G.mono h ?_
              rintro _ m7 ⟨z7, rfl, h⟩
              show vm_G 68 55 [some (vm_r 19)] [vm_i z7] m7 _
              refine vm_gj (c := z7 = 0) (t := 120) (e := 58) (i := (.ifCond .eq 0, 120, 0, [])) (len := 3) (st1 := []) (by decide +kernel) rfl rfl (fun c7 => ?_) (fun c7 => ?_)
              · replace h := h.1 c7
                refine vm_gp [(.iconst 0, 0, 0, [])] (pc1 := 121) (ls1 := [some (vm_r 19)]) (st1 := [vm_i 0]) (m1 := m7) (ob := true) (by decide +kernel) rfl rfl ?_
                exact vm_gr (r := some (vm_i 0)) (i := (.ireturn, 2, 0, [])) (len := 1) (by decide +kernel) rfl rfl (by decide) ⟨_, rfl, h⟩
              · replace h := h.2 c7
                refine vm_gp [(.aload 0, 0, 0, []), (.ldc 0, 4, 0, [])] (pc1 := 61) (ls1 := [some (vm_r 19)]) (st1 := [vm_r (1000 + 4), vm_r 19]) (m1 := m7) (ob := true) (by decide +kernel) rfl rfl ?_
                refine vm_gc (g := 74) (na := 2) (av := [vm_r 19, vm_r (1000 + 4)]) (rest := []) (i := (.invokevirtual 0, 74, 2, [])) (len := 3) (by decide +kernel) rfl rfl rfl (by decide +kernel) (by decide +kernel) rfl rfl (vm_u (vm_okh_v (c := 5) (by decide +kernel) (by decide +kernel)) (show vm_okn 74 2 0 0 0 2 = true by decide +kernel)) ?_
                refine vm_G.mono h ?_
                rintro _ m8 ⟨z8, rfl, h⟩
                show vm_G 68 64 [some (vm_r 19)] [vm_i z8] m8 _
                refine vm_gj (c := z8 = 0) (t := 120) (e := 67) (i := (.ifCond .eq 0, 120, 0, [])) (len := 3) (st1 := []) (by decide +kernel) rfl rfl (fun c8 => ?_) (fun c8 => ?_)
                · replace h := h.1 c8
                  refine vm_gp [(.iconst 0, 0, 0, [])] (pc1 := 121) (ls1 := [some (vm_r 19)]) (st1 := [vm_i 0]) (m1 := m8) (ob := true) (by decide +kernel) rfl rfl ?_
                  exact vm_gr (r := some (vm_i 0)) (i := (.ireturn, 2, 0, [])) (len := 1) (by decide +kernel) rfl rfl (by decide) ⟨_, rfl, h⟩
                · replace h := h.2 c8
                  refine vm_gp [(.aload 0, 0, 0, []), (.iconst 3, 0, 0, [])] (pc1 := 69) (ls1 := [some (vm_r 19)]) (st1 := [vm_i 3, vm_r 19]) (m1 := m8) (ob := true) (by decide +kernel) rfl rfl ?_
                  refine vm_gc (g := 69) (na := 2) (av := [vm_r 19, vm_i 3]) (rest := []) (i := (.invokevirtual 0, 69, 2, [])) (len := 3) (by decide +kernel) rfl rfl rfl (by decide +kernel) (by decide +kernel) rfl rfl (vm_u (vm_okh_v (c := 5) (by decide +kernel) (by decide +kernel)) (show vm_okn 69 2 0 0 0 2 = true by decide +kernel)) ?_
                  refine vm_G.mono h ?_
                  rintro _ m9 ⟨z9, rfl, h⟩
                  show vm_G 68 72 [some (vm_r 19)] [vm_i z9] m9 _
                  refine vm_gj (c := z9 = 0) (t := 120) (e := 75) (i := (.ifCond .eq 0, 120, 0, [])) (len := 3) (st1 := []) (by decide +kernel) rfl rfl (fun c9 => ?_) (fun c9 => ?_)
                  · replace h := h.1 c9
                    refine vm_gp [(.iconst 0, 0, 0, [])] (pc1 := 121) (ls1 := [some (vm_r 19)]) (st1 := [vm_i 0]) (m1 := m9) (ob := true) (by decide +kernel) rfl rfl ?_
                    exact vm_gr (r := some (vm_i 0)) (i := (.ireturn, 2, 0, [])) (len := 1) (by decide +kernel) rfl rfl (by decide) ⟨_, rfl, h⟩
                  · replace h := h.2 c9
                    refine vm_gp [(.aload 0, 0, 0, []), (.ldc 0, 5, 0, [])] (pc1 := 78) (ls1 := [some (vm_r 19)]) (st1 := [vm_r (1000 + 5), vm_r 19]) (m1 := m9) (ob := true) (by decide +kernel) rfl rfl ?_
                    refine vm_gc (g := 74) (na := 2) (av := [vm_r 19, vm_r (1000 + 5)]) (rest := []) (i := (.invokevirtual 0, 74, 2, [])) (len := 3) (by decide +kernel) rfl rfl rfl (by decide +kernel) (by decide +kernel) rfl rfl (vm_u (vm_okh_v (c := 5) (by decide +kernel) (by decide +kernel)) (show vm_okn 74 2 0 0 0 2 = true by decide +kernel)) ?_
                    refine vm_G.mono h ?_
                    rintro _ m10 ⟨z10, rfl, h⟩
                    show vm_G 68 81 [some (vm_r 19)] [vm_i z10] m10 _
                    refine vm_gj (c := z10 = 0) (t := 120) (e := 84) (i := (.ifCond .eq 0, 120, 0, [])) (len := 3) (st1 := []) (by decide +kernel) rfl rfl (fun c10 => ?_) (fun c10 => ?_)
                    · replace h := h.1 c10
                      refine vm_gp [(.iconst 0, 0, 0, [])] (pc1 := 121) (ls1 := [some (vm_r 19)]) (st1 := [vm_i 0]) (m1 := m10) (ob := true) (by decide +kernel) rfl rfl ?_
                      exact vm_gr (r := some (vm_i 0)) (i := (.ireturn, 2, 0, [])) (len := 1) (by decide +kernel) rfl rfl (by decide) ⟨_, rfl, h⟩
                    · replace h := h.2 c10
                      refine vm_gp [(.aload 0, 0, 0, []), (.iconst 4, 0, 0, [])] (pc1 := 86) (ls1 := [some (vm_r 19)]) (st1 := [vm_i 4, vm_r 19]) (m1 := m10) (ob := true) (by decide +kernel) rfl rfl ?_
                      refine vm_gc (g := 69) (na := 2) (av := [vm_r 19, vm_i 4]) (rest := []) (i := (.invokevirtual 0, 69, 2, [])) (len := 3) (by decide +kernel) rfl rfl rfl (by decide +kernel) (by decide +kernel) rfl rfl (vm_u (vm_okh_v (c := 5) (by decide +kernel) (by decide +kernel)) (show vm_okn 69 2 0 0 0 2 = true by decide +kernel)) ?_
                      refine vm_G.mono h ?_
                      rintro _ m11 ⟨z11, rfl, h⟩
                      show vm_G 68 89 [some (vm_r 19)] [vm_i z11] m11 _
                      refine vm_gj (c := z11 = 0) (t := 120) (e := 92) (i := (.ifCond .eq 0, 120, 0, [])) (len := 3) (st1 := []) (by decide +kernel) rfl rfl (fun c11 => ?_) (fun c11 => ?_)
                      · replace h := h.1 c11
                        refine vm_gp [(.iconst 0, 0, 0, [])] (pc1 := 121) (ls1 := [some (vm_r 19)]) (st1 := [vm_i 0]) (m1 := m11) (ob := true) (by decide +kernel) rfl rfl ?_
                        exact vm_gr (r := some (vm_i 0)) (i := (.ireturn, 2, 0, [])) (len := 1) (by decide +kernel) rfl rfl (by decide) ⟨_, rfl, h⟩
                      · replace h := h.2 c11
                        refine vm_gp [(.aload 0, 0, 0, []), (.ldc 0, 6, 0, [])] (pc1 := 95) (ls1 := [some (vm_r 19)]) (st1 := [vm_r (1000 + 6), vm_r 19]) (m1 := m11) (ob := true) (by decide +kernel) rfl rfl ?_
                        refine vm_gc (g := 74) (na := 2) (av := [vm_r 19, vm_r (1000 + 6)]) (rest := []) (i := (.invokevirtual 0, 74, 2, [])) (len := 3) (by decide +kernel) rfl rfl rfl (by decide +kernel) (by decide +kernel) rfl rfl (vm_u (vm_okh_v (c := 5) (by decide +kernel) (by decide +kernel)) (show vm_okn 74 2 0 0 0 2 = true by decide +kernel)) ?_
                        refine vm_G.mono h ?_
                        rintro _ m12 ⟨z12, rfl, h⟩
                        show vm_G 68 98 [some (vm_r 19)] [vm_i z12] m12 _
                        refine vm_gj (c := z12 = 0) (t := 120) (e := 101) (i := (.ifCond .eq 0, 120, 0, [])) (len := 3) (st1 := []) (by decide +kernel) rfl rfl (fun c12 => ?_) (fun c12 => ?_)
                        · replace h := h.1 c12
                          refine vm_gp [(.iconst 0, 0, 0, [])] (pc1 := 121) (ls1 := [some (vm_r 19)]) (st1 := [vm_i 0]) (m1 := m12) (ob := true) (by decide +kernel) rfl rfl ?_
                          exact vm_gr (r := some (vm_i 0)) (i := (.ireturn, 2, 0, [])) (len := 1) (by decide +kernel) rfl rfl (by decide) ⟨_, rfl, h⟩
                        · replace h := h.2 c12
                          refine vm_gp [(.aload 0, 0, 0, []), (.iconst 5, 0, 0, [])] (pc1 := 103) (ls1 := [some (vm_r 19)]) (st1 := [vm_i 5, vm_r 19]) (m1 := m12) (ob := true) (by decide +kernel) rfl rfl ?_
                          refine vm_gc (g := 69) (na := 2) (av := [vm_r 19, vm_i 5]) (rest := []) (i := (.invokevirtual 0, 69, 2, [])) (len := 3) (by decide +kernel) rfl rfl rfl (by decide +kernel) (by decide +kernel) rfl rfl (vm_u (vm_okh_v (c := 5) (by decide +kernel) (by decide +kernel)) (show vm_okn 69 2 0 0 0 2 = true by decide +kernel)) ?_
                          refine vm_G.mono h ?_
                          rintro _ m13 ⟨z13, rfl, h⟩
                          show vm_G 68 106 [some (vm_r 19)] [vm_i z13] m13 _
                          refine vm_gj (c := z13 = 0) (t := 120) (e := 109) (i := (.ifCond .eq 0, 120, 0, [])) (len := 3) (st1 := []) (by decide +kernel) rfl rfl (fun c13 => ?_) (fun c13 => ?_)
                          · replace h := h.1 c13
                            refine vm_gp [(.iconst 0, 0, 0, [])] (pc1 := 121) (ls1 := [some (vm_r 19)]) (st1 := [vm_i 0]) (m1 := m13) (ob := true) (by decide +kernel) rfl rfl ?_
                            exact vm_gr (r := some (vm_i 0)) (i := (.ireturn, 2, 0, [])) (len := 1) (by decide +kernel) rfl rfl (by decide) ⟨_, rfl, h⟩
                          · replace h := h.2 c13
                            refine vm_gp [(.aload 0, 0, 0, [])] (pc1 := 110) (ls1 := [some (vm_r 19)]) (st1 := [vm_r 19]) (m1 := m13) (ob := true) (by decide +kernel) rfl rfl ?_
                            refine vm_gc (g := 76) (na := 1) (av := [vm_r 19]) (rest := []) (i := (.invokevirtual 0, 76, 1, [])) (len := 3) (by decide +kernel) rfl rfl rfl (by decide +kernel) (by decide +kernel) rfl rfl (vm_u (vm_okh_v (c := 5) (by decide +kernel) (by decide +kernel)) (show vm_okn 76 1 0 0 0 1 = true by decide +kernel)) ?_
                            refine vm_G.mono h ?_
                            rintro _ m14 ⟨z14, rfl, h⟩
                            show vm_G 68 113 [some (vm_r 19)] [vm_i z14] m14 _
                            refine vm_gj (c := z14 = 0) (t := 120) (e := 116) (i := (.ifCond .eq 0, 120, 0, [])) (len := 3) (st1 := []) (by decide +kernel) rfl rfl (fun c14 => ?_) (fun c14 => ?_)
                            · replace h := h.1 c14
                              refine vm_gp [(.iconst 0, 0, 0, [])] (pc1 := 121) (ls1 := [some (vm_r 19)]) (st1 := [vm_i 0]) (m1 := m14) (ob := true) (by decide +kernel) rfl rfl ?_
                              exact vm_gr (r := some (vm_i 0)) (i := (.ireturn, 2, 0, [])) (len := 1) (by decide +kernel) rfl rfl (by decide) ⟨_, rfl, h⟩
                            · replace h := h.2 c14
                              refine vm_gp [(.iconst 1, 0, 0, []), (.goto 0, 121, 0, [])] (pc1 := 121) (ls1 := [some (vm_r 19)]) (st1 := [vm_i 1]) (m1 := m14) (ob := true) (by decide +kernel) rfl rfl ?_
                              exact vm_gr (r := some (vm_i 1)) (i := (.ireturn, 2, 0, [])) (len := 1) (by decide +kernel) rfl rfl (by decide) ⟨_, rfl, h⟩
abbrev ku5_readNumber_0 (v1 : Int) (m : vm_M) (Q : Int → vm_M → Prop) : Prop := vm_G 69 0 [some (vm_r 19), some (vm_i v1), none] [] m (vm_qi Q)
set_option maxRecDepth 20000 in
theorem ru5_readNumber_0 {v1 : Int} {m : vm_M} {Q : Int → vm_M → Prop}  (h :
    ((¬ v1 = 3 →
      ((0 ≤ v1 ∧ v1 < 6) ∧ (0 ≤ v1 ∧ v1 < 6)) ∧
      (vm_C 91 [vm_r 20, vm_i (m 900 v1), vm_i (m 901 v1)] m (vm_qi (fun z1 m1 =>
        ((¬ z1 = 0 →
          ((0 ≤ v1 ∧ v1 < 6)) ∧
          (vm_C 89 [vm_r 20] (vm_st m1 15 v1 (m1 20 4)) (vm_qv (fun m2 =>
            Q 1 m2)))) ∧ (¬ ¬ z1 = 0 →
          Q 0 m1)))))) ∧ (¬ ¬ v1 = 3 →
      ((0 ≤ v1 ∧ v1 < 6)) ∧
      (vm_C 91 [vm_r 20, vm_i (m 900 v1), vm_i (m 6 2)] m (vm_qi (fun z3 m3 =>
        ((¬ z3 = 0 →
          ((0 ≤ v1 ∧ v1 < 6)) ∧
          (vm_C 89 [vm_r 20] (vm_st m3 15 v1 (m3 20 4)) (vm_qv (fun m4 =>
            Q 1 m4)))) ∧ (¬ ¬ z3 = 0 →
          Q 0 m3)))))))) : vm_C 69 [vm_r 19, vm_i v1] m (vm_qi Q) := by
  show vm_G 69 0 [some (vm_r 19), some (vm_i v1), none] [] m (vm_qi Q)
  refine vm_gp [(.iload 1, 0, 0, []), (.iconst 3, 0, 0, [])] (pc1 := 2) (ls1 := [some (vm_r 19), some (vm_i v1), none]) (st1 := [vm_i 3, vm_i v1]) (m1 := m) (ob := true) (by decide +kernel) rfl rfl ?_
  refine vm_gj (c := ¬ v1 = 3) (t := 15) (e := 5) (i := (.if_icmp .ne 0, 15, 0, [])) (len := 3) (st1 := []) (by decide +kernel) rfl rfl (fun c1 => ?_) (fun c1 => ?_)
  · replace h := h.1 c1
    obtain ⟨⟨o2_0, o2_1⟩, h⟩ := h
    refine vm_gp [(.getstatic 0, 901, 0, []), (.iload 1, 0, 0, []), (.iaload, 6, 1, []), (.istore 2, 0, 0, []), (.aload 0, 0, 0, []), (.getfield 2, 5, 0, [(20, 0)]), (.getstatic 0, 900, 0, []), (.iload 1, 0, 0, []), (.iaload, 6, 1, []), (.iload 2, 0, 0, [])] (pc1 := 31) (ls1 := [some (vm_r 19), some (vm_i v1), some (vm_i (m 901 v1))]) (st1 := [vm_i (m 901 v1), vm_i (m 900 v1), vm_r 20]) (m1 := m) (ob := ((((((true && decide (901 = 900 ∨ 901 = 901)) && decide (0 ≤ v1 ∧ v1 < 6)) && vm_is 19 5) && true) && decide (900 = 900 ∨ 900 = 901)) && decide (0 ≤ v1 ∧ v1 < 6))) (by decide +kernel) rfl (vm_t (vm_t (vm_u (vm_u (vm_t (vm_t rfl (by decide)) o2_0) (by decide +kernel)) rfl) (by decide)) o2_1) ?_
    refine vm_gc (g := 91) (na := 3) (av := [vm_r 20, vm_i (m 900 v1), vm_i (m 901 v1)]) (rest := []) (i := (.invokevirtual 0, 91, 3, [])) (len := 3) (by decide +kernel) rfl rfl rfl (by decide +kernel) (by decide +kernel) rfl rfl (vm_u (vm_okh_v (c := 8) (by decide +kernel) (by decide +kernel)) (show vm_okn 91 3 0 0 0 3 = true by decide +kernel)) ?_
    refine vm_G.mono h ?_
    rintro _ m1 ⟨z1, rfl, h⟩
    show vm_G 69 34 [some (vm_r 19), some (vm_i v1), some (vm_i (m 901 v1))] [vm_i z1] m1 _
    refine vm_gj (c := ¬ z1 = 0) (t := 39) (e := 37) (i := (.ifCond .ne 0, 39, 0, [])) (len := 3) (st1 := []) (by decide +kernel) rfl rfl (fun c2 => ?_) (fun c2 => ?_)
    · replace h := h.1 c2
      obtain ⟨o4_0, h⟩ := h
      refine vm_gp [(.aload 0, 0, 0, []), (.getfield 2, 5, 3, [(14, 0)]), (.getfield 2, 4, 0, [(1, 1)]), (.iload 1, 0, 0, []), (.aload 0, 0, 0, []), (.getfield 2, 5, 0, [(20, 0)]), (.getfield 0, 8, 4, []), (.iastore, 6, 0, []), (.aload 0, 0, 0, []), (.getfield 2, 5, 0, [(20, 0)])] (pc1 := 59) (ls1 := [some (vm_r 19), some (vm_i v1), some (vm_i (m 901 v1))]) (st1 := [vm_r 20]) (m1 := (vm_st m1 15 v1 (m1 20 4))) (ob := (((((((((((true && vm_is 19 5) && true) && vm_is 14 4) && true) && vm_is 19 5) && true) && vm_is 20 8) && vm_ar 15 100 6) && decide (0 ≤ v1 ∧ v1 < 6)) && vm_is 19 5) && true)) (by decide +kernel) rfl (vm_u (vm_u (vm_t (vm_u (vm_u (vm_u (vm_u (vm_u (vm_u (vm_u (vm_u rfl (by decide +kernel)) rfl) (by decide +kernel)) rfl) (by decide +kernel)) rfl) (by decide +kernel)) (by decide +kernel)) o4_0) (by decide +kernel)) rfl) ?_
      refine vm_gc (g := 89) (na := 1) (av := [vm_r 20]) (rest := []) (i := (.invokevirtual 0, 89, 1, [])) (len := 3) (by decide +kernel) rfl rfl rfl (by decide +kernel) (by decide +kernel) rfl rfl (vm_u (vm_okh_v (c := 8) (by decide +kernel) (by decide +kernel)) (show vm_okn 89 1 0 0 0 1 = true by decide +kernel)) ?_
      refine vm_G.mono h ?_
      rintro _ m2 ⟨rfl, h⟩
      show vm_G 69 62 [some (vm_r 19), some (vm_i v1), some (vm_i (m 901 v1))] [] m2 _
      refine vm_gp [(.iconst 1, 0, 0, [])] (pc1 := 63) (ls1 := [some (vm_r 19), some (vm_i v1), some (vm_i (m 901 v1))]) (st1 := [vm_i 1]) (m1 := m2) (ob := true) (by decide +kernel) rfl rfl ?_
      exact vm_gr (r := some (vm_i 1)) (i := (.ireturn, 2, 0, [])) (len := 1) (by decide +kernel) rfl rfl (by decide) ⟨_, rfl, h⟩
    · replace h := h.2 c2
      refine vm_gp [(.iconst 0, 0, 0, [])] (pc1 := 38) (ls1 := [some (vm_r 19), some (vm_i v1), some (vm_i (m 901 v1))]) (st1 := [vm_i 0]) (m1 := m1) (ob := true) (by decide +kernel) rfl rfl ?_
      exact vm_gr (r := some (vm_i 0)) (i := (.ireturn, 2, 0, [])) (len := 1) (by decide +kernel) rfl rfl (by decide) ⟨_, rfl, h⟩
  · replace h := h.2 c1
    obtain ⟨o7_0, h⟩ := h
    refine vm_gp [(.aload 0, 0, 0, []), (.getfield 2, 5, 2, [(6, 0)]), (.getfield 0, 0, 2, []), (.goto 0, 20, 0, []), (.istore 2, 0, 0, []), (.aload 0, 0, 0, []), (.getfield 2, 5, 0, [(20, 0)]), (.getstatic 0, 900, 0, []), (.iload 1, 0, 0, []), (.iaload, 6, 1, []), (.iload 2, 0, 0, [])] (pc1 := 31) (ls1 := [some (vm_r 19), some (vm_i v1), some (vm_i (m 6 2))]) (st1 := [vm_i (m 6 2), vm_i (m 900 v1), vm_r 20]) (m1 := m) (ob := (((((((true && vm_is 19 5) && true) && vm_is 6 0) && vm_is 19 5) && true) && decide (900 = 900 ∨ 900 = 901)) && decide (0 ≤ v1 ∧ v1 < 6))) (by decide +kernel) rfl (vm_t (vm_t (vm_u (vm_u (vm_u (vm_u (vm_u rfl (by decide +kernel)) rfl) (by decide +kernel)) (by decide +kernel)) rfl) (by decide)) o7_0) ?_
    refine vm_gc (g := 91) (na := 3) (av := [vm_r 20, vm_i (m 900 v1), vm_i (m 6 2)]) (rest := []) (i := (.invokevirtual 0, 91, 3, [])) (len := 3) (by decide +kernel) rfl rfl rfl (by decide +kernel) (by decide +kernel) rfl rfl (vm_u (vm_okh_v (c := 8) (by decide +kernel) (by decide +kernel)) (show vm_okn 91 3 0 0 0 3 = true by decide +kernel)) ?_
    refine vm_G.mono h ?_
    rintro _ m3 ⟨z3, rfl, h⟩
    show vm_G 69 34 [some (vm_r 19), some (vm_i v1), some (vm_i (m 6 2))] [vm_i z3] m3 _
    refine vm_gj (c := ¬ z3 = 0) (t := 39) (e := 37) (i := (.ifCond .ne 0, 39, 0, [])) (len := 3) (st1 := []) (by decide +kernel) rfl rfl (fun c3 => ?_) (fun c3 => ?_)
    · replace h := h.1 c3
      obtain ⟨o9_0, h⟩ := h
      refine vm_gp [(.aload 0, 0, 0, []), (.getfield 2, 5, 3, [(14, 0)]), (.getfield 2, 4, 0, [(1, 1)]), (.iload 1, 0, 0, []), (.aload 0, 0, 0, []), (.getfield 2, 5, 0, [(20, 0)]), (.getfield 0, 8, 4, []), (.iastore, 6, 0, []), (.aload 0, 0, 0, []), (.getfield 2, 5, 0, [(20, 0)])] (pc1 := 59) (ls1 := [some (vm_r 19), some (vm_i v1), some (vm_i (m 6 2))]) (st1 := [vm_r 20]) (m1 := (vm_st m3 15 v1 (m3 20 4))) (ob := (((((((((((true && vm_is 19 5) && true) && vm_is 14 4) && true) && vm_is 19 5) && true) && vm_is 20 8) && vm_ar 15 100 6) && decide (0 ≤ v1 ∧ v1 < 6)) && vm_is 19 5) && true)) (by decide +kernel) rfl (vm_u (vm_u (vm_t (vm_u (vm_u (vm_u (vm_u (vm_u (vm_u (vm_u (vm_u rfl (by decide +kernel)) rfl) (by decide +kernel)) rfl) (by decide +kernel)) rfl) (by decide +kernel)) (by decide +kernel)) o9_0) (by decide +kernel)) rfl) ?_
      refine vm_gc (g := 89) (na := 1) (av := [vm_r 20]) (rest := []) (i := (.invokevirtual 0, 89, 1, [])) (len := 3) (by decide +kernel) rfl rfl rfl (by decide +kernel) (by decide +kernel) rfl rfl (vm_u (vm_okh_v (c := 8) (by decide +kernel) (by decide +kernel)) (show vm_okn 89 1 0 0 0 1 = true by decide +kernel)) ?_
      refine vm_G.mono h ?_
      rintro _ m4 ⟨rfl, h⟩
      show vm_G 69 62 [some (vm_r 19), some (vm_i v1), some (vm_i (m 6 2))] [] m4 _
      refine vm_gp [(.iconst 1, 0, 0, [])] (pc1 := 63) (ls1 := [some (vm_r 19), some (vm_i v1), some (vm_i (m 6 2))]) (st1 := [vm_i 1]) (m1 := m4) (ob := true) (by decide +kernel) rfl rfl ?_
      exact vm_gr (r := some (vm_i 1)) (i := (.ireturn, 2, 0, [])) (len := 1) (by decide +kernel) rfl rfl (by decide) ⟨_, rfl, h⟩
    · replace h := h.2 c3
      refine vm_gp [(.iconst 0, 0, 0, [])] (pc1 := 38) (ls1 := [some (vm_r 19), some (vm_i v1), some (vm_i (m 6 2))]) (st1 := [vm_i 0]) (m1 := m3) (ob := true) (by decide +kernel) rfl rfl ?_
      exact vm_gr (r := some (vm_i 0)) (i := (.ireturn, 2, 0, [])) (len := 1) (by decide +kernel) rfl rfl (by decide) ⟨_, rfl, h⟩
abbrev ku5_readCap_0  (m : vm_M) (Q : Int → vm_M → Prop) : Prop := vm_G 70 0 [some (vm_r 19)] [] m (vm_qi Q)
set_option maxRecDepth 20000 in
theorem ru5_readCap_0  {m : vm_M} {Q : Int → vm_M → Prop}  (h :
    (vm_C 91 [vm_r 20, vm_i 1, vm_i 30] m (vm_qi (fun z1 m1 =>
      ((¬ z1 = 0 →
        (vm_C 89 [vm_r 20] (vm_st m1 6 2 (m1 20 4)) (vm_qv (fun m2 =>
          Q 1 m2)))) ∧ (¬ ¬ z1 = 0 →
        Q 0 m1)))))) : vm_C 70 [vm_r 19] m (vm_qi Q) := by
  show vm_G 70 0 [some (vm_r 19)] [] m (vm_qi Q)
  refine vm_gp [(.aload 0, 0, 0, []), (.getfield 2, 5, 0, [(20, 0)]), (.iconst 1, 0, 0, []), (.iconst 30, 0, 0, [])] (pc1 := 7) (ls1 := [some (vm_r 19)]) (st1 := [vm_i 30, vm_i 1, vm_r 20]) (m1 := m) (ob := ((true && vm_is 19 5) && true)) (by decide +kernel) rfl (vm_u (vm_u rfl (by decide +kernel)) rfl) ?_
  refine vm_gc (g := 91) (na := 3) (av := [vm_r 20, vm_i 1, vm_i 30]) (rest := []) (i := (.invokevirtual 0, 91, 3, [])) (len := 3) (by decide +kernel) rfl rfl rfl (by decide +kernel) (by decide +kernel) rfl rfl (vm_u (vm_okh_v (c := 8) (by decide +kernel) (by decide +kernel)) (show vm_okn 91 3 0 0 0 3 = true by decide +kernel)) ?_
  refine vm_G.mono h ?_
  rintro _ m1 ⟨z1, rfl, h⟩
  show vm_G 70 10 [some (vm_r 19)] [vm_i z1] m1 _
  refine vm_gj (c := ¬ z1 = 0) (t := 15) (e := 13) (i := (.ifCond .ne 0, 15, 0, [])) (len := 3) (st1 := []) (by decide +kernel) rfl rfl (fun c1 => ?_) (fun c1 => ?_)
  · replace h := h.1 c1
    refine vm_gp [(.aload 0, 0, 0, []), (.getfield 2, 5, 2, [(6, 0)]), (.aload 0, 0, 0, []), (.getfield 2, 5, 0, [(20, 0)]), (.getfield 0, 8, 4, []), (.putfield 0, 0, 2, []), (.aload 0, 0, 0, []), (.getfield 2, 5, 0, [(20, 0)])] (pc1 := 33) (ls1 := [some (vm_r 19)]) (st1 := [vm_r 20]) (m1 := (vm_st m1 6 2 (m1 20 4))) (ob := ((((((((true && vm_is 19 5) && true) && vm_is 19 5) && true) && vm_is 20 8) && vm_is 6 0) && vm_is 19 5) && true)) (by decide +kernel) rfl (vm_u (vm_u (vm_u (vm_u (vm_u (vm_u (vm_u (vm_u rfl (by decide +kernel)) rfl) (by decide +kernel)) rfl) (by decide +kernel)) (by decide +kernel)) (by decide +kernel)) rfl) ?_
    refine vm_gc (g := 89) (na := 1) (av := [vm_r 20]) (rest := []) (i := (.invokevirtual 0, 89, 1, [])) (len := 3) (by decide +kernel) rfl rfl rfl (by decide +kernel) (by decide +kernel) rfl rfl (vm_u (vm_okh_v (c := 8) (by decide +kernel) (by decide +kernel)) (show vm_okn 89 1 0 0 0 1 = true by decide +kernel)) ?_
    refine vm_G.mono h ?_
    rintro _ m2 ⟨rfl, h⟩
    show vm_G 70 36 [some (vm_r 19)] [] m2 _
    refine vm_gp [(.iconst 1, 0, 0, [])] (pc1 := 37) (ls1 := [some (vm_r 19)]) (st1 := [vm_i 1]) (m1 := m2) (ob := true) (by decide +kernel) rfl rfl ?_
    exact vm_gr (r := some (vm_i 1)) (i := (.ireturn, 2, 0, [])) (len := 1) (by decide +kernel) rfl rfl (by decide) ⟨_, rfl, h⟩
  · replace h := h.2 c1
    refine vm_gp [(.iconst 0, 0, 0, [])] (pc1 := 14) (ls1 := [some (vm_r 19)]) (st1 := [vm_i 0]) (m1 := m1) (ob := true) (by decide +kernel) rfl rfl ?_
    exact vm_gr (r := some (vm_i 0)) (i := (.ireturn, 2, 0, [])) (len := 1) (by decide +kernel) rfl rfl (by decide) ⟨_, rfl, h⟩
abbrev ku5_readLetter_0  (m : vm_M) (Q : Int → vm_M → Prop) : Prop := vm_G 71 0 [some (vm_r 19), none] [] m (vm_qi Q)
set_option maxRecDepth 20000 in
theorem ru5_readLetter_0  {m : vm_M} {Q : Int → vm_M → Prop}  (h :
    (vm_C 74 [vm_r 19, vm_r (1000 + 0)] m (vm_qi (fun z1 m1 =>
      ((¬ z1 = 0 →
        (vm_C 92 [vm_r 20] m1 (vm_qi (fun z2 m2 =>
          ((z2 = (-1) →
            Q 0 m2) ∧ (¬ z2 = (-1) →
            (vm_C 3 [vm_r 6, vm_i z2] m2 (vm_qi (fun z3 m3 =>
              ((z3 = 0 →
                (vm_C 89 [vm_r 20] m3 (vm_qv (fun m4 =>
                  (vm_C 74 [vm_r 19, vm_r (1000 + 7)] m4 (vm_qi (fun z5 m5 =>
                    ((z5 = 0 →
                      Q 0 m5) ∧ (¬ z5 = 0 →
                      (vm_C 91 [vm_r 20, vm_i 1, vm_i 60] m5 (vm_qi (fun z6 m6 =>
                        ((¬ z6 = 0 →
                          (vm_C 4 [vm_r 6, vm_i z2, vm_i (m6 20 4)] m6 (vm_qv (fun m7 =>
                            (vm_C 89 [vm_r 20] m7 (vm_qv (fun m8 =>
                              (vm_C 74 [vm_r 19, vm_r (1000 + 8)] m8 (vm_qi (fun z9 m9 =>
                                ((z9 = 0 →
                                  Q 0 m9) ∧ (¬ z9 = 0 →
                                  (vm_C 72 [vm_r 19, vm_i z2, vm_i 0] m9 (vm_qi (fun z10 m10 =>
                                    ((z10 = 0 →
                                      Q 0 m10) ∧ (¬ z10 = 0 →
                                      (vm_C 74 [vm_r 19, vm_r (1000 + 9)] m10 (vm_qi (fun z11 m11 =>
                                        ((z11 = 0 →
                                          Q 0 m11) ∧ (¬ z11 = 0 →
                                          (vm_C 72 [vm_r 19, vm_i z2, vm_i 1] m11 (vm_qi (fun z12 m12 =>
                                            ((z12 = 0 →
                                              Q 0 m12) ∧ (¬ z12 = 0 →
                                              (vm_C 76 [vm_r 19] m12 (vm_qi (fun z13 m13 =>
                                                ((z13 = 0 →
                                                  Q 0 m13) ∧ (¬ z13 = 0 →
                                                  Q 1 m13)))))))))))))))))))))))))))))))) ∧ (¬ ¬ z6 = 0 →
                          Q 0 m6)))))))))))))) ∧ (¬ z3 = 0 →
                Q 0 m3))))))))))) ∧ (¬ ¬ z1 = 0 →
        Q 0 m1)))))) : vm_C 71 [vm_r 19] m (vm_qi Q) := by
  show vm_G 71 0 [some (vm_r 19), none] [] m (vm_qi Q)
  refine vm_gp [(.aload 0, 0, 0, []), (.ldc 0, 0, 0, [])] (pc1 := 3) (ls1 := [some (vm_r 19), none]) (st1 := [vm_r (1000 + 0), vm_r 19]) (m1 := m) (ob := true) (by decide +kernel) rfl rfl ?_
  refine vm_gc (g := 74) (na := 2) (av := [vm_r 19, vm_r (1000 + 0)]) (rest := []) (i := (.invokevirtual 0, 74, 2, [])) (len := 3) (by decide +kernel) rfl rfl rfl (by decide +kernel) (by decide +kernel) rfl rfl (vm_u (vm_okh_v (c := 5) (by decide +kernel) (by decide +kernel)) (show vm_okn 74 2 0 0 0 2 = true by decide +kernel)) ?_
  refine vm_G.mono h ?_
  rintro _ m1 ⟨z1, rfl, h⟩
  show vm_G 71 6 [some (vm_r 19), none] [vm_i z1] m1 _
  refine vm_gj (c := ¬ z1 = 0) (t := 11) (e := 9) (i := (.ifCond .ne 0, 11, 0, [])) (len := 3) (st1 := []) (by decide +kernel) rfl rfl (fun c1 => ?_) (fun c1 => ?_)
  · replace h := h.1 c1
    refine vm_gp [(.aload 0, 0, 0, []), (.getfield 2, 5, 0, [(20, 0)])] (pc1 := 15) (ls1 := [some (vm_r 19), none]) (st1 := [vm_r 20]) (m1 := m1) (ob := ((true && vm_is 19 5) && true)) (by decide +kernel) rfl (vm_u (vm_u rfl (by decide +kernel)) rfl) ?_
    refine vm_gc (g := 92) (na := 1) (av := [vm_r 20]) (rest := []) (i := (.invokevirtual 0, 92, 1, [])) (len := 3) (by decide +kernel) rfl rfl rfl (by decide +kernel) (by decide +kernel) rfl rfl (vm_u (vm_okh_v (c := 8) (by decide +kernel) (by decide +kernel)) (show vm_okn 92 1 0 0 0 1 = true by decide +kernel)) ?_
    refine vm_G.mono h ?_
    rintro _ m2 ⟨z2, rfl, h⟩
    show vm_G 71 18 [some (vm_r 19), none] [vm_i z2] m2 _
    refine vm_gp [(.istore 1, 0, 0, []), (.iload 1, 0, 0, []), (.iconst (-1), 0, 0, [])] (pc1 := 21) (ls1 := [some (vm_r 19), some (vm_i z2)]) (st1 := [vm_i (-1), vm_i z2]) (m1 := m2) (ob := true) (by decide +kernel) rfl rfl ?_
    refine vm_gj (c := z2 = (-1)) (t := 35) (e := 24) (i := (.if_icmp .eq 0, 35, 0, [])) (len := 3) (st1 := []) (by decide +kernel) rfl rfl (fun c2 => ?_) (fun c2 => ?_)
    · replace h := h.1 c2
      refine vm_gp [(.iconst 0, 0, 0, [])] (pc1 := 36) (ls1 := [some (vm_r 19), some (vm_i z2)]) (st1 := [vm_i 0]) (m1 := m2) (ob := true) (by decide +kernel) rfl rfl ?_
      exact vm_gr (r := some (vm_i 0)) (i := (.ireturn, 2, 0, [])) (len := 1) (by decide +kernel) rfl rfl (by decide) ⟨_, rfl, h⟩
    · replace h := h.2 c2
      refine vm_gp [(.aload 0, 0, 0, []), (.getfield 2, 5, 2, [(6, 0)]), (.iload 1, 0, 0, [])] (pc1 := 29) (ls1 := [some (vm_r 19), some (vm_i z2)]) (st1 := [vm_i z2, vm_r 6]) (m1 := m2) (ob := ((true && vm_is 19 5) && true)) (by decide +kernel) rfl (vm_u (vm_u rfl (by decide +kernel)) rfl) ?_
      refine vm_gc (g := 3) (na := 2) (av := [vm_r 6, vm_i z2]) (rest := []) (i := (.invokevirtual 0, 3, 2, [])) (len := 3) (by decide +kernel) rfl rfl rfl (by decide +kernel) (by decide +kernel) rfl rfl (vm_u (vm_okh_v (c := 0) (by decide +kernel) (by decide +kernel)) (show vm_okn 3 2 0 0 0 2 = true by decide +kernel)) ?_
      refine vm_G.mono h ?_
      rintro _ m3 ⟨z3, rfl, h⟩
      show vm_G 71 32 [some (vm_r 19), some (vm_i z2)] [vm_i z3] m3 _
      refine vm_gj (c := z3 = 0) (t := 37) (e := 35) (i := (.ifCond .eq 0, 37, 0, [])) (len := 3) (st1 := []) (by decide +kernel) rfl rfl (fun c3 => ?_) (fun c3 => ?_)
      · replace h := h.1 c3
        refine vm_gp [(.aload 0, 0, 0, []), (.getfield 2, 5, 0, [(20, 0)])] (pc1 := 41) (ls1 := [some (vm_r 19), some (vm_i z2)]) (st1 := [vm_r 20]) (m1 := m3) (ob := ((true && vm_is 19 5) && true)) (by decide +kernel) rfl (vm_u (vm_u rfl (by decide +kernel)) rfl) ?_
        refine vm_gc (g := 89) (na := 1) (av := [vm_r 20]) (rest := []) (i := (.invokevirtual 0, 89, 1, [])) (len := 3) (by decide +kernel) rfl rfl rfl (by decide +kernel) (by decide +kernel) rfl rfl (vm_u (vm_okh_v (c := 8) (by decide +kernel) (by decide +kernel)) (show vm_okn 89 1 0 0 0 1 = true by decide +kernel)) ?_
        refine vm_G.mono h ?_
        rintro _ m4 ⟨rfl, h⟩
        show vm_G 71 44 [some (vm_r 19), some (vm_i z2)] [] m4 _
        refine vm_gp [(.aload 0, 0, 0, []), (.ldc 0, 7, 0, [])] (pc1 := 47) (ls1 := [some (vm_r 19), some (vm_i z2)]) (st1 := [vm_r (1000 + 7), vm_r 19]) (m1 := m4) (ob := true) (by decide +kernel) rfl rfl ?_
        refine vm_gc (g := 74) (na := 2) (av := [vm_r 19, vm_r (1000 + 7)]) (rest := []) (i := (.invokevirtual 0, 74, 2, [])) (len := 3) (by decide +kernel) rfl rfl rfl (by decide +kernel) (by decide +kernel) rfl rfl (vm_u (vm_okh_v (c := 5) (by decide +kernel) (by decide +kernel)) (show vm_okn 74 2 0 0 0 2 = true by decide +kernel)) ?_
        refine vm_G.mono h ?_
        rintro _ m5 ⟨z5, rfl, h⟩
        show vm_G 71 50 [some (vm_r 19), some (vm_i z2)] [vm_i z5] m5 _
        refine vm_gj (c := z5 = 0) (t := 66) (e := 53) (i := (.ifCond .eq 0, 66, 0, [])) (len := 3) (st1 := []) (by decide +kernel) rfl rfl (fun c4 => ?_) (fun c4 => ?_)
        · replace h := h.1 c4
          refine vm_gp [(.iconst 0, 0, 0, [])] (pc1 := 67) (ls1 := [some (vm_r 19), some (vm_i z2)]) (st1 := [vm_i 0]) (m1 := m5) (ob := true) (by decide +kernel) rfl rfl ?_
          exact vm_gr (r := some (vm_i 0)) (i := (.ireturn, 2, 0, [])) (len := 1) (by decide +kernel) rfl rfl (by decide) ⟨_, rfl, h⟩
        · replace h := h.2 c4
          refine vm_gp [(.aload 0, 0, 0, []), (.getfield 2, 5, 0, [(20, 0)]), (.iconst 1, 0, 0, []), (.iconst 60, 0, 0, [])] (pc1 := 60) (ls1 := [some (vm_r 19), some (vm_i z2)]) (st1 := [vm_i 60, vm_i 1, vm_r 20]) (m1 := m5) (ob := ((true && vm_is 19 5) && true)) (by decide +kernel) rfl (vm_u (vm_u rfl (by decide +kernel)) rfl) ?_
          refine vm_gc (g := 91) (na := 3) (av := [vm_r 20, vm_i 1, vm_i 60]) (rest := []) (i := (.invokevirtual 0, 91, 3, [])) (len := 3) (by decide +kernel) rfl rfl rfl (by decide +kernel) (by decide +kernel) rfl rfl (vm_u (vm_okh_v (c := 8) (by decide +kernel) (by decide +kernel)) (show vm_okn 91 3 0 0 0 3 = true by decide +kernel)) ?_
          refine vm_G.mono h ?_
          rintro _ m6 ⟨z6, rfl, h⟩
          show vm_G 71 63 [some (vm_r 19), some (vm_i z2)] [vm_i z6] m6 _
          refine vm_gj (c := ¬ z6 = 0) (t := 68) (e := 66) (i := (.ifCond .ne 0, 68, 0, [])) (len := 3) (st1 := []) (by decide +kernel) rfl rfl (fun c5 => ?_) (fun c5 => ?_)
          · replace h := h.1 c5
            refine vm_gp [(.aload 0, 0, 0, []), (.getfield 2, 5, 2, [(6, 0)]), (.iload 1, 0, 0, []), (.aload 0, 0, 0, []), (.getfield 2, 5, 0, [(20, 0)]), (.getfield 0, 8, 4, [])] (pc1 := 80) (ls1 := [some (vm_r 19), some (vm_i z2)]) (st1 := [vm_i (m6 20 4), vm_i z2, vm_r 6]) (m1 := m6) (ob := (((((true && vm_is 19 5) && true) && vm_is 19 5) && true) && vm_is 20 8)) (by decide +kernel) rfl (vm_u (vm_u (vm_u (vm_u (vm_u rfl (by decide +kernel)) rfl) (by decide +kernel)) rfl) (by decide +kernel)) ?_
            refine vm_gc (g := 4) (na := 3) (av := [vm_r 6, vm_i z2, vm_i (m6 20 4)]) (rest := []) (i := (.invokevirtual 0, 4, 3, [])) (len := 3) (by decide +kernel) rfl rfl rfl (by decide +kernel) (by decide +kernel) rfl rfl (vm_u (vm_okh_v (c := 0) (by decide +kernel) (by decide +kernel)) (show vm_okn 4 3 0 0 0 3 = true by decide +kernel)) ?_
            refine vm_G.mono h ?_
            rintro _ m7 ⟨rfl, h⟩
            show vm_G 71 83 [some (vm_r 19), some (vm_i z2)] [] m7 _
            refine vm_gp [(.aload 0, 0, 0, []), (.getfield 2, 5, 0, [(20, 0)])] (pc1 := 87) (ls1 := [some (vm_r 19), some (vm_i z2)]) (st1 := [vm_r 20]) (m1 := m7) (ob := ((true && vm_is 19 5) && true)) (by decide +kernel) rfl (vm_u (vm_u rfl (by decide +kernel)) rfl) ?_
            refine vm_gc (g := 89) (na := 1) (av := [vm_r 20]) (rest := []) (i := (.invokevirtual 0, 89, 1, [])) (len := 3) (by decide +kernel) rfl rfl rfl (by decide +kernel) (by decide +kernel) rfl rfl (vm_u (vm_okh_v (c := 8) (by decide +kernel) (by decide +kernel)) (show vm_okn 89 1 0 0 0 1 = true by decide +kernel)) ?_
            refine vm_G.mono h ?_
            rintro _ m8 ⟨rfl, h⟩
            show vm_G 71 90 [some (vm_r 19), some (vm_i z2)] [] m8 _
            refine vm_gp [(.aload 0, 0, 0, []), (.ldc 0, 8, 0, [])] (pc1 := 93) (ls1 := [some (vm_r 19), some (vm_i z2)]) (st1 := [vm_r (1000 + 8), vm_r 19]) (m1 := m8) (ob := true) (by decide +kernel) rfl rfl ?_
            refine vm_gc (g := 74) (na := 2) (av := [vm_r 19, vm_r (1000 + 8)]) (rest := []) (i := (.invokevirtual 0, 74, 2, [])) (len := 3) (by decide +kernel) rfl rfl rfl (by decide +kernel) (by decide +kernel) rfl rfl (vm_u (vm_okh_v (c := 5) (by decide +kernel) (by decide +kernel)) (show vm_okn 74 2 0 0 0 2 = true by decide +kernel)) ?_
            refine vm_G.mono h ?_
            rintro _ m9 ⟨z9, rfl, h⟩
            show vm_G 71 96 [some (vm_r 19), some (vm_i z2)] [vm_i z9] m9 _
            refine vm_gj (c := z9 = 0) (t := 137) (e := 99) (i := (.ifCond .eq 0, 137, 0, [])) (len := 3) (st1 := []) (by decide +kernel) rfl rfl (fun c6 => ?_) (fun c6 => ?_)
            · replace h := h.1 c6
              refine vm_gp [(.iconst 0, 0, 0, [])] (pc1 := 138) (ls1 := [some (vm_r 19), some (vm_i z2)]) (st1 := [vm_i 0]) (m1 := m9) (ob := true) (by decide +kernel) rfl rfl ?_
              exact vm_gr (r := some (vm_i 0)) (i := (.ireturn, 2, 0, [])) (len := 1) (by decide +kernel) rfl rfl (by decide) ⟨_, rfl, h⟩
            · replace h := h.2 c6
              refine vm_gp [(.aload 0, 0, 0, []), (.iload 1, 0, 0, []), (.iconst 0, 0, 0, [])] (pc1 := 102) (ls1 := [some (vm_r 19), some (vm_i z2)]) (st1 := [vm_i 0, vm_i z2, vm_r 19]) (m1 := m9) (ob := true) (by decide +kernel) rfl rfl ?_
              refine vm_gc (g := 72) (na := 3) (av := [vm_r 19, vm_i z2, vm_i 0]) (rest := []) (i := (.invokevirtual 0, 72, 3, [])) (len := 3) (by decide +kernel) rfl rfl rfl (by decide +kernel) (by decide +kernel) rfl rfl (vm_u (vm_okh_v (c := 5) (by decide +kernel) (by decide +kernel)) (show vm_okn 72 3 0 0 0 3 = true by decide +kernel)) ?_
              refine vm_G.mono h ?_
              rintro _ m10 ⟨z10, rfl, h⟩
              show vm_G 71 105 [some (vm_r 19), some (vm_i z2)] [vm_i z10] m10 _
              refine vm_gj (c := z10 = 0) (t := 137) (e := 108) (i := (.ifCond .eq 0, 137, 0, [])) (len := 3) (st1 := []) (by decide +kernel) rfl rfl (fun c7 => ?_) (fun c7 => ?_)
              · replace h := h.1 c7
                refine vm_gp [(.iconst 0, 0, 0, [])] (pc1 := 138) (ls1 := [some (vm_r 19), some (vm_i z2)]) (st1 := [vm_i 0]) (m1 := m10) (ob := true) (by decide +kernel) rfl rfl ?_
                exact vm_gr (r := some (vm_i 0)) (i := (.ireturn, 2, 0, [])) (len := 1) (by decide +kernel) rfl rfl (by decide) ⟨_, rfl, h⟩
              · replace h := h.2 c7
                refine vm_gp [(.aload 0, 0, 0, []), (.ldc 0, 9, 0, [])] (pc1 := 111) (ls1 := [some (vm_r 19), some (vm_i z2)]) (st1 := [vm_r (1000 + 9), vm_r 19]) (m1 := m10) (ob := true) (by decide +kernel) rfl rfl ?_
                refine vm_gc (g := 74) (na := 2) (av := [vm_r 19, vm_r (1000 + 9)]) (rest := []) (i := (.invokevirtual 0, 74, 2, [])) (len := 3) (by decide +kernel) rfl rfl rfl (by decide +kernel) (by decide +kernel) rfl rfl (vm_u (vm_okh_v (c := 5) (by decide +kernel) (by decide +kernel)) (show vm_okn 74 2 0 0 0 2 = true by decide +kernel)) ?_
                refine vm_G.mono h ?_
                rintro _ m11 ⟨z11, rfl, h⟩
                show vm_G 71 114 [some (vm_r 19), some (vm_i z2)] [vm_i z11] m11 _
                refine vm_gj (c := z11 = 0) (t := 137) (e := 117) (i := (.ifCond .eq 0, 137, 0, [])) (len := 3) (st1 := []) (by decide +kernel) rfl rfl (fun c8 => ?_) (fun c8 => ?_)
                · replace h := h.1 c8
                  refine vm_gp [(.iconst 0, 0, 0, [])] (pc1 := 138) (ls1 := [some (vm_r 19), some (vm_i z2)]) (st1 := [vm_i 0]) (m1 := m11) (ob := true) (by decide +kernel) rfl rfl ?_
                  exact vm_gr (r := some (vm_i 0)) (i := (.ireturn, 2, 0, [])) (len := 1) (by decide +kernel) rfl rfl (by decide) ⟨_, rfl, h⟩
                · replace h := h.2 c8
                  refine vm_gp [(.aload 0, 0, 0, []), (.iload 1, 0, 0, []), (.iconst 1, 0, 0, [])] (pc1 := 120) (ls1 := [some (vm_r 19), some (vm_i z2)]) (st1 := [vm_i 1, vm_i z2, vm_r 19]) (m1 := m11) (ob := true) (by decide +kernel) rfl rfl ?_
                  refine vm_gc (g := 72) (na := 3) (av := [vm_r 19, vm_i z2, vm_i 1]) (rest := []) (i := (.invokevirtual 0, 72, 3, [])) (len := 3) (by decide +kernel) rfl rfl rfl (by decide +kernel) (by decide +kernel) rfl rfl (vm_u (vm_okh_v (c := 5) (by decide +kernel) (by decide +kernel)) (show vm_okn 72 3 0 0 0 3 = true by decide +kernel)) ?_
                  refine vm_G.mono h ?_
                  rintro _ m12 ⟨z12, rfl, h⟩
                  show vm_G 71 123 [some (vm_r 19), some (vm_i z2)] [vm_i z12] m12 _
                  refine vm_gj (c := z12 = 0) (t := 137) (e := 126) (i := (.ifCond .eq 0, 137, 0, [])) (len := 3) (st1 := []) (by decide +kernel) rfl rfl (fun c9 => ?_) (fun c9 => ?_)
                  · replace h := h.1 c9
                    refine vm_gp [(.iconst 0, 0, 0, [])] (pc1 := 138) (ls1 := [some (vm_r 19), some (vm_i z2)]) (st1 := [vm_i 0]) (m1 := m12) (ob := true) (by decide +kernel) rfl rfl ?_
                    exact vm_gr (r := some (vm_i 0)) (i := (.ireturn, 2, 0, [])) (len := 1) (by decide +kernel) rfl rfl (by decide) ⟨_, rfl, h⟩
                  · replace h := h.2 c9
                    refine vm_gp [(.aload 0, 0, 0, [])] (pc1 := 127) (ls1 := [some (vm_r 19), some (vm_i z2)]) (st1 := [vm_r 19]) (m1 := m12) (ob := true) (by decide +kernel) rfl rfl ?_
                    refine vm_gc (g := 76) (na := 1) (av := [vm_r 19]) (rest := []) (i := (.invokevirtual 0, 76, 1, [])) (len := 3) (by decide +kernel) rfl rfl rfl (by decide +kernel) (by decide +kernel) rfl rfl (vm_u (vm_okh_v (c := 5) (by decide +kernel) (by decide +kernel)) (show vm_okn 76 1 0 0 0 1 = true by decide +kernel)) ?_
                    refine vm_G.mono h ?_
                    rintro _ m13 ⟨z13, rfl, h⟩
                    show vm_G 71 130 [some (vm_r 19), some (vm_i z2)] [vm_i z13] m13 _
                    refine vm_gj (c := z13 = 0) (t := 137) (e := 133) (i := (.ifCond .eq 0, 137, 0, [])) (len := 3) (st1 := []) (by decide +kernel) rfl rfl (fun c10 => ?_) (fun c10 => ?_)
                    · replace h := h.1 c10
                      refine vm_gp [(.iconst 0, 0, 0, [])] (pc1 := 138) (ls1 := [some (vm_r 19), some (vm_i z2)]) (st1 := [vm_i 0]) (m1 := m13) (ob := true) (by decide +kernel) rfl rfl ?_
                      exact vm_gr (r := some (vm_i 0)) (i := (.ireturn, 2, 0, [])) (len := 1) (by decide +kernel) rfl rfl (by decide) ⟨_, rfl, h⟩
                    · replace h := h.2 c10
                      refine vm_gp [(.iconst 1, 0, 0, []), (.goto 0, 138, 0, [])] (pc1 := 138) (ls1 := [some (vm_r 19), some (vm_i z2)]) (st1 := [vm_i 1]) (m1 := m13) (ob := true) (by decide +kernel) rfl rfl ?_
                      exact vm_gr (r := some (vm_i 1)) (i := (.ireturn, 2, 0, [])) (len := 1) (by decide +kernel) rfl rfl (by decide) ⟨_, rfl, h⟩
          · replace h := h.2 c5
            refine vm_gp [(.iconst 0, 0, 0, [])] (pc1 := 67) (ls1 := [some (vm_r 19), some (vm_i z2)]) (st1 := [vm_i 0]) (m1 := m6) (ob := true) (by decide +kernel) rfl rfl ?_
            exact vm_gr (r := some (vm_i 0)) (i := (.ireturn, 2, 0, [])) (len := 1) (by decide +kernel) rfl rfl (by decide) ⟨_, rfl, h⟩
      · replace h := h.2 c3
        refine vm_gp [(.iconst 0, 0, 0, [])] (pc1 := 36) (ls1 := [some (vm_r 19), some (vm_i z2)]) (st1 := [vm_i 0]) (m1 := m3) (ob := true) (by decide +kernel) rfl rfl ?_
        exact vm_gr (r := some (vm_i 0)) (i := (.ireturn, 2, 0, [])) (len := 1) (by decide +kernel) rfl rfl (by decide) ⟨_, rfl, h⟩
  · replace h := h.2 c1
    refine vm_gp [(.iconst 0, 0, 0, [])] (pc1 := 10) (ls1 := [some (vm_r 19), none]) (st1 := [vm_i 0]) (m1 := m1) (ob := true) (by decide +kernel) rfl rfl ?_
    exact vm_gr (r := some (vm_i 0)) (i := (.ireturn, 2, 0, [])) (len := 1) (by decide +kernel) rfl rfl (by decide) ⟨_, rfl, h⟩
abbrev ku5_readSide_0 (v1 : Int) (v2 : Int) (m : vm_M) (Q : Int → vm_M → Prop) : Prop := vm_G 72 0 [some (vm_r 19), some (vm_i v1), some (vm_i v2), none] [] m (vm_qi Q)
abbrev ku5_readSide_2 (v1 : Int) (v2 : Int) (v3 : Int) (m : vm_M) (Q : Int → vm_M → Prop) : Prop := vm_G 72 2 [some (vm_r 19), some (vm_i v1), some (vm_i v2), some (vm_i v3)] [] m (vm_qi Q)
set_option maxRecDepth 20000 in
theorem ru5_readSide_0 {v1 : Int} {v2 : Int} {m : vm_M} {Q : Int → vm_M → Prop}  (h :
    ku5_readSide_2 v1 v2 0 m Q) : vm_C 72 [vm_r 19, vm_i v1, vm_i v2] m (vm_qi Q) := by
  show vm_G 72 0 [some (vm_r 19), some (vm_i v1), some (vm_i v2), none] [] m (vm_qi Q)
  refine vm_gp [(.iconst 0, 0, 0, []), (.istore 3, 0, 0, [])] (pc1 := 2) (ls1 := [some (vm_r 19), some (vm_i v1), some (vm_i v2), some (vm_i 0)]) (st1 := []) (m1 := m) (ob := true) (by decide +kernel) rfl rfl ?_
  exact h
set_option maxRecDepth 20000 in
theorem ru5_readSide_2 {v1 : Int} {v2 : Int} {v3 : Int} {m : vm_M} {Q : Int → vm_M → Prop}  (h :
    ((6 ≤ v3 →
      Q 1 m) ∧ (¬ 6 ≤ v3 →
      (vm_C 90 [vm_r 20, vm_r (1000 + 10)] m (vm_qi (fun z1 m1 =>
        ((z1 = 0 →
          (vm_C 91 [vm_r 20, vm_i 0, vm_i 9] m1 (vm_qi (fun z2 m2 =>
            ((z2 = 0 →
              Q 0 m2) ∧ (¬ z2 = 0 →
              (vm_C 5 [vm_r 6, vm_i v1, vm_i v2, vm_i v3, vm_i (m2 20 4)] m2 (vm_qv (fun m3 =>
                (vm_C 89 [vm_r 20] m3 (vm_qv (fun m4 =>
                  ((vm_32 (v3 + 1))) ∧
                  ku5_readSide_2 v1 v2 (v3 + 1) m4 Q)))))))))))) ∧ (¬ z1 = 0 →
          (vm_C 5 [vm_r 6, vm_i v1, vm_i v2, vm_i v3, vm_i (-1)] m1 (vm_qv (fun m5 =>
            (vm_C 89 [vm_r 20] m5 (vm_qv (fun m6 =>
              ((vm_32 (v3 + 1))) ∧
              ku5_readSide_2 v1 v2 (v3 + 1) m6 Q)))))))))))))) : ku5_readSide_2 v1 v2 v3 m Q := by
  show vm_G 72 2 [some (vm_r 19), some (vm_i v1), some (vm_i v2), some (vm_i v3)] [] m (vm_qi Q)
  refine vm_gp [(.iload 3, 0, 0, []), (.iconst 6, 0, 0, [])] (pc1 := 5) (ls1 := [some (vm_r 19), some (vm_i v1), some (vm_i v2), some (vm_i v3)]) (st1 := [vm_i 6, vm_i v3]) (m1 := m) (ob := true) (by decide +kernel) rfl rfl ?_
  refine vm_gj (c := 6 ≤ v3) (t := 82) (e := 8) (i := (.if_icmp .ge 0, 82, 0, [])) (len := 3) (st1 := []) (by decide +kernel) rfl rfl (fun c1 => ?_) (fun c1 => ?_)
  · replace h := h.1 c1
    refine vm_gp [(.iconst 1, 0, 0, [])] (pc1 := 83) (ls1 := [some (vm_r 19), some (vm_i v1), some (vm_i v2), some (vm_i v3)]) (st1 := [vm_i 1]) (m1 := m) (ob := true) (by decide +kernel) rfl rfl ?_
    exact vm_gr (r := some (vm_i 1)) (i := (.ireturn, 2, 0, [])) (len := 1) (by decide +kernel) rfl rfl (by decide) ⟨_, rfl, h⟩
  · replace h := h.2 c1
    refine vm_gp [(.aload 0, 0, 0, []), (.getfield 2, 5, 0, [(20, 0)]), (.ldc 0, 10, 0, [])] (pc1 := 14) (ls1 := [some (vm_r 19), some (vm_i v1), some (vm_i v2), some (vm_i v3)]) (st1 := [vm_r (1000 + 10), vm_r 20]) (m1 := m) (ob := ((true && vm_is 19 5) && true)) (by decide +kernel) rfl (vm_u (vm_u rfl (by decide +kernel)) rfl) ?_
    refine vm_gc (g := 90) (na := 2) (av := [vm_r 20, vm_r (1000 + 10)]) (rest := []) (i := (.invokevirtual 0, 90, 2, [])) (len := 3) (by decide +kernel) rfl rfl rfl (by decide +kernel) (by decide +kernel) rfl rfl (vm_u (vm_okh_v (c := 8) (by decide +kernel) (by decide +kernel)) (show vm_okn 90 2 0 0 0 2 = true by decide +kernel)) ?_
    refine vm_G.mono h ?_
    rintro _ m1 ⟨z1, rfl, h⟩
    show vm_G 72 17 [some (vm_r 19), some (vm_i v1), some (vm_i v2), some (vm_i v3)] [vm_i z1] m1 _
    refine vm_gj (c := z1 = 0) (t := 34) (e := 20) (i := (.ifCond .eq 0, 34, 0, [])) (len := 3) (st1 := []) (by decide +kernel) rfl rfl (fun c2 => ?_) (fun c2 => ?_)
    · replace h := h.1 c2
      refine vm_gp [(.aload 0, 0, 0, []), (.getfield 2, 5, 0, [(20, 0)]), (.iconst 0, 0, 0, []), (.iconst 9, 0, 0, [])] (pc1 := 41) (ls1 := [some (vm_r 19), some (vm_i v1), some (vm_i v2), some (vm_i v3)]) (st1 := [vm_i 9, vm_i 0, vm_r 20]) (m1 := m1) (ob := ((true && vm_is 19 5) && true)) (by decide +kernel) rfl (vm_u (vm_u rfl (by decide +kernel)) rfl) ?_
      refine vm_gc (g := 91) (na := 3) (av := [vm_r 20, vm_i 0, vm_i 9]) (rest := []) (i := (.invokevirtual 0, 91, 3, [])) (len := 3) (by decide +kernel) rfl rfl rfl (by decide +kernel) (by decide +kernel) rfl rfl (vm_u (vm_okh_v (c := 8) (by decide +kernel) (by decide +kernel)) (show vm_okn 91 3 0 0 0 3 = true by decide +kernel)) ?_
      refine vm_G.mono h ?_
      rintro _ m2 ⟨z2, rfl, h⟩
      show vm_G 72 44 [some (vm_r 19), some (vm_i v1), some (vm_i v2), some (vm_i v3)] [vm_i z2] m2 _
      refine vm_gj (c := z2 = 0) (t := 67) (e := 47) (i := (.ifCond .eq 0, 67, 0, [])) (len := 3) (st1 := []) (by decide +kernel) rfl rfl (fun c3 => ?_) (fun c3 => ?_)
      · replace h := h.1 c3
        refine vm_gp [(.iconst 0, 0, 0, [])] (pc1 := 68) (ls1 := [some (vm_r 19), some (vm_i v1), some (vm_i v2), some (vm_i v3)]) (st1 := [vm_i 0]) (m1 := m2) (ob := true) (by decide +kernel) rfl rfl ?_
        exact vm_gr (r := some (vm_i 0)) (i := (.ireturn, 2, 0, [])) (len := 1) (by decide +kernel) rfl rfl (by decide) ⟨_, rfl, h⟩
      · replace h := h.2 c3
        refine vm_gp [(.aload 0, 0, 0, []), (.getfield 2, 5, 2, [(6, 0)]), (.iload 1, 0, 0, []), (.iload 2, 0, 0, []), (.iload 3, 0, 0, []), (.aload 0, 0, 0, []), (.getfield 2, 5, 0, [(20, 0)]), (.getfield 0, 8, 4, [])] (pc1 := 61) (ls1 := [some (vm_r 19), some (vm_i v1), some (vm_i v2), some (vm_i v3)]) (st1 := [vm_i (m2 20 4), vm_i v3, vm_i v2, vm_i v1, vm_r 6]) (m1 := m2) (ob := (((((true && vm_is 19 5) && true) && vm_is 19 5) && true) && vm_is 20 8)) (by decide +kernel) rfl (vm_u (vm_u (vm_u (vm_u (vm_u rfl (by decide +kernel)) rfl) (by decide +kernel)) rfl) (by decide +kernel)) ?_
        refine vm_gc (g := 5) (na := 5) (av := [vm_r 6, vm_i v1, vm_i v2, vm_i v3, vm_i (m2 20 4)]) (rest := []) (i := (.invokevirtual 0, 5, 5, [])) (len := 3) (by decide +kernel) rfl rfl rfl (by decide +kernel) (by decide +kernel) rfl rfl (vm_u (vm_okh_v (c := 0) (by decide +kernel) (by decide +kernel)) (show vm_okn 5 5 0 0 0 5 = true by decide +kernel)) ?_
        refine vm_G.mono h ?_
        rintro _ m3 ⟨rfl, h⟩
        show vm_G 72 64 [some (vm_r 19), some (vm_i v1), some (vm_i v2), some (vm_i v3)] [] m3 _
        refine vm_gp [(.goto 0, 69, 0, []), (.aload 0, 0, 0, []), (.getfield 2, 5, 0, [(20, 0)])] (pc1 := 73) (ls1 := [some (vm_r 19), some (vm_i v1), some (vm_i v2), some (vm_i v3)]) (st1 := [vm_r 20]) (m1 := m3) (ob := ((true && vm_is 19 5) && true)) (by decide +kernel) rfl (vm_u (vm_u rfl (by decide +kernel)) rfl) ?_
        refine vm_gc (g := 89) (na := 1) (av := [vm_r 20]) (rest := []) (i := (.invokevirtual 0, 89, 1, [])) (len := 3) (by decide +kernel) rfl rfl rfl (by decide +kernel) (by decide +kernel) rfl rfl (vm_u (vm_okh_v (c := 8) (by decide +kernel) (by decide +kernel)) (show vm_okn 89 1 0 0 0 1 = true by decide +kernel)) ?_
        refine vm_G.mono h ?_
        rintro _ m4 ⟨rfl, h⟩
        show vm_G 72 76 [some (vm_r 19), some (vm_i v1), some (vm_i v2), some (vm_i v3)] [] m4 _
        obtain ⟨o10_0, h⟩ := h
        refine vm_gp [(.iinc 3 1, 0, 0, []), (.goto 0, 2, 0, [])] (pc1 := 2) (ls1 := [some (vm_r 19), some (vm_i v1), some (vm_i v2), some (vm_i (v3 + 1))]) (st1 := []) (m1 := m4) (ob := (true && decide (vm_32 (v3 + 1)))) (by decide +kernel) rfl (vm_t rfl o10_0) ?_
        exact h
    · replace h := h.2 c2
      refine vm_gp [(.aload 0, 0, 0, []), (.getfield 2, 5, 2, [(6, 0)]), (.iload 1, 0, 0, []), (.iload 2, 0, 0, []), (.iload 3, 0, 0, []), (.iconst (-1), 0, 0, [])] (pc1 := 28) (ls1 := [some (vm_r 19), some (vm_i v1), some (vm_i v2), some (vm_i v3)]) (st1 := [vm_i (-1), vm_i v3, vm_i v2, vm_i v1, vm_r 6]) (m1 := m1) (ob := ((true && vm_is 19 5) && true)) (by decide +kernel) rfl (vm_u (vm_u rfl (by decide +kernel)) rfl) ?_
      refine vm_gc (g := 5) (na := 5) (av := [vm_r 6, vm_i v1, vm_i v2, vm_i v3, vm_i (-1)]) (rest := []) (i := (.invokevirtual 0, 5, 5, [])) (len := 3) (by decide +kernel) rfl rfl rfl (by decide +kernel) (by decide +kernel) rfl rfl (vm_u (vm_okh_v (c := 0) (by decide +kernel) (by decide +kernel)) (show vm_okn 5 5 0 0 0 5 = true by decide +kernel)) ?_
      refine vm_G.mono h ?_
      rintro _ m5 ⟨rfl, h⟩
      show vm_G 72 31 [some (vm_r 19), some (vm_i v1), some (vm_i v2), some (vm_i v3)] [] m5 _
      refine vm_gp [(.goto 0, 69, 0, []), (.aload 0, 0, 0, []), (.getfield 2, 5, 0, [(20, 0)])] (pc1 := 73) (ls1 := [some (vm_r 19), some (vm_i v1), some (vm_i v2), some (vm_i v3)]) (st1 := [vm_r 20]) (m1 := m5) (ob := ((true && vm_is 19 5) && true)) (by decide +kernel) rfl (vm_u (vm_u rfl (by decide +kernel)) rfl) ?_
      refine vm_gc (g := 89) (na := 1) (av := [vm_r 20]) (rest := []) (i := (.invokevirtual 0, 89, 1, [])) (len := 3) (by decide +kernel) rfl rfl rfl (by decide +kernel) (by decide +kernel) rfl rfl (vm_u (vm_okh_v (c := 8) (by decide +kernel) (by decide +kernel)) (show vm_okn 89 1 0 0 0 1 = true by decide +kernel)) ?_
      refine vm_G.mono h ?_
      rintro _ m6 ⟨rfl, h⟩
      show vm_G 72 76 [some (vm_r 19), some (vm_i v1), some (vm_i v2), some (vm_i v3)] [] m6 _
      obtain ⟨o13_0, h⟩ := h
      refine vm_gp [(.iinc 3 1, 0, 0, []), (.goto 0, 2, 0, [])] (pc1 := 2) (ls1 := [some (vm_r 19), some (vm_i v1), some (vm_i v2), some (vm_i (v3 + 1))]) (st1 := []) (m1 := m6) (ob := (true && decide (vm_32 (v3 + 1)))) (by decide +kernel) rfl (vm_t rfl o13_0) ?_
      exact h
abbrev ku5_readPair_0  (m : vm_M) (Q : Int → vm_M → Prop) : Prop := vm_G 73 0 [some (vm_r 19), none, none, none] [] m (vm_qi Q)
set_option maxRecDepth 20000 in
theorem ru5_readPair_0  {m : vm_M} {Q : Int → vm_M → Prop}  (h :
    (vm_C 74 [vm_r 19, vm_r (1000 + 11)] m (vm_qi (fun z1 m1 =>
      ((¬ z1 = 0 →
        (vm_C 92 [vm_r 20] m1 (vm_qi (fun z2 m2 =>
          (vm_C 75 [vm_r 19, vm_i z2] m2 (vm_qi (fun z3 m3 =>
            ((¬ z3 = 0 →
              (vm_C 92 [vm_r 20] m3 (vm_qi (fun z4 m4 =>
                (vm_C 75 [vm_r 19, vm_i z4] m4 (vm_qi (fun z5 m5 =>
                  ((¬ z5 = 0 →
                    (vm_C 90 [vm_r 20, vm_r (1000 + 12)] m5 (vm_qi (fun z6 m6 =>
                      ((z6 = 0 →
                        (vm_C 74 [vm_r 19, vm_r (1000 + 13)] m6 (vm_qi (fun z7 m7 =>
                          ((z7 = 0 →
                            Q 0 m7) ∧ (¬ z7 = 0 →
                            (vm_C 91 [vm_r 20, vm_i 0, vm_i 9] m7 (vm_qi (fun z8 m8 =>
                              ((¬ z8 = 0 →
                                ((vm_32 (z2 * 26)) ∧ (vm_32 ((z2 * 26) + z4))) ∧
                                ((z6 = 0 →
                                  ((0 ≤ ((z2 * 26) + z4) ∧ ((z2 * 26) + z4) < 676)) ∧
                                  (vm_C 89 [vm_r 20] (vm_st m8 16 ((z2 * 26) + z4) (m8 20 4)) (vm_qv (fun m9 =>
                                    (vm_C 76 [vm_r 19] m9 (vm_qi (fun z10 m10 =>
                                      ((z10 = 0 ∨ z10 = 1)) ∧
                                      Q z10 m10))))))) ∧ (¬ z6 = 0 →
                                  ((vm_32 (-(m8 20 4))) ∧ (0 ≤ ((z2 * 26) + z4) ∧ ((z2 * 26) + z4) < 676)) ∧
                                  (vm_C 89 [vm_r 20] (vm_st m8 16 ((z2 * 26) + z4) (-(m8 20 4))) (vm_qv (fun m11 =>
                                    (vm_C 76 [vm_r 19] m11 (vm_qi (fun z12 m12 =>
                                      ((z12 = 0 ∨ z12 = 1)) ∧
                                      Q z12 m12))))))))) ∧ (¬ ¬ z8 = 0 →
                                Q 0 m8))))))))))) ∧ (¬ z6 = 0 →
                        (vm_C 74 [vm_r 19, vm_r (1000 + 12)] m6 (vm_qi (fun z13 m13 =>
                          ((z13 = 0 →
                            Q 0 m13) ∧ (¬ z13 = 0 →
                            (vm_C 91 [vm_r 20, vm_i 0, vm_i 9] m13 (vm_qi (fun z14 m14 =>
                              ((¬ z14 = 0 →
                                ((vm_32 (z2 * 26)) ∧ (vm_32 ((z2 * 26) + z4))) ∧
                                ((z6 = 0 →
                                  ((0 ≤ ((z2 * 26) + z4) ∧ ((z2 * 26) + z4) < 676)) ∧
                                  (vm_C 89 [vm_r 20] (vm_st m14 16 ((z2 * 26) + z4) (m14 20 4)) (vm_qv (fun m15 =>
                                    (vm_C 76 [vm_r 19] m15 (vm_qi (fun z16 m16 =>
                                      ((z16 = 0 ∨ z16 = 1)) ∧
                                      Q z16 m16))))))) ∧ (¬ z6 = 0 →
                                  ((vm_32 (-(m14 20 4))) ∧ (0 ≤ ((z2 * 26) + z4) ∧ ((z2 * 26) + z4) < 676)) ∧
                                  (vm_C 89 [vm_r 20] (vm_st m14 16 ((z2 * 26) + z4) (-(m14 20 4))) (vm_qv (fun m17 =>
                                    (vm_C 76 [vm_r 19] m17 (vm_qi (fun z18 m18 =>
                                      ((z18 = 0 ∨ z18 = 1)) ∧
                                      Q z18 m18))))))))) ∧ (¬ ¬ z14 = 0 →
                                Q 0 m14)))))))))))))))) ∧ (¬ ¬ z5 = 0 →
                    Q 0 m5))))))))) ∧ (¬ ¬ z3 = 0 →
              Q 0 m3))))))))) ∧ (¬ ¬ z1 = 0 →
        Q 0 m1)))))) : vm_C 73 [vm_r 19] m (vm_qi Q) := by
  show vm_G 73 0 [some (vm_r 19), none, none, none] [] m (vm_qi Q)
  refine vm_gp [(.aload 0, 0, 0, []), (.ldc 0, 11, 0, [])] (pc1 := 3) (ls1 := [some (vm_r 19), none, none, none]) (st1 := [vm_r (1000 + 11), vm_r 19]) (m1 := m) (ob := true) (by decide +kernel) rfl rfl ?_
  refine vm_gc (g := 74) (na := 2) (av := [vm_r 19, vm_r (1000 + 11)]) (rest := []) (i := (.invokevirtual 0, 74, 2, [])) (len := 3) (by decide +kernel) rfl rfl rfl (by decide +kernel) (by decide +kernel) rfl rfl (vm_u (vm_okh_v (c := 5) (by decide +kernel) (by decide +kernel)) (show vm_okn 74 2 0 0 0 2 = true by decide +kernel)) ?_
  refine vm_G.mono h ?_
  rintro _ m1 ⟨z1, rfl, h⟩
  show vm_G 73 6 [some (vm_r 19), none, none, none] [vm_i z1] m1 _
  refine vm_gj (c := ¬ z1 = 0) (t := 11) (e := 9) (i := (.ifCond .ne 0, 11, 0, [])) (len := 3) (st1 := []) (by decide +kernel) rfl rfl (fun c1 => ?_) (fun c1 => ?_)
  · replace h := h.1 c1
    refine vm_gp [(.aload 0, 0, 0, []), (.getfield 2, 5, 0, [(20, 0)])] (pc1 := 15) (ls1 := [some (vm_r 19), none, none, none]) (st1 := [vm_r 20]) (m1 := m1) (ob := ((true && vm_is 19 5) && true)) (by decide +kernel) rfl (vm_u (vm_u rfl (by decide +kernel)) rfl) ?_
    refine vm_gc (g := 92) (na := 1) (av := [vm_r 20]) (rest := []) (i := (.invokevirtual 0, 92, 1, [])) (len := 3) (by decide +kernel) rfl rfl rfl (by decide +kernel) (by decide +kernel) rfl rfl (vm_u (vm_okh_v (c := 8) (by decide +kernel) (by decide +kernel)) (show vm_okn 92 1 0 0 0 1 = true by decide +kernel)) ?_
    refine vm_G.mono h ?_
    rintro _ m2 ⟨z2, rfl, h⟩
    show vm_G 73 18 [some (vm_r 19), none, none, none] [vm_i z2] m2 _
    refine vm_gp [(.istore 1, 0, 0, []), (.aload 0, 0, 0, []), (.iload 1, 0, 0, [])] (pc1 := 21) (ls1 := [some (vm_r 19), some (vm_i z2), none, none]) (st1 := [vm_i z2, vm_r 19]) (m1 := m2) (ob := true) (by decide +kernel) rfl rfl ?_
    refine vm_gc (g := 75) (na := 2) (av := [vm_r 19, vm_i z2]) (rest := []) (i := (.invokevirtual 0, 75, 2, [])) (len := 3) (by decide +kernel) rfl rfl rfl (by decide +kernel) (by decide +kernel) rfl rfl (vm_u (vm_okh_v (c := 5) (by decide +kernel) (by decide +kernel)) (show vm_okn 75 2 0 0 0 2 = true by decide +kernel)) ?_
    refine vm_G.mono h ?_
    rintro _ m3 ⟨z3, rfl, h⟩
    show vm_G 73 24 [some (vm_r 19), some (vm_i z2), none, none] [vm_i z3] m3 _
    refine vm_gj (c := ¬ z3 = 0) (t := 29) (e := 27) (i := (.ifCond .ne 0, 29, 0, [])) (len := 3) (st1 := []) (by decide +kernel) rfl rfl (fun c2 => ?_) (fun c2 => ?_)
    · replace h := h.1 c2
      refine vm_gp [(.aload 0, 0, 0, []), (.getfield 2, 5, 0, [(20, 0)])] (pc1 := 33) (ls1 := [some (vm_r 19), some (vm_i z2), none, none]) (st1 := [vm_r 20]) (m1 := m3) (ob := ((true && vm_is 19 5) && true)) (by decide +kernel) rfl (vm_u (vm_u rfl (by decide +kernel)) rfl) ?_
      refine vm_gc (g := 92) (na := 1) (av := [vm_r 20]) (rest := []) (i := (.invokevirtual 0, 92, 1, [])) (len := 3) (by decide +kernel) rfl rfl rfl (by decide +kernel) (by decide +kernel) rfl rfl (vm_u (vm_okh_v (c := 8) (by decide +kernel) (by decide +kernel)) (show vm_okn 92 1 0 0 0 1 = true by decide +kernel)) ?_
      refine vm_G.mono h ?_
      rintro _ m4 ⟨z4, rfl, h⟩
      show vm_G 73 36 [some (vm_r 19), some (vm_i z2), none, none] [vm_i z4] m4 _
      refine vm_gp [(.istore 2, 0, 0, []), (.aload 0, 0, 0, []), (.iload 2, 0, 0, [])] (pc1 := 39) (ls1 := [some (vm_r 19), some (vm_i z2), some (vm_i z4), none]) (st1 := [vm_i z4, vm_r 19]) (m1 := m4) (ob := true) (by decide +kernel) rfl rfl ?_
      refine vm_gc (g := 75) (na := 2) (av := [vm_r 19, vm_i z4]) (rest := []) (i := (.invokevirtual 0, 75, 2, [])) (len := 3) (by decide +kernel) rfl rfl rfl (by decide +kernel) (by decide +kernel) rfl rfl (vm_u (vm_okh_v (c := 5) (by decide +kernel) (by decide +kernel)) (show vm_okn 75 2 0 0 0 2 = true by decide +kernel)) ?_
      refine vm_G.mono h ?_
      rintro _ m5 ⟨z5, rfl, h⟩
      show vm_G 73 42 [some (vm_r 19), some (vm_i z2), some (vm_i z4), none] [vm_i z5] m5 _
      refine vm_gj (c := ¬ z5 = 0) (t := 47) (e := 45) (i := (.ifCond .ne 0, 47, 0, [])) (len := 3) (st1 := []) (by decide +kernel) rfl rfl (fun c3 => ?_) (fun c3 => ?_)
      · replace h := h.1 c3
        refine vm_gp [(.aload 0, 0, 0, []), (.getfield 2, 5, 0, [(20, 0)]), (.ldc 0, 12, 0, [])] (pc1 := 53) (ls1 := [some (vm_r 19), some (vm_i z2), some (vm_i z4), none]) (st1 := [vm_r (1000 + 12), vm_r 20]) (m1 := m5) (ob := ((true && vm_is 19 5) && true)) (by decide +kernel) rfl (vm_u (vm_u rfl (by decide +kernel)) rfl) ?_
        refine vm_gc (g := 90) (na := 2) (av := [vm_r 20, vm_r (1000 + 12)]) (rest := []) (i := (.invokevirtual 0, 90, 2, [])) (len := 3) (by decide +kernel) rfl rfl rfl (by decide +kernel) (by decide +kernel) rfl rfl (vm_u (vm_okh_v (c := 8) (by decide +kernel) (by decide +kernel)) (show vm_okn 90 2 0 0 0 2 = true by decide +kernel)) ?_
        refine vm_G.mono h ?_
        rintro _ m6 ⟨z6, rfl, h⟩
        show vm_G 73 56 [some (vm_r 19), some (vm_i z2), some (vm_i z4), none] [vm_i z6] m6 _
        refine vm_gp [(.istore 3, 0, 0, []), (.aload 0, 0, 0, []), (.iload 3, 0, 0, [])] (pc1 := 59) (ls1 := [some (vm_r 19), some (vm_i z2), some (vm_i z4), some (vm_i z6)]) (st1 := [vm_i z6, vm_r 19]) (m1 := m6) (ob := true) (by decide +kernel) rfl rfl ?_
        refine vm_gj (c := z6 = 0) (t := 67) (e := 62) (i := (.ifCond .eq 0, 67, 0, [])) (len := 3) (st1 := [vm_r 19]) (by decide +kernel) rfl rfl (fun c4 => ?_) (fun c4 => ?_)
        · replace h := h.1 c4
          refine vm_gp [(.ldc 0, 13, 0, [])] (pc1 := 69) (ls1 := [some (vm_r 19), some (vm_i z2), some (vm_i z4), some (vm_i z6)]) (st1 := [vm_r (1000 + 13), vm_r 19]) (m1 := m6) (ob := true) (by decide +kernel) rfl rfl ?_
          refine vm_gc (g := 74) (na := 2) (av := [vm_r 19, vm_r (1000 + 13)]) (rest := []) (i := (.invokevirtual 0, 74, 2, [])) (len := 3) (by decide +kernel) rfl rfl rfl (by decide +kernel) (by decide +kernel) rfl rfl (vm_u (vm_okh_v (c := 5) (by decide +kernel) (by decide +kernel)) (show vm_okn 74 2 0 0 0 2 = true by decide +kernel)) ?_
          refine vm_G.mono h ?_
          rintro _ m7 ⟨z7, rfl, h⟩
          show vm_G 73 72 [some (vm_r 19), some (vm_i z2), some (vm_i z4), some (vm_i z6)] [vm_i z7] m7 _
          refine vm_gj (c := z7 = 0) (t := 88) (e := 75) (i := (.ifCond .eq 0, 88, 0, [])) (len := 3) (st1 := []) (by decide +kernel) rfl rfl (fun c5 => ?_) (fun c5 => ?_)
          · replace h := h.1 c5
            refine vm_gp [(.iconst 0, 0, 0, [])] (pc1 := 89) (ls1 := [some (vm_r 19), some (vm_i z2), some (vm_i z4), some (vm_i z6)]) (st1 := [vm_i 0]) (m1 := m7) (ob := true) (by decide +kernel) rfl rfl ?_
            exact vm_gr (r := some (vm_i 0)) (i := (.ireturn, 2, 0, [])) (len := 1) (by decide +kernel) rfl rfl (by decide) ⟨_, rfl, h⟩
          · replace h := h.2 c5
            refine vm_gp [(.aload 0, 0, 0, []), (.getfield 2, 5, 0, [(20, 0)]), (.iconst 0, 0, 0, []), (.iconst 9, 0, 0, [])] (pc1 := 82) (ls1 := [some (vm_r 19), some (vm_i z2), some (vm_i z4), some (vm_i z6)]) (st1 := [vm_i 9, vm_i 0, vm_r 20]) (m1 := m7) (ob := ((true && vm_is 19 5) && true)) (by decide +kernel) rfl (vm_u (vm_u rfl (by decide +kernel)) rfl) ?_
            refine vm_gc (g := 91) (na := 3) (av := [vm_r 20, vm_i 0, vm_i 9]) (rest := []) (i := (.invokevirtual 0, 91, 3, [])) (len := 3) (by decide +kernel) rfl rfl rfl (by decide +kernel) (by decide +kernel) rfl rfl (vm_u (vm_okh_v (c := 8) (by decide +kernel) (by decide +kernel)) (show vm_okn 91 3 0 0 0 3 = true by decide +kernel)) ?_
            refine vm_G.mono h ?_
            rintro _ m8 ⟨z8, rfl, h⟩
            show vm_G 73 85 [some (vm_r 19), some (vm_i z2), some (vm_i z4), some (vm_i z6)] [vm_i z8] m8 _
            refine vm_gj (c := ¬ z8 = 0) (t := 90) (e := 88) (i := (.ifCond .ne 0, 90, 0, [])) (len := 3) (st1 := []) (by decide +kernel) rfl rfl (fun c6 => ?_) (fun c6 => ?_)
            · replace h := h.1 c6
              obtain ⟨⟨o16_0, o16_1⟩, h⟩ := h
              refine vm_gp [(.aload 0, 0, 0, []), (.getfield 2, 5, 3, [(14, 0)]), (.getfield 2, 4, 1, [(2, 1)]), (.iload 1, 0, 0, []), (.iconst 26, 0, 0, []), (.imul, 0, 0, []), (.iload 2, 0, 0, []), (.iadd, 0, 0, []), (.iload 3, 0, 0, [])] (pc1 := 104) (ls1 := [some (vm_r 19), some (vm_i z2), some (vm_i z4), some (vm_i z6)]) (st1 := [vm_i z6, vm_i ((z2 * 26) + z4), vm_r 16]) (m1 := m8) (ob := ((((((true && vm_is 19 5) && true) && vm_is 14 4) && true) && decide (vm_32 (z2 * 26))) && decide (vm_32 ((z2 * 26) + z4)))) (by decide +kernel) rfl (vm_t (vm_t (vm_u (vm_u (vm_u (vm_u rfl (by decide +kernel)) rfl) (by decide +kernel)) rfl) o16_0) o16_1) ?_
              refine vm_gj (c := z6 = 0) (t := 118) (e := 107) (i := (.ifCond .eq 0, 118, 0, [])) (len := 3) (st1 := [vm_i ((z2 * 26) + z4), vm_r 16]) (by decide +kernel) rfl rfl (fun c7 => ?_) (fun c7 => ?_)
              · replace h := h.1 c7
                obtain ⟨o17_0, h⟩ := h
                refine vm_gp [(.aload 0, 0, 0, []), (.getfield 2, 5, 0, [(20, 0)]), (.getfield 0, 8, 4, []), (.iastore, 676, 0, []), (.aload 0, 0, 0, []), (.getfield 2, 5, 0, [(20, 0)])] (pc1 := 130) (ls1 := [some (vm_r 19), some (vm_i z2), some (vm_i z4), some (vm_i z6)]) (st1 := [vm_r 20]) (m1 := (vm_st m8 16 ((z2 * 26) + z4) (m8 20 4))) (ob := (((((((true && vm_is 19 5) && true) && vm_is 20 8) && vm_ar 16 100 676) && decide (0 ≤ ((z2 * 26) + z4) ∧ ((z2 * 26) + z4) < 676)) && vm_is 19 5) && true)) (by decide +kernel) rfl (vm_u (vm_u (vm_t (vm_u (vm_u (vm_u (vm_u rfl (by decide +kernel)) rfl) (by decide +kernel)) (by decide +kernel)) o17_0) (by decide +kernel)) rfl) ?_
                refine vm_gc (g := 89) (na := 1) (av := [vm_r 20]) (rest := []) (i := (.invokevirtual 0, 89, 1, [])) (len := 3) (by decide +kernel) rfl rfl rfl (by decide +kernel) (by decide +kernel) rfl rfl (vm_u (vm_okh_v (c := 8) (by decide +kernel) (by decide +kernel)) (show vm_okn 89 1 0 0 0 1 = true by decide +kernel)) ?_
                refine vm_G.mono h ?_
                rintro _ m9 ⟨rfl, h⟩
                show vm_G 73 133 [some (vm_r 19), some (vm_i z2), some (vm_i z4), some (vm_i z6)] [] m9 _
                refine vm_gp [(.aload 0, 0, 0, [])] (pc1 := 134) (ls1 := [some (vm_r 19), some (vm_i z2), some (vm_i z4), some (vm_i z6)]) (st1 := [vm_r 19]) (m1 := m9) (ob := true) (by decide +kernel) rfl rfl ?_
                refine vm_gc (g := 76) (na := 1) (av := [vm_r 19]) (rest := []) (i := (.invokevirtual 0, 76, 1, [])) (len := 3) (by decide +kernel) rfl rfl rfl (by decide +kernel) (by decide +kernel) rfl rfl (vm_u (vm_okh_v (c := 5) (by decide +kernel) (by decide +kernel)) (show vm_okn 76 1 0 0 0 1 = true by decide +kernel)) ?_
                refine vm_G.mono h ?_
                rintro _ m10 ⟨z10, rfl, h⟩
                show vm_G 73 137 [some (vm_r 19), some (vm_i z2), some (vm_i z4), some (vm_i z6)] [vm_i z10] m10 _
                exact vm_gr (r := some (vm_i z10)) (i := (.ireturn, 2, 0, [])) (len := 1) (by decide +kernel) rfl rfl (decide_eq_true h.1) ⟨_, rfl, h.2⟩
              · replace h := h.2 c7
                obtain ⟨⟨o20_0, o20_1⟩, h⟩ := h
                refine vm_gp [(.aload 0, 0, 0, []), (.getfield 2, 5, 0, [(20, 0)]), (.getfield 0, 8, 4, []), (.ineg, 0, 0, []), (.goto 0, 125, 0, []), (.iastore, 676, 0, []), (.aload 0, 0, 0, []), (.getfield 2, 5, 0, [(20, 0)])] (pc1 := 130) (ls1 := [some (vm_r 19), some (vm_i z2), some (vm_i z4), some (vm_i z6)]) (st1 := [vm_r 20]) (m1 := (vm_st m8 16 ((z2 * 26) + z4) (-(m8 20 4)))) (ob := ((((((((true && vm_is 19 5) && true) && vm_is 20 8) && decide (vm_32 (-(m8 20 4)))) && vm_ar 16 100 676) && decide (0 ≤ ((z2 * 26) + z4) ∧ ((z2 * 26) + z4) < 676)) && vm_is 19 5) && true)) (by decide +kernel) rfl (vm_u (vm_u (vm_t (vm_u (vm_t (vm_u (vm_u (vm_u rfl (by decide +kernel)) rfl) (by decide +kernel)) o20_0) (by decide +kernel)) o20_1) (by decide +kernel)) rfl) ?_
                refine vm_gc (g := 89) (na := 1) (av := [vm_r 20]) (rest := []) (i := (.invokevirtual 0, 89, 1, [])) (len := 3) (by decide +kernel) rfl rfl rfl (by decide +kernel) (by decide +kernel) rfl rfl (vm_u (vm_okh_v (c := 8) (by decide +kernel) (by decide +kernel)) (show vm_okn 89 1 0 0 0 1 = true by decide +kernel)) ?_
                refine vm_G.mono h ?_
                rintro _ m11 ⟨rfl, h⟩
                show vm_G 73 133 [some (vm_r 19), some (vm_i z2), some (vm_i z4), some (vm_i z6)] [] m11 _
                refine vm_gp [(.aload 0, 0, 0, [])] (pc1 := 134) (ls1 := [some (vm_r 19), some (vm_i z2), some (vm_i z4), some (vm_i z6)]) (st1 := [vm_r 19]) (m1 := m11) (ob := true) (by decide +kernel) rfl rfl ?_
                refine vm_gc (g := 76) (na := 1) (av := [vm_r 19]) (rest := []) (i := (.invokevirtual 0, 76, 1, [])) (len := 3) (by decide +kernel) rfl rfl rfl (by decide +kernel) (by decide +kernel) rfl rfl (vm_u (vm_okh_v (c := 5) (by decide +kernel) (by decide +kernel)) (show vm_okn 76 1 0 0 0 1 = true by decide +kernel)) ?_
                refine vm_G.mono h ?_
                rintro _ m12 ⟨z12, rfl, h⟩
                show vm_G 73 137 [some (vm_r 19), some (vm_i z2), some (vm_i z4), some (vm_i z6)] [vm_i z12] m12 _
                exact vm_gr (r := some (vm_i z12)) (i := (.ireturn, 2, 0, [])) (len := 1) (by decide +kernel) rfl rfl (decide_eq_true h.1) ⟨_, rfl, h.2⟩
            · replace h := h.2 c6
              refine vm_gp [(.iconst 0, 0, 0, [])] (pc1 := 89) (ls1 := [some (vm_r 19), some (vm_i z2), some (vm_i z4), some (vm_i z6)]) (st1 := [vm_i 0]) (m1 := m8) (ob := true) (by decide +kernel) rfl rfl ?_
              exact vm_gr (r := some (vm_i 0)) (i := (.ireturn, 2, 0, [])) (len := 1) (by decide +kernel) rfl rfl (by decide) ⟨_, rfl, h⟩
        · replace h := h.2 c4
          refine vm_gp [(.ldc 0, 12, 0, []), (.goto 0, 69, 0, [])] (pc1 := 69) (ls1 := [some (vm_r 19), some (vm_i z2), some (vm_i z4), some (vm_i z6)]) (st1 := [vm_r (1000 + 12), vm_r 19]) (m1 := m6) (ob := true) (by decide +kernel) rfl rfl ?_
          refine vm_gc (g := 74) (na := 2) (av := [vm_r 19, vm_r (1000 + 12)]) (rest := []) (i := (.invokevirtual 0, 74, 2, [])) (len := 3) (by decide +kernel) rfl rfl rfl (by decide +kernel) (by decide +kernel) rfl rfl (vm_u (vm_okh_v (c := 5) (by decide +kernel) (by decide +kernel)) (show vm_okn 74 2 0 0 0 2 = true by decide +kernel)) ?_
          refine vm_G.mono h ?_
          rintro _ m13 ⟨z13, rfl, h⟩
          show vm_G 73 72 [some (vm_r 19), some (vm_i z2), some (vm_i z4), some (vm_i z6)] [vm_i z13] m13 _
          refine vm_gj (c := z13 = 0) (t := 88) (e := 75) (i := (.ifCond .eq 0, 88, 0, [])) (len := 3) (st1 := []) (by decide +kernel) rfl rfl (fun c8 => ?_) (fun c8 => ?_)
          · replace h := h.1 c8
            refine vm_gp [(.iconst 0, 0, 0, [])] (pc1 := 89) (ls1 := [some (vm_r 19), some (vm_i z2), some (vm_i z4), some (vm_i z6)]) (st1 := [vm_i 0]) (m1 := m13) (ob := true) (by decide +kernel) rfl rfl ?_
            exact vm_gr (r := some (vm_i 0)) (i := (.ireturn, 2, 0, [])) (len := 1) (by decide +kernel) rfl rfl (by decide) ⟨_, rfl, h⟩
          · replace h := h.2 c8
            refine vm_gp [(.aload 0, 0, 0, []), (.getfield 2, 5, 0, [(20, 0)]), (.iconst 0, 0, 0, []), (.iconst 9, 0, 0, [])] (pc1 := 82) (ls1 := [some (vm_r 19), some (vm_i z2), some (vm_i z4), some (vm_i z6)]) (st1 := [vm_i 9, vm_i 0, vm_r 20]) (m1 := m13) (ob := ((true && vm_is 19 5) && true)) (by decide +kernel) rfl (vm_u (vm_u rfl (by decide +kernel)) rfl) ?_
            refine vm_gc (g := 91) (na := 3) (av := [vm_r 20, vm_i 0, vm_i 9]) (rest := []) (i := (.invokevirtual 0, 91, 3, [])) (len := 3) (by decide +kernel) rfl rfl rfl (by decide +kernel) (by decide +kernel) rfl rfl (vm_u (vm_okh_v (c := 8) (by decide +kernel) (by decide +kernel)) (show vm_okn 91 3 0 0 0 3 = true by decide +kernel)) ?_
            refine vm_G.mono h ?_
            rintro _ m14 ⟨z14, rfl, h⟩
            show vm_G 73 85 [some (vm_r 19), some (vm_i z2), some (vm_i z4), some (vm_i z6)] [vm_i z14] m14 _
            refine vm_gj (c := ¬ z14 = 0) (t := 90) (e := 88) (i := (.ifCond .ne 0, 90, 0, [])) (len := 3) (st1 := []) (by decide +kernel) rfl rfl (fun c9 => ?_) (fun c9 => ?_)
            · replace h := h.1 c9
              obtain ⟨⟨o29_0, o29_1⟩, h⟩ := h
              refine vm_gp [(.aload 0, 0, 0, []), (.getfield 2, 5, 3, [(14, 0)]), (.getfield 2, 4, 1, [(2, 1)]), (.iload 1, 0, 0, []), (.iconst 26, 0, 0, []), (.imul, 0, 0, []), (.iload 2, 0, 0, []), (.iadd, 0, 0, []), (.iload 3, 0, 0, [])] (pc1 := 104) (ls1 := [some (vm_r 19), some (vm_i z2), some (vm_i z4), some (vm_i z6)]) (st1 := [vm_i z6, vm_i ((z2 * 26) + z4), vm_r 16]) (m1 := m14) (ob := ((((((true && vm_is 19 5) && true) && vm_is 14 4) && true) && decide (vm_32 (z2 * 26))) && decide (vm_32 ((z2 * 26) + z4)))) (by decide +kernel) rfl (vm_t (vm_t (vm_u (vm_u (vm_u (vm_u rfl (by decide +kernel)) rfl) (by decide +kernel)) rfl) o29_0) o29_1) ?_
              refine vm_gj (c := z6 = 0) (t := 118) (e := 107) (i := (.ifCond .eq 0, 118, 0, [])) (len := 3) (st1 := [vm_i ((z2 * 26) + z4), vm_r 16]) (by decide +kernel) rfl rfl (fun c10 => ?_) (fun c10 => ?_)
              · replace h := h.1 c10
                obtain ⟨o30_0, h⟩ := h
                refine vm_gp [(.aload 0, 0, 0, []), (.getfield 2, 5, 0, [(20, 0)]), (.getfield 0, 8, 4, []), (.iastore, 676, 0, []), (.aload 0, 0, 0, []), (.getfield 2, 5, 0, [(20, 0)])] (pc1 := 130) (ls1 := [some (vm_r 19), some (vm_i z2), some (vm_i z4), some (vm_i z6)]) (st1 := [vm_r 20]) (m1 := (vm_st m14 16 ((z2 * 26) + z4) (m14 20 4))) (ob := (((((((true && vm_is 19 5) && true) && vm_is 20 8) && vm_ar 16 100 676) && decide (0 ≤ ((z2 * 26) + z4) ∧ ((z2 * 26) + z4) < 676)) && vm_is 19 5) && true)) (by decide +kernel) rfl (vm_u (vm_u (vm_t (vm_u (vm_u (vm_u (vm_u rfl (by decide +kernel)) rfl) (by decide +kernel)) (by decide +kernel)) o30_0) (by decide +kernel)) rfl) ?_
                refine vm_gc (g := 89) (na := 1) (av := [vm_r 20]) (rest := []) (i := (.invokevirtual 0, 89, 1, [])) (len := 3) (by decide +kernel) rfl rfl rfl (by decide +kernel) (by decide +kernel) rfl rfl (vm_u (vm_okh_v (c := 8) (by decide +kernel) (by decide +kernel)) (show vm_okn 89 1 0 0 0 1 = true by decide +kernel)) ?_
                refine vm_G.mono h ?_
                rintro _ m15 ⟨rfl, h⟩
                show vm_G 73 133 [some (vm_r 19), some (vm_i z2), some (vm_i z4), some (vm_i z6)] [] m15 _
                refine vm_gp [(.aload 0, 0, 0, [])] (pc1 := 134) (ls1 := [some (vm_r 19), some (vm_i z2), some (vm_i z4), some (vm_i z6)]) (st1 := [vm_r 19]) (m1 := m15) (ob := true) (by decide +kernel) rfl rfl ?_
                refine vm_gc (g := 76) (na := 1) (av := [vm_r 19]) (rest := []) (i := (.invokevirtual 0, 76, 1, [])) (len := 3) (by decide +kernel) rfl rfl rfl (by decide +kernel) (by decide +kernel) rfl rfl (vm_u (vm_okh_v (c := 5) (by decide +kernel) (by decide +kernel)) (show vm_okn 76 1 0 0 0 1 = true by decide +kernel)) ?_
                refine vm_G.mono h ?_
                rintro _ m16 ⟨z16, rfl, h⟩
                show vm_G 73 137 [some (vm_r 19), some (vm_i z2), some (vm_i z4), some (vm_i z6)] [vm_i z16] m16 _
                exact vm_gr (r := some (vm_i z16)) (i := (.ireturn, 2, 0, [])) (len := 1) (by decide +kernel) rfl rfl (decide_eq_true h.1) ⟨_, rfl, h.2⟩
              · replace h := h.2 c10
                obtain ⟨⟨o33_0, o33_1⟩, h⟩ := h
                refine vm_gp [(.aload 0, 0, 0, []), (.getfield 2, 5, 0, [(20, 0)]), (.getfield 0, 8, 4, []), (.ineg, 0, 0, []), (.goto 0, 125, 0, []), (.iastore, 676, 0, []), (.aload 0, 0, 0, []), (.getfield 2, 5, 0, [(20, 0)])] (pc1 := 130) (ls1 := [some (vm_r 19), some (vm_i z2), some (vm_i z4), some (vm_i z6)]) (st1 := [vm_r 20]) (m1 := (vm_st m14 16 ((z2 * 26) + z4) (-(m14 20 4)))) (ob := ((((((((true && vm_is 19 5) && true) && vm_is 20 8) && decide (vm_32 (-(m14 20 4)))) && vm_ar 16 100 676) && decide (0 ≤ ((z2 * 26) + z4) ∧ ((z2 * 26) + z4) < 676)) && vm_is 19 5) && true)) (by decide +kernel) rfl (vm_u (vm_u (vm_t (vm_u (vm_t (vm_u (vm_u (vm_u rfl (by decide +kernel)) rfl) (by decide +kernel)) o33_0) (by decide +kernel)) o33_1) (by decide +kernel)) rfl) ?_
                refine vm_gc (g := 89) (na := 1) (av := [vm_r 20]) (rest := []) (i := (.invokevirtual 0, 89, 1, [])) (len := 3) (by decide +kernel) rfl rfl rfl (by decide +kernel) (by decide +kernel) rfl rfl (vm_u (vm_okh_v (c := 8) (by decide +kernel) (by decide +kernel)) (show vm_okn 89 1 0 0 0 1 = true by decide +kernel)) ?_
                refine vm_G.mono h ?_
                rintro _ m17 ⟨rfl, h⟩
                show vm_G 73 133 [some (vm_r 19), some (vm_i z2), some (vm_i z4), some (vm_i z6)] [] m17 _
                refine vm_gp [(.aload 0, 0, 0, [])] (pc1 := 134) (ls1 := [some (vm_r 19), some (vm_i z2), some (vm_i z4), some (vm_i z6)]) (st1 := [vm_r 19]) (m1 := m17) (ob := true) (by decide +kernel) rfl rfl ?_
                refine vm_gc (g := 76) (na := 1) (av := [vm_r 19]) (rest := []) (i := (.invokevirtual 0, 76, 1, [])) (len := 3) (by decide +kernel) rfl rfl rfl (by decide +kernel) (by decide +kernel) rfl rfl (vm_u (vm_okh_v (c := 5) (by decide +kernel) (by decide +kernel)) (show vm_okn 76 1 0 0 0 1 = true by decide +kernel)) ?_
                refine vm_G.mono h ?_
                rintro _ m18 ⟨z18, rfl, h⟩
                show vm_G 73 137 [some (vm_r 19), some (vm_i z2), some (vm_i z4), some (vm_i z6)] [vm_i z18] m18 _
                exact vm_gr (r := some (vm_i z18)) (i := (.ireturn, 2, 0, [])) (len := 1) (by decide +kernel) rfl rfl (decide_eq_true h.1) ⟨_, rfl, h.2⟩
            · replace h := h.2 c9
              refine vm_gp [(.iconst 0, 0, 0, [])] (pc1 := 89) (ls1 := [some (vm_r 19), some (vm_i z2), some (vm_i z4), some (vm_i z6)]) (st1 := [vm_i 0]) (m1 := m14) (ob := true) (by decide +kernel) rfl rfl ?_
              exact vm_gr (r := some (vm_i 0)) (i := (.ireturn, 2, 0, [])) (len := 1) (by decide +kernel) rfl rfl (by decide) ⟨_, rfl, h⟩
      · replace h := h.2 c3
        refine vm_gp [(.iconst 0, 0, 0, [])] (pc1 := 46) (ls1 := [some (vm_r 19), some (vm_i z2), some (vm_i z4), none]) (st1 := [vm_i 0]) (m1 := m5) (ob := true) (by decide +kernel) rfl rfl ?_
        exact vm_gr (r := some (vm_i 0)) (i := (.ireturn, 2, 0, [])) (len := 1) (by decide +kernel) rfl rfl (by decide) ⟨_, rfl, h⟩
    · replace h := h.2 c2
      refine vm_gp [(.iconst 0, 0, 0, [])] (pc1 := 28) (ls1 := [some (vm_r 19), some (vm_i z2), none, none]) (st1 := [vm_i 0]) (m1 := m3) (ob := true) (by decide +kernel) rfl rfl ?_
      exact vm_gr (r := some (vm_i 0)) (i := (.ireturn, 2, 0, [])) (len := 1) (by decide +kernel) rfl rfl (by decide) ⟨_, rfl, h⟩
  · replace h := h.2 c1
    refine vm_gp [(.iconst 0, 0, 0, [])] (pc1 := 10) (ls1 := [some (vm_r 19), none, none, none]) (st1 := [vm_i 0]) (m1 := m1) (ob := true) (by decide +kernel) rfl rfl ?_
    exact vm_gr (r := some (vm_i 0)) (i := (.ireturn, 2, 0, [])) (len := 1) (by decide +kernel) rfl rfl (by decide) ⟨_, rfl, h⟩
abbrev ku5_passName_0 (s1 : Nat) (m : vm_M) (Q : Int → vm_M → Prop) : Prop := vm_G 74 0 [some (vm_r 19), some (vm_r s1)] [] m (vm_qi Q)
set_option maxRecDepth 20000 in
theorem ru5_passName_0 {s1 : Nat} {m : vm_M} {Q : Int → vm_M → Prop}  (h :
    (vm_C 90 [vm_r 20, vm_r s1] m (vm_qi (fun z1 m1 =>
      ((¬ z1 = 0 →
        (vm_C 89 [vm_r 20] m1 (vm_qv (fun m2 =>
          Q 1 m2)))) ∧ (¬ ¬ z1 = 0 →
        Q 0 m1)))))) : vm_C 74 [vm_r 19, vm_r s1] m (vm_qi Q) := by
  show vm_G 74 0 [some (vm_r 19), some (vm_r s1)] [] m (vm_qi Q)
  refine vm_gp [(.aload 0, 0, 0, []), (.getfield 2, 5, 0, [(20, 0)]), (.aload 1, 0, 0, [])] (pc1 := 5) (ls1 := [some (vm_r 19), some (vm_r s1)]) (st1 := [vm_r s1, vm_r 20]) (m1 := m) (ob := ((true && vm_is 19 5) && true)) (by decide +kernel) rfl (vm_u (vm_u rfl (by decide +kernel)) rfl) ?_
  refine vm_gc (g := 90) (na := 2) (av := [vm_r 20, vm_r s1]) (rest := []) (i := (.invokevirtual 0, 90, 2, [])) (len := 3) (by decide +kernel) rfl rfl rfl (by decide +kernel) (by decide +kernel) rfl rfl (vm_u (vm_okh_v (c := 8) (by decide +kernel) (by decide +kernel)) (show vm_okn 90 2 0 0 0 2 = true by decide +kernel)) ?_
  refine vm_G.mono h ?_
  rintro _ m1 ⟨z1, rfl, h⟩
  show vm_G 74 8 [some (vm_r 19), some (vm_r s1)] [vm_i z1] m1 _
  refine vm_gj (c := ¬ z1 = 0) (t := 13) (e := 11) (i := (.ifCond .ne 0, 13, 0, [])) (len := 3) (st1 := []) (by decide +kernel) rfl rfl (fun c1 => ?_) (fun c1 => ?_)
  · replace h := h.1 c1
    refine vm_gp [(.aload 0, 0, 0, []), (.getfield 2, 5, 0, [(20, 0)])] (pc1 := 17) (ls1 := [some (vm_r 19), some (vm_r s1)]) (st1 := [vm_r 20]) (m1 := m1) (ob := ((true && vm_is 19 5) && true)) (by decide +kernel) rfl (vm_u (vm_u rfl (by decide +kernel)) rfl) ?_
    refine vm_gc (g := 89) (na := 1) (av := [vm_r 20]) (rest := []) (i := (.invokevirtual 0, 89, 1, [])) (len := 3) (by decide +kernel) rfl rfl rfl (by decide +kernel) (by decide +kernel) rfl rfl (vm_u (vm_okh_v (c := 8) (by decide +kernel) (by decide +kernel)) (show vm_okn 89 1 0 0 0 1 = true by decide +kernel)) ?_
    refine vm_G.mono h ?_
    rintro _ m2 ⟨rfl, h⟩
    show vm_G 74 20 [some (vm_r 19), some (vm_r s1)] [] m2 _
    refine vm_gp [(.iconst 1, 0, 0, [])] (pc1 := 21) (ls1 := [some (vm_r 19), some (vm_r s1)]) (st1 := [vm_i 1]) (m1 := m2) (ob := true) (by decide +kernel) rfl rfl ?_
    exact vm_gr (r := some (vm_i 1)) (i := (.ireturn, 2, 0, [])) (len := 1) (by decide +kernel) rfl rfl (by decide) ⟨_, rfl, h⟩
  · replace h := h.2 c1
    refine vm_gp [(.iconst 0, 0, 0, [])] (pc1 := 12) (ls1 := [some (vm_r 19), some (vm_r s1)]) (st1 := [vm_i 0]) (m1 := m1) (ob := true) (by decide +kernel) rfl rfl ?_
    exact vm_gr (r := some (vm_i 0)) (i := (.ireturn, 2, 0, [])) (len := 1) (by decide +kernel) rfl rfl (by decide) ⟨_, rfl, h⟩
abbrev ku5_passLetter_0 (v1 : Int) (m : vm_M) (Q : Int → vm_M → Prop) : Prop := vm_G 75 0 [some (vm_r 19), some (vm_i v1)] [] m (vm_qi Q)
set_option maxRecDepth 20000 in
theorem ru5_passLetter_0 {v1 : Int} {m : vm_M} {Q : Int → vm_M → Prop}  (h :
    (vm_C 3 [vm_r 6, vm_i v1] m (vm_qi (fun z1 m1 =>
      ((¬ z1 = 0 →
        (vm_C 89 [vm_r 20] m1 (vm_qv (fun m2 =>
          Q 1 m2)))) ∧ (¬ ¬ z1 = 0 →
        Q 0 m1)))))) : vm_C 75 [vm_r 19, vm_i v1] m (vm_qi Q) := by
  show vm_G 75 0 [some (vm_r 19), some (vm_i v1)] [] m (vm_qi Q)
  refine vm_gp [(.aload 0, 0, 0, []), (.getfield 2, 5, 2, [(6, 0)]), (.iload 1, 0, 0, [])] (pc1 := 5) (ls1 := [some (vm_r 19), some (vm_i v1)]) (st1 := [vm_i v1, vm_r 6]) (m1 := m) (ob := ((true && vm_is 19 5) && true)) (by decide +kernel) rfl (vm_u (vm_u rfl (by decide +kernel)) rfl) ?_
  refine vm_gc (g := 3) (na := 2) (av := [vm_r 6, vm_i v1]) (rest := []) (i := (.invokevirtual 0, 3, 2, [])) (len := 3) (by decide +kernel) rfl rfl rfl (by decide +kernel) (by decide +kernel) rfl rfl (vm_u (vm_okh_v (c := 0) (by decide +kernel) (by decide +kernel)) (show vm_okn 3 2 0 0 0 2 = true by decide +kernel)) ?_
  refine vm_G.mono h ?_
  rintro _ m1 ⟨z1, rfl, h⟩
  show vm_G 75 8 [some (vm_r 19), some (vm_i v1)] [vm_i z1] m1 _
  refine vm_gj (c := ¬ z1 = 0) (t := 13) (e := 11) (i := (.ifCond .ne 0, 13, 0, [])) (len := 3) (st1 := []) (by decide +kernel) rfl rfl (fun c1 => ?_) (fun c1 => ?_)
  · replace h := h.1 c1
    refine vm_gp [(.aload 0, 0, 0, []), (.getfield 2, 5, 0, [(20, 0)])] (pc1 := 17) (ls1 := [some (vm_r 19), some (vm_i v1)]) (st1 := [vm_r 20]) (m1 := m1) (ob := ((true && vm_is 19 5) && true)) (by decide +kernel) rfl (vm_u (vm_u rfl (by decide +kernel)) rfl) ?_
    refine vm_gc (g := 89) (na := 1) (av := [vm_r 20]) (rest := []) (i := (.invokevirtual 0, 89, 1, [])) (len := 3) (by decide +kernel) rfl rfl rfl (by decide +kernel) (by decide +kernel) rfl rfl (vm_u (vm_okh_v (c := 8) (by decide +kernel) (by decide +kernel)) (show vm_okn 89 1 0 0 0 1 = true by decide +kernel)) ?_
    refine vm_G.mono h ?_
    rintro _ m2 ⟨rfl, h⟩
    show vm_G 75 20 [some (vm_r 19), some (vm_i v1)] [] m2 _
    refine vm_gp [(.iconst 1, 0, 0, [])] (pc1 := 21) (ls1 := [some (vm_r 19), some (vm_i v1)]) (st1 := [vm_i 1]) (m1 := m2) (ob := true) (by decide +kernel) rfl rfl ?_
    exact vm_gr (r := some (vm_i 1)) (i := (.ireturn, 2, 0, [])) (len := 1) (by decide +kernel) rfl rfl (by decide) ⟨_, rfl, h⟩
  · replace h := h.2 c1
    refine vm_gp [(.iconst 0, 0, 0, [])] (pc1 := 12) (ls1 := [some (vm_r 19), some (vm_i v1)]) (st1 := [vm_i 0]) (m1 := m1) (ob := true) (by decide +kernel) rfl rfl ?_
    exact vm_gr (r := some (vm_i 0)) (i := (.ireturn, 2, 0, [])) (len := 1) (by decide +kernel) rfl rfl (by decide) ⟨_, rfl, h⟩
abbrev ku5_passSemicolon_0  (m : vm_M) (Q : Int → vm_M → Prop) : Prop := vm_G 76 0 [some (vm_r 19)] [] m (vm_qi Q)
set_option maxRecDepth 20000 in
theorem ru5_passSemicolon_0  {m : vm_M} {Q : Int → vm_M → Prop}  (h :
    (((m 20 1) = 3 →
      (vm_C 89 [vm_r 20] m (vm_qv (fun m1 =>
        Q 1 m1)))) ∧ (¬ (m 20 1) = 3 →
      Q 0 m))) : vm_C 76 [vm_r 19] m (vm_qi Q) := by
  show vm_G 76 0 [some (vm_r 19)] [] m (vm_qi Q)
  refine vm_gp [(.aload 0, 0, 0, []), (.getfield 2, 5, 0, [(20, 0)]), (.getfield 0, 8, 1, []), (.iconst 3, 0, 0, [])] (pc1 := 8) (ls1 := [some (vm_r 19)]) (st1 := [vm_i 3, vm_i (m 20 1)]) (m1 := m) (ob := (((true && vm_is 19 5) && true) && vm_is 20 8)) (by decide +kernel) rfl (vm_u (vm_u (vm_u rfl (by decide +kernel)) rfl) (by decide +kernel)) ?_
  refine vm_gj (c := (m 20 1) = 3) (t := 13) (e := 11) (i := (.if_icmp .eq 0, 13, 0, [])) (len := 3) (st1 := []) (by decide +kernel) rfl rfl (fun c1 => ?_) (fun c1 => ?_)
  · replace h := h.1 c1
    refine vm_gp [(.aload 0, 0, 0, []), (.getfield 2, 5, 0, [(20, 0)])] (pc1 := 17) (ls1 := [some (vm_r 19)]) (st1 := [vm_r 20]) (m1 := m) (ob := ((true && vm_is 19 5) && true)) (by decide +kernel) rfl (vm_u (vm_u rfl (by decide +kernel)) rfl) ?_
    refine vm_gc (g := 89) (na := 1) (av := [vm_r 20]) (rest := []) (i := (.invokevirtual 0, 89, 1, [])) (len := 3) (by decide +kernel) rfl rfl rfl (by decide +kernel) (by decide +kernel) rfl rfl (vm_u (vm_okh_v (c := 8) (by decide +kernel) (by decide +kernel)) (show vm_okn 89 1 0 0 0 1 = true by decide +kernel)) ?_
    refine vm_G.mono h ?_
    rintro _ m1 ⟨rfl, h⟩
    show vm_G 76 20 [some (vm_r 19)] [] m1 _
    refine vm_gp [(.iconst 1, 0, 0, [])] (pc1 := 21) (ls1 := [some (vm_r 19)]) (st1 := [vm_i 1]) (m1 := m1) (ob := true) (by decide +kernel) rfl rfl ?_
    exact vm_gr (r := some (vm_i 1)) (i := (.ireturn, 2, 0, [])) (len := 1) (by decide +kernel) rfl rfl (by decide) ⟨_, rfl, h⟩
  · replace h := h.2 c1
    refine vm_gp [(.iconst 0, 0, 0, [])] (pc1 := 12) (ls1 := [some (vm_r 19)]) (st1 := [vm_i 0]) (m1 := m) (ob := true) (by decide +kernel) rfl rfl ?_
    exact vm_gr (r := some (vm_i 0)) (i := (.ireturn, 2, 0, [])) (len := 1) (by decide +kernel) rfl rfl (by decide) ⟨_, rfl, h⟩
abbrev ku6_open_0 (v1 : Int) (m : vm_M) (Q : vm_M → Prop) : Prop := vm_G 78 0 [some (vm_r 85), some (vm_i v1)] [] m (vm_qv Q)
set_option maxRecDepth 20000 in
theorem ru6_open_0 {v1 : Int} {m : vm_M} {Q : vm_M → Prop}  (h :
    Q (vm_st (vm_st (vm_st m 85 0 0) 85 1 v1) 85 2 (-2))) : vm_C 78 [vm_r 85, vm_i v1] m (vm_qv Q) := by
  show vm_G 78 0 [some (vm_r 85), some (vm_i v1)] [] m (vm_qv Q)
  refine vm_gp [(.aload 0, 0, 0, []), (.iconst 0, 0, 0, []), (.putfield 0, 6, 0, []), (.aload 0, 0, 0, []), (.iload 1, 0, 0, []), (.putfield 0, 6, 1, []), (.aload 0, 0, 0, []), (.iconst (-2), 0, 0, []), (.putfield 0, 6, 2, [])] (pc1 := 16) (ls1 := [some (vm_r 85), some (vm_i v1)]) (st1 := []) (m1 := (vm_st (vm_st (vm_st m 85 0 0) 85 1 v1) 85 2 (-2))) (ob := (((true && vm_is 85 6) && vm_is 85 6) && vm_is 85 6)) (by decide +kernel) rfl (vm_u (vm_u (vm_u rfl (by decide +kernel)) (by decide +kernel)) (by decide +kernel)) ?_
  exact vm_gr (r := none) (i := (.return_, 0, 0, [])) (len := 1) (by decide +kernel) rfl rfl rfl ⟨rfl, h⟩
abbrev ku6_add_0 (v1 : Int) (m : vm_M) (Q : vm_M → Prop) : Prop := vm_G 79 0 [some (vm_r 85), some (vm_i v1)] [] m (vm_qv Q)
set_option maxRecDepth 20000 in
theorem ru6_add_0 {v1 : Int} {m : vm_M} {Q : vm_M → Prop}  (h :
    ((¬ (m 85 0) = (m 85 1) →
      ((vm_32 ((m 85 0) + 1))) ∧
      Q (vm_st m 85 0 ((m 85 0) + 1))) ∧ (¬ ¬ (m 85 0) = (m 85 1) →
      ((vm_32 (((vm_st m 85 2 v1) 85 0) + 1))) ∧
      Q (vm_st (vm_st m 85 2 v1) 85 0 (((vm_st m 85 2 v1) 85 0) + 1))))) : vm_C 79 [vm_r 85, vm_i v1] m (vm_qv Q) := by
  show vm_G 79 0 [some (vm_r 85), some (vm_i v1)] [] m (vm_qv Q)
  refine vm_gp [(.aload 0, 0, 0, []), (.getfield 0, 6, 0, []), (.aload 0, 0, 0, []), (.getfield 0, 6, 1, [])] (pc1 := 8) (ls1 := [some (vm_r 85), some (vm_i v1)]) (st1 := [vm_i (m 85 1), vm_i (m 85 0)]) (m1 := m) (ob := ((true && vm_is 85 6) && vm_is 85 6)) (by decide +kernel) rfl (vm_u (vm_u rfl (by decide +kernel)) (by decide +kernel)) ?_
  refine vm_gj (c := ¬ (m 85 0) = (m 85 1)) (t := 16) (e := 11) (i := (.if_icmp .ne 0, 16, 0, [])) (len := 3) (st1 := []) (by decide +kernel) rfl rfl (fun c1 => ?_) (fun c1 => ?_)
  · replace h := h.1 c1
    obtain ⟨o2_0, h⟩ := h
    refine vm_gp [(.aload 0, 0, 0, []), (.dup, 0, 0, []), (.getfield 0, 6, 0, []), (.iconst 1, 0, 0, []), (.iadd, 0, 0, []), (.putfield 0, 6, 0, [])] (pc1 := 26) (ls1 := [some (vm_r 85), some (vm_i v1)]) (st1 := []) (m1 := (vm_st m 85 0 ((m 85 0) + 1))) (ob := (((true && vm_is 85 6) && decide (vm_32 ((m 85 0) + 1))) && vm_is 85 6)) (by decide +kernel) rfl (vm_u (vm_t (vm_u rfl (by decide +kernel)) o2_0) (by decide +kernel)) ?_
    exact vm_gr (r := none) (i := (.return_, 0, 0, [])) (len := 1) (by decide +kernel) rfl rfl rfl ⟨rfl, h⟩
  · replace h := h.2 c1
    obtain ⟨o3_0, h⟩ := h
    refine vm_gp [(.aload 0, 0, 0, []), (.iload 1, 0, 0, []), (.putfield 0, 6, 2, []), (.aload 0, 0, 0, []), (.dup, 0, 0, []), (.getfield 0, 6, 0, []), (.iconst 1, 0, 0, []), (.iadd, 0, 0, []), (.putfield 0, 6, 0, [])] (pc1 := 26) (ls1 := [some (vm_r 85), some (vm_i v1)]) (st1 := []) (m1 := (vm_st (vm_st m 85 2 v1) 85 0 (((vm_st m 85 2 v1) 85 0) + 1))) (ob := ((((true && vm_is 85 6) && vm_is 85 6) && decide (vm_32 (((vm_st m 85 2 v1) 85 0) + 1))) && vm_is 85 6)) (by decide +kernel) rfl (vm_u (vm_t (vm_u (vm_u rfl (by decide +kernel)) (by decide +kernel)) o3_0) (by decide +kernel)) ?_
    exact vm_gr (r := none) (i := (.return_, 0, 0, [])) (len := 1) (by decide +kernel) rfl rfl rfl ⟨rfl, h⟩
abbrev ku6_addText_0 (s1 : Nat) (m : vm_M) (Q : vm_M → Prop) : Prop := vm_G 80 0 [some (vm_r 85), some (vm_r s1), none] [] m (vm_qv Q)
abbrev ku6_addText_2 (s1 : Nat) (v2 : Int) (m : vm_M) (Q : vm_M → Prop) : Prop := vm_G 80 2 [some (vm_r 85), some (vm_r s1), some (vm_i v2)] [] m (vm_qv Q)
set_option maxRecDepth 20000 in
theorem ru6_addText_0 {s1 : Nat} {m : vm_M} {Q : vm_M → Prop}  (h :
    ku6_addText_2 s1 0 m Q) : vm_C 80 [vm_r 85, vm_r s1] m (vm_qv Q) := by
  show vm_G 80 0 [some (vm_r 85), some (vm_r s1), none] [] m (vm_qv Q)
  refine vm_gp [(.iconst 0, 0, 0, []), (.istore 2, 0, 0, [])] (pc1 := 2) (ls1 := [some (vm_r 85), some (vm_r s1), some (vm_i 0)]) (st1 := []) (m1 := m) (ob := true) (by decide +kernel) rfl rfl ?_
  exact h
set_option maxRecDepth 20000 in
theorem ru6_addText_2 {s1 : Nat} {v2 : Int} {m : vm_M} {Q : vm_M → Prop}  (h :
    ((1000 ≤ s1 ∧ s1 < 1000 + vm_sN)) ∧
    (((vm_sn s1) ≤ v2 →
      Q m) ∧ (¬ (vm_sn s1) ≤ v2 →
      ((1000 ≤ s1 ∧ s1 < 1000 + vm_sN) ∧ (0 ≤ v2 ∧ v2 < vm_sn s1)) ∧
      (vm_C 79 [vm_r 85, vm_i (vm_sc s1 v2)] m (vm_qv (fun m1 =>
        ((vm_32 (v2 + 1))) ∧
        ku6_addText_2 s1 (v2 + 1) m1 Q)))))) : ku6_addText_2 s1 v2 m Q := by
  show vm_G 80 2 [some (vm_r 85), some (vm_r s1), some (vm_i v2)] [] m (vm_qv Q)
  obtain ⟨o1_0, h⟩ := h
  refine vm_gp [(.iload 2, 0, 0, []), (.aload 1, 0, 0, []), (.invokevirtual 0, 1004, 0, [])] (pc1 := 7) (ls1 := [some (vm_r 85), some (vm_r s1), some (vm_i v2)]) (st1 := [vm_i (vm_sn s1), vm_i v2]) (m1 := m) (ob := ((true && decide (vm_cats [vm_i v2] ≤ 8)) && decide (1000 ≤ s1 ∧ s1 < 1000 + vm_sN))) (by decide +kernel) rfl (vm_t (vm_t rfl (by decide : (1 : Nat) ≤ 8)) o1_0) ?_
  refine vm_gj (c := (vm_sn s1) ≤ v2) (t := 25) (e := 10) (i := (.if_icmp .ge 0, 25, 0, [])) (len := 3) (st1 := []) (by decide +kernel) rfl rfl (fun c1 => ?_) (fun c1 => ?_)
  · replace h := h.1 c1
    exact vm_gr (r := none) (i := (.return_, 0, 0, [])) (len := 1) (by decide +kernel) rfl rfl rfl ⟨rfl, h⟩
  · replace h := h.2 c1
    obtain ⟨⟨o3_0, o3_1⟩, h⟩ := h
    refine vm_gp [(.aload 0, 0, 0, []), (.aload 1, 0, 0, []), (.iload 2, 0, 0, []), (.invokevirtual 0, 1005, 0, [])] (pc1 := 16) (ls1 := [some (vm_r 85), some (vm_r s1), some (vm_i v2)]) (st1 := [vm_i (vm_sc s1 v2), vm_r 85]) (m1 := m) (ob := (((true && decide (vm_cats [vm_r 85] ≤ 8)) && decide (1000 ≤ s1 ∧ s1 < 1000 + vm_sN)) && decide (0 ≤ v2 ∧ v2 < vm_sn s1))) (by decide +kernel) rfl (vm_t (vm_t (vm_t rfl (by decide : (1 : Nat) ≤ 8)) o3_0) o3_1) ?_
    refine vm_gc (g := 79) (na := 2) (av := [vm_r 85, vm_i (vm_sc s1 v2)]) (rest := []) (i := (.invokevirtual 0, 79, 2, [])) (len := 3) (by decide +kernel) rfl rfl rfl (by decide +kernel) (by decide +kernel) rfl rfl (vm_u (vm_okh_v (c := 6) (by decide +kernel) (by decide +kernel)) (show vm_okn 79 2 0 0 0 2 = true by decide +kernel)) ?_
    refine vm_G.mono h ?_
    rintro _ m1 ⟨rfl, h⟩
    show vm_G 80 19 [some (vm_r 85), some (vm_r s1), some (vm_i v2)] [] m1 _
    obtain ⟨o4_0, h⟩ := h
    refine vm_gp [(.iinc 2 1, 0, 0, []), (.goto 0, 2, 0, [])] (pc1 := 2) (ls1 := [some (vm_r 85), some (vm_r s1), some (vm_i (v2 + 1))]) (st1 := []) (m1 := m1) (ob := (true && decide (vm_32 (v2 + 1)))) (by decide +kernel) rfl (vm_t rfl o4_0) ?_
    exact h
abbrev ku6_addNumber_0 (v1 : Int) (m : vm_M) (Q : vm_M → Prop) : Prop := vm_G 81 0 [some (vm_r 85), some (vm_i v1), none, none] [] m (vm_qv Q)
abbrev ku6_addNumber_4 (v1 : Int) (v2 : Int) (v3 : Int) (m : vm_M) (Q : vm_M → Prop) : Prop := vm_G 81 4 [some (vm_r 85), some (vm_i v1), some (vm_i v2), some (vm_i v3)] [] m (vm_qv Q)
abbrev ku6_addNumber_31 (v1 : Int) (v2 : Int) (v3 : Int) (m : vm_M) (Q : vm_M → Prop) : Prop := vm_G 81 31 [some (vm_r 85), some (vm_i v1), some (vm_i v2), some (vm_i v3)] [] m (vm_qv Q)
set_option maxRecDepth 20000 in
theorem ru6_addNumber_0 {v1 : Int} {m : vm_M} {Q : vm_M → Prop}  (h :
    ku6_addNumber_4 v1 1 1 m Q) : vm_C 81 [vm_r 85, vm_i v1] m (vm_qv Q) := by
  show vm_G 81 0 [some (vm_r 85), some (vm_i v1), none, none] [] m (vm_qv Q)
  refine vm_gp [(.iconst 1, 0, 0, []), (.istore 2, 0, 0, []), (.iconst 1, 0, 0, []), (.istore 3, 0, 0, [])] (pc1 := 4) (ls1 := [some (vm_r 85), some (vm_i v1), some (vm_i 1), some (vm_i 1)]) (st1 := []) (m1 := m) (ob := true) (by decide +kernel) rfl rfl ?_
  exact h
set_option maxRecDepth 20000 in
theorem ru6_addNumber_4 {v1 : Int} {v2 : Int} {v3 : Int} {m : vm_M} {Q : vm_M → Prop}  (h :
    ((9 ≤ v3 →
      ku6_addNumber_31 v1 v2 v2 m Q) ∧ (¬ 9 ≤ v3 →
      ((0 ≤ v1 ∧ (0 : Int) < v2)) ∧
      (((v1 / v2) < 10 →
        ku6_addNumber_31 v1 v2 v2 m Q) ∧ (¬ (v1 / v2) < 10 →
        ((vm_32 (v2 * 10)) ∧ (vm_32 (v3 + 1))) ∧
        ku6_addNumber_4 v1 (v2 * 10) (v3 + 1) m Q))))) : ku6_addNumber_4 v1 v2 v3 m Q := by
  show vm_G 81 4 [some (vm_r 85), some (vm_i v1), some (vm_i v2), some (vm_i v3)] [] m (vm_qv Q)
  refine vm_gp [(.iload 3, 0, 0, []), (.iconst 9, 0, 0, [])] (pc1 := 7) (ls1 := [some (vm_r 85), some (vm_i v1), some (vm_i v2), some (vm_i v3)]) (st1 := [vm_i 9, vm_i v3]) (m1 := m) (ob := true) (by decide +kernel) rfl rfl ?_
  refine vm_gj (c := 9 ≤ v3) (t := 29) (e := 10) (i := (.if_icmp .ge 0, 29, 0, [])) (len := 3) (st1 := []) (by decide +kernel) rfl rfl (fun c1 => ?_) (fun c1 => ?_)
  · replace h := h.1 c1
    refine vm_gp [(.iload 2, 0, 0, []), (.istore 3, 0, 0, [])] (pc1 := 31) (ls1 := [some (vm_r 85), some (vm_i v1), some (vm_i v2), some (vm_i v2)]) (st1 := []) (m1 := m) (ob := true) (by decide +kernel) rfl rfl ?_
    exact h
  · replace h := h.2 c1
    obtain ⟨o3_0, h⟩ := h
    refine vm_gp [(.iload 1, 0, 0, []), (.iload 2, 0, 0, []), (.idiv, 0, 0, []), (.iconst 10, 0, 0, [])] (pc1 := 15) (ls1 := [some (vm_r 85), some (vm_i v1), some (vm_i v2), some (vm_i v3)]) (st1 := [vm_i 10, vm_i (v1 / v2)]) (m1 := m) (ob := (true && decide (0 ≤ v1 ∧ (0 : Int) < v2))) (by decide +kernel) rfl (vm_t rfl o3_0) ?_
    refine vm_gj (c := (v1 / v2) < 10) (t := 29) (e := 18) (i := (.if_icmp .lt 0, 29, 0, [])) (len := 3) (st1 := []) (by decide +kernel) rfl rfl (fun c2 => ?_) (fun c2 => ?_)
    · replace h := h.1 c2
      refine vm_gp [(.iload 2, 0, 0, []), (.istore 3, 0, 0, [])] (pc1 := 31) (ls1 := [some (vm_r 85), some (vm_i v1), some (vm_i v2), some (vm_i v2)]) (st1 := []) (m1 := m) (ob := true) (by decide +kernel) rfl rfl ?_
      exact h
    · replace h := h.2 c2
      obtain ⟨⟨o5_0, o5_1⟩, h⟩ := h
      refine vm_gp [(.iload 2, 0, 0, []), (.iconst 10, 0, 0, []), (.imul, 0, 0, []), (.istore 2, 0, 0, []), (.iinc 3 1, 0, 0, []), (.goto 0, 4, 0, [])] (pc1 := 4) (ls1 := [some (vm_r 85), some (vm_i v1), some (vm_i (v2 * 10)), some (vm_i (v3 + 1))]) (st1 := []) (m1 := m) (ob := ((true && decide (vm_32 (v2 * 10))) && decide (vm_32 (v3 + 1)))) (by decide +kernel) rfl (vm_t (vm_t rfl o5_0) o5_1) ?_
      exact h
set_option maxRecDepth 20000 in
theorem ru6_addNumber_31 {v1 : Int} {v2 : Int} {v3 : Int} {m : vm_M} {Q : vm_M → Prop}  (h :
    ((v3 ≤ 0 →
      Q m) ∧ (¬ v3 ≤ 0 →
      ((0 ≤ v1 ∧ (0 : Int) < v3) ∧ (0 ≤ (v1 / v3) ∧ (0 : Int) < 10) ∧ (vm_32 (48 + ((v1 / v3) % 10)))) ∧
      (vm_C 79 [vm_r 85, vm_i (48 + ((v1 / v3) % 10))] m (vm_qv (fun m1 =>
        ((0 ≤ v3 ∧ (0 : Int) < 10)) ∧
        ku6_addNumber_31 v1 v2 (v3 / 10) m1 Q)))))) : ku6_addNumber_31 v1 v2 v3 m Q := by
  show vm_G 81 31 [some (vm_r 85), some (vm_i v1), some (vm_i v2), some (vm_i v3)] [] m (vm_qv Q)
  refine vm_gp [(.iload 3, 0, 0, [])] (pc1 := 32) (ls1 := [some (vm_r 85), some (vm_i v1), some (vm_i v2), some (vm_i v3)]) (st1 := [vm_i v3]) (m1 := m) (ob := true) (by decide +kernel) rfl rfl ?_
  refine vm_gj (c := v3 ≤ 0) (t := 56) (e := 35) (i := (.ifCond .le 0, 56, 0, [])) (len := 3) (st1 := []) (by decide +kernel) rfl rfl (fun c1 => ?_) (fun c1 => ?_)
  · replace h := h.1 c1
    exact vm_gr (r := none) (i := (.return_, 0, 0, [])) (len := 1) (by decide +kernel) rfl rfl rfl ⟨rfl, h⟩
  · replace h := h.2 c1
    obtain ⟨⟨o3_0, o3_1, o3_2⟩, h⟩ := h
    refine vm_gp [(.aload 0, 0, 0, []), (.iconst 48, 0, 0, []), (.iload 1, 0, 0, []), (.iload 3, 0, 0, []), (.idiv, 0, 0, []), (.iconst 10, 0, 0, []), (.irem, 0, 0, []), (.iadd, 0, 0, [])] (pc1 := 45) (ls1 := [some (vm_r 85), some (vm_i v1), some (vm_i v2), some (vm_i v3)]) (st1 := [vm_i (48 + ((v1 / v3) % 10)), vm_r 85]) (m1 := m) (ob := (((true && decide (0 ≤ v1 ∧ (0 : Int) < v3)) && decide (0 ≤ (v1 / v3) ∧ (0 : Int) < 10)) && decide (vm_32 (48 + ((v1 / v3) % 10))))) (by decide +kernel) rfl (vm_t (vm_t (vm_t rfl o3_0) o3_1) o3_2) ?_
    refine vm_gc (g := 79) (na := 2) (av := [vm_r 85, vm_i (48 + ((v1 / v3) % 10))]) (rest := []) (i := (.invokevirtual 0, 79, 2, [])) (len := 3) (by decide +kernel) rfl rfl rfl (by decide +kernel) (by decide +kernel) rfl rfl (vm_u (vm_okh_v (c := 6) (by decide +kernel) (by decide +kernel)) (show vm_okn 79 2 0 0 0 2 = true by decide +kernel)) ?_
    refine vm_G.mono h ?_
    rintro _ m1 ⟨rfl, h⟩
    show vm_G 81 48 [some (vm_r 85), some (vm_i v1), some (vm_i v2), some (vm_i v3)] [] m1 _
    obtain ⟨o4_0, h⟩ := h
    refine vm_gp [(.iload 3, 0, 0, []), (.iconst 10, 0, 0, []), (.idiv, 0, 0, []), (.istore 3, 0, 0, []), (.goto 0, 31, 0, [])] (pc1 := 31) (ls1 := [some (vm_r 85), some (vm_i v1), some (vm_i v2), some (vm_i (v3 / 10))]) (st1 := []) (m1 := m1) (ob := (true && decide (0 ≤ v3 ∧ (0 : Int) < 10))) (by decide +kernel) rfl (vm_t rfl o4_0) ?_
    exact h
abbrev ku7_hasRoom_0 (v1 : Int) (m : vm_M) (Q : Int → vm_M → Prop) : Prop := vm_G 83 0 [some (vm_r 1), some (vm_i v1)] [] m (vm_qi Q)
set_option maxRecDepth 20000 in
theorem ru7_hasRoom_0 {v1 : Int} {m : vm_M} {Q : Int → vm_M → Prop}  (h :
    ((vm_32 (2000 - (m 1 1)))) ∧
    (((2000 - (m 1 1)) < v1 →
      Q 0 m) ∧ (¬ (2000 - (m 1 1)) < v1 →
      Q 1 m))) : vm_C 83 [vm_r 1, vm_i v1] m (vm_qi Q) := by
  show vm_G 83 0 [some (vm_r 1), some (vm_i v1)] [] m (vm_qi Q)
  obtain ⟨o1_0, h⟩ := h
  refine vm_gp [(.iload 1, 0, 0, []), (.iconst 2000, 0, 0, []), (.aload 0, 0, 0, []), (.getfield 0, 7, 1, []), (.isub, 0, 0, [])] (pc1 := 9) (ls1 := [some (vm_r 1), some (vm_i v1)]) (st1 := [vm_i (2000 - (m 1 1)), vm_i v1]) (m1 := m) (ob := ((true && vm_is 1 7) && decide (vm_32 (2000 - (m 1 1))))) (by decide +kernel) rfl (vm_t (vm_u rfl (by decide +kernel)) o1_0) ?_
  refine vm_gj (c := (2000 - (m 1 1)) < v1) (t := 16) (e := 12) (i := (.if_icmp .gt 0, 16, 0, [])) (len := 3) (st1 := []) (by decide +kernel) rfl rfl (fun c1 => ?_) (fun c1 => ?_)
  · replace h := h.1 c1
    refine vm_gp [(.iconst 0, 0, 0, [])] (pc1 := 17) (ls1 := [some (vm_r 1), some (vm_i v1)]) (st1 := [vm_i 0]) (m1 := m) (ob := true) (by decide +kernel) rfl rfl ?_
    exact vm_gr (r := some (vm_i 0)) (i := (.ireturn, 2, 0, [])) (len := 1) (by decide +kernel) rfl rfl (by decide) ⟨_, rfl, h⟩
  · replace h := h.2 c1
    refine vm_gp [(.iconst 1, 0, 0, []), (.goto 0, 17, 0, [])] (pc1 := 17) (ls1 := [some (vm_r 1), some (vm_i v1)]) (st1 := [vm_i 1]) (m1 := m) (ob := true) (by decide +kernel) rfl rfl ?_
    exact vm_gr (r := some (vm_i 1)) (i := (.ireturn, 2, 0, [])) (len := 1) (by decide +kernel) rfl rfl (by decide) ⟨_, rfl, h⟩
abbrev ku7_addFour_0 (v1 : Int) (m : vm_M) (Q : vm_M → Prop) : Prop := vm_G 84 0 [some (vm_r 1), some (vm_i v1), none] [] m (vm_qv Q)
abbrev ku7_addFour_3 (v1 : Int) (v2 : Int) (m : vm_M) (Q : vm_M → Prop) : Prop := vm_G 84 3 [some (vm_r 1), some (vm_i v1), some (vm_i v2)] [] m (vm_qv Q)
set_option maxRecDepth 20000 in
theorem ru7_addFour_0 {v1 : Int} {m : vm_M} {Q : vm_M → Prop}  (h :
    ku7_addFour_3 v1 24 m Q) : vm_C 84 [vm_r 1, vm_i v1] m (vm_qv Q) := by
  show vm_G 84 0 [some (vm_r 1), some (vm_i v1), none] [] m (vm_qv Q)
  refine vm_gp [(.iconst 24, 0, 0, []), (.istore 2, 0, 0, [])] (pc1 := 3) (ls1 := [some (vm_r 1), some (vm_i v1), some (vm_i 24)]) (st1 := []) (m1 := m) (ob := true) (by decide +kernel) rfl rfl ?_
  exact h
set_option maxRecDepth 20000 in
theorem ru7_addFour_3 {v1 : Int} {v2 : Int} {m : vm_M} {Q : vm_M → Prop}  (h :
    ((v2 < 0 →
      Q m) ∧ (¬ v2 < 0 →
      ((2000 ≤ (m 1 1) →
        ((vm_32 (v2 + (-8)))) ∧
        ku7_addFour_3 v1 (v2 + (-8)) m Q) ∧ (¬ 2000 ≤ (m 1 1) →
        ((0 ≤ (m 1 1) ∧ (m 1 1) < 2000) ∧ (vm_32 (((vm_st m 2 (m 1 1) (vm_and (vm_ushr v1 v2) 255)) 1 1) + 1)) ∧ (vm_32 (v2 + (-8)))) ∧
        ku7_addFour_3 v1 (v2 + (-8)) (vm_st (vm_st m 2 (m 1 1) (vm_and (vm_ushr v1 v2) 255)) 1 1 (((vm_st m 2 (m 1 1) (vm_and (vm_ushr v1 v2) 255)) 1 1) + 1)) Q))))) : ku7_addFour_3 v1 v2 m Q := by
  show vm_G 84 3 [some (vm_r 1), some (vm_i v1), some (vm_i v2)] [] m (vm_qv Q)
  refine vm_gp [(.iload 2, 0, 0, [])] (pc1 := 4) (ls1 := [some (vm_r 1), some (vm_i v1), some (vm_i v2)]) (st1 := [vm_i v2]) (m1 := m) (ob := true) (by decide +kernel) rfl rfl ?_
  refine vm_gj (c := v2 < 0) (t := 49) (e := 7) (i := (.ifCond .lt 0, 49, 0, [])) (len := 3) (st1 := []) (by decide +kernel) rfl rfl (fun c1 => ?_) (fun c1 => ?_)
  · replace h := h.1 c1
    exact vm_gr (r := none) (i := (.return_, 0, 0, [])) (len := 1) (by decide +kernel) rfl rfl rfl ⟨rfl, h⟩
  · replace h := h.2 c1
    refine vm_gp [(.aload 0, 0, 0, []), (.getfield 0, 7, 1, []), (.iconst 2000, 0, 0, [])] (pc1 := 14) (ls1 := [some (vm_r 1), some (vm_i v1), some (vm_i v2)]) (st1 := [vm_i 2000, vm_i (m 1 1)]) (m1 := m) (ob := (true && vm_is 1 7)) (by decide +kernel) rfl (vm_u rfl (by decide +kernel)) ?_
    refine vm_gj (c := 2000 ≤ (m 1 1)) (t := 43) (e := 17) (i := (.if_icmp .ge 0, 43, 0, [])) (len := 3) (st1 := []) (by decide +kernel) rfl rfl (fun c2 => ?_) (fun c2 => ?_)
    · replace h := h.1 c2
      obtain ⟨o4_0, h⟩ := h
      refine vm_gp [(.iinc 2 (-8), 0, 0, []), (.goto 0, 3, 0, [])] (pc1 := 3) (ls1 := [some (vm_r 1), some (vm_i v1), some (vm_i (v2 + (-8)))]) (st1 := []) (m1 := m) (ob := (true && decide (vm_32 (v2 + (-8))))) (by decide +kernel) rfl (vm_t rfl o4_0) ?_
      exact h
    · replace h := h.2 c2
      obtain ⟨⟨o5_0, o5_1, o5_2⟩, h⟩ := h
      refine vm_gp [(.aload 0, 0, 0, []), (.getfield 2, 7, 0, [(2, 0)]), (.aload 0, 0, 0, []), (.getfield 0, 7, 1, []), (.iload 1, 0, 0, []), (.iload 2, 0, 0, []), (.iushr, 0, 0, []), (.iconst 255, 0, 0, []), (.iand, 0, 0, []), (.iastore, 2000, 0, []), (.aload 0, 0, 0, []), (.dup, 0, 0, []), (.getfield 0, 7, 1, []), (.iconst 1, 0, 0, []), (.iadd, 0, 0, []), (.putfield 0, 7, 1, []), (.iinc 2 (-8), 0, 0, []), (.goto 0, 3, 0, [])] (pc1 := 3) (ls1 := [some (vm_r 1), some (vm_i v1), some (vm_i (v2 + (-8)))]) (st1 := []) (m1 := (vm_st (vm_st m 2 (m 1 1) (vm_and (vm_ushr v1 v2) 255)) 1 1 (((vm_st m 2 (m 1 1) (vm_and (vm_ushr v1 v2) 255)) 1 1) + 1))) (ob := (((((((((true && vm_is 1 7) && true) && vm_is 1 7) && vm_ar 2 100 2000) && decide (0 ≤ (m 1 1) ∧ (m 1 1) < 2000)) && vm_is 1 7) && decide (vm_32 (((vm_st m 2 (m 1 1) (vm_and (vm_ushr v1 v2) 255)) 1 1) + 1))) && vm_is 1 7) && decide (vm_32 (v2 + (-8))))) (by decide +kernel) rfl (vm_t (vm_u (vm_t (vm_u (vm_t (vm_u (vm_u (vm_u (vm_u rfl (by decide +kernel)) rfl) (by decide +kernel)) (by decide +kernel)) o5_0) (by decide +kernel)) o5_1) (by decide +kernel)) o5_2) ?_
      exact h
abbrev ku7_byteAt_0 (v1 : Int) (m : vm_M) (Q : Int → vm_M → Prop) : Prop := vm_G 85 0 [some (vm_r 1), some (vm_i v1)] [] m (vm_qi Q)
set_option maxRecDepth 20000 in
theorem ru7_byteAt_0 {v1 : Int} {m : vm_M} {Q : Int → vm_M → Prop}  (h :
    ((v1 < 0 →
      Q (-1) m) ∧ (¬ v1 < 0 →
      (((m 1 1) ≤ v1 →
        Q (-1) m) ∧ (¬ (m 1 1) ≤ v1 →
        ((0 ≤ v1 ∧ v1 < 2000)) ∧
        Q (m 2 v1) m))))) : vm_C 85 [vm_r 1, vm_i v1] m (vm_qi Q) := by
  show vm_G 85 0 [some (vm_r 1), some (vm_i v1)] [] m (vm_qi Q)
  refine vm_gp [(.iload 1, 0, 0, [])] (pc1 := 1) (ls1 := [some (vm_r 1), some (vm_i v1)]) (st1 := [vm_i v1]) (m1 := m) (ob := true) (by decide +kernel) rfl rfl ?_
  refine vm_gj (c := v1 < 0) (t := 21) (e := 4) (i := (.ifCond .lt 0, 21, 0, [])) (len := 3) (st1 := []) (by decide +kernel) rfl rfl (fun c1 => ?_) (fun c1 => ?_)
  · replace h := h.1 c1
    refine vm_gp [(.iconst (-1), 0, 0, [])] (pc1 := 22) (ls1 := [some (vm_r 1), some (vm_i v1)]) (st1 := [vm_i (-1)]) (m1 := m) (ob := true) (by decide +kernel) rfl rfl ?_
    exact vm_gr (r := some (vm_i (-1))) (i := (.ireturn, 1, 0, [])) (len := 1) (by decide +kernel) rfl rfl rfl ⟨_, rfl, h⟩
  · replace h := h.2 c1
    refine vm_gp [(.iload 1, 0, 0, []), (.aload 0, 0, 0, []), (.getfield 0, 7, 1, [])] (pc1 := 9) (ls1 := [some (vm_r 1), some (vm_i v1)]) (st1 := [vm_i (m 1 1), vm_i v1]) (m1 := m) (ob := (true && vm_is 1 7)) (by decide +kernel) rfl (vm_u rfl (by decide +kernel)) ?_
    refine vm_gj (c := (m 1 1) ≤ v1) (t := 21) (e := 12) (i := (.if_icmp .ge 0, 21, 0, [])) (len := 3) (st1 := []) (by decide +kernel) rfl rfl (fun c2 => ?_) (fun c2 => ?_)
    · replace h := h.1 c2
      refine vm_gp [(.iconst (-1), 0, 0, [])] (pc1 := 22) (ls1 := [some (vm_r 1), some (vm_i v1)]) (st1 := [vm_i (-1)]) (m1 := m) (ob := true) (by decide +kernel) rfl rfl ?_
      exact vm_gr (r := some (vm_i (-1))) (i := (.ireturn, 1, 0, [])) (len := 1) (by decide +kernel) rfl rfl rfl ⟨_, rfl, h⟩
    · replace h := h.2 c2
      obtain ⟨o5_0, h⟩ := h
      refine vm_gp [(.aload 0, 0, 0, []), (.getfield 2, 7, 0, [(2, 0)]), (.iload 1, 0, 0, []), (.iaload, 2000, 0, []), (.goto 0, 22, 0, [])] (pc1 := 22) (ls1 := [some (vm_r 1), some (vm_i v1)]) (st1 := [vm_i (m 2 v1)]) (m1 := m) (ob := ((((true && vm_is 1 7) && true) && vm_ar 2 100 2000) && decide (0 ≤ v1 ∧ v1 < 2000))) (by decide +kernel) rfl (vm_t (vm_u (vm_u (vm_u rfl (by decide +kernel)) rfl) (by decide +kernel)) o5_0) ?_
      exact vm_gr (r := some (vm_i (m 2 v1))) (i := (.ireturn, 1, 0, [])) (len := 1) (by decide +kernel) rfl rfl rfl ⟨_, rfl, h⟩
abbrev ku7_isWhite_0 (v0 : Int) (m : vm_M) (Q : Int → vm_M → Prop) : Prop := vm_G 86 0 [some (vm_i v0)] [] m (vm_qi Q)
set_option maxRecDepth 20000 in
theorem ru7_isWhite_0 {v0 : Int} {m : vm_M} {Q : Int → vm_M → Prop}  (h :
    ((v0 = 32 →
      Q 1 m) ∧ (¬ v0 = 32 →
      ((¬ v0 = 10 →
        Q 0 m) ∧ (¬ ¬ v0 = 10 →
        Q 1 m))))) : vm_C 86 [vm_i v0] m (vm_qi Q) := by
  show vm_G 86 0 [some (vm_i v0)] [] m (vm_qi Q)
  refine vm_gp [(.iload 0, 0, 0, []), (.iconst 32, 0, 0, [])] (pc1 := 3) (ls1 := [some (vm_i v0)]) (st1 := [vm_i 32, vm_i v0]) (m1 := m) (ob := true) (by decide +kernel) rfl rfl ?_
  refine vm_gj (c := v0 = 32) (t := 12) (e := 6) (i := (.if_icmp .eq 0, 12, 0, [])) (len := 3) (st1 := []) (by decide +kernel) rfl rfl (fun c1 => ?_) (fun c1 => ?_)
  · replace h := h.1 c1
    refine vm_gp [(.iconst 1, 0, 0, []), (.goto 0, 17, 0, [])] (pc1 := 17) (ls1 := [some (vm_i v0)]) (st1 := [vm_i 1]) (m1 := m) (ob := true) (by decide +kernel) rfl rfl ?_
    exact vm_gr (r := some (vm_i 1)) (i := (.ireturn, 2, 0, [])) (len := 1) (by decide +kernel) rfl rfl (by decide) ⟨_, rfl, h⟩
  · replace h := h.2 c1
    refine vm_gp [(.iload 0, 0, 0, []), (.iconst 10, 0, 0, [])] (pc1 := 9) (ls1 := [some (vm_i v0)]) (st1 := [vm_i 10, vm_i v0]) (m1 := m) (ob := true) (by decide +kernel) rfl rfl ?_
    refine vm_gj (c := ¬ v0 = 10) (t := 16) (e := 12) (i := (.if_icmp .ne 0, 16, 0, [])) (len := 3) (st1 := []) (by decide +kernel) rfl rfl (fun c2 => ?_) (fun c2 => ?_)
    · replace h := h.1 c2
      refine vm_gp [(.iconst 0, 0, 0, [])] (pc1 := 17) (ls1 := [some (vm_i v0)]) (st1 := [vm_i 0]) (m1 := m) (ob := true) (by decide +kernel) rfl rfl ?_
      exact vm_gr (r := some (vm_i 0)) (i := (.ireturn, 2, 0, [])) (len := 1) (by decide +kernel) rfl rfl (by decide) ⟨_, rfl, h⟩
    · replace h := h.2 c2
      refine vm_gp [(.iconst 1, 0, 0, []), (.goto 0, 17, 0, [])] (pc1 := 17) (ls1 := [some (vm_i v0)]) (st1 := [vm_i 1]) (m1 := m) (ob := true) (by decide +kernel) rfl rfl ?_
      exact vm_gr (r := some (vm_i 1)) (i := (.ireturn, 2, 0, [])) (len := 1) (by decide +kernel) rfl rfl (by decide) ⟨_, rfl, h⟩
abbrev ku8_begin_0  (m : vm_M) (Q : vm_M → Prop) : Prop := vm_G 88 0 [some (vm_r 20)] [] m (vm_qv Q)
set_option maxRecDepth 20000 in
theorem ru8_begin_0  {m : vm_M} {Q : vm_M → Prop}  (h :
    (vm_C 89 [vm_r 20] (vm_st m 20 3 0) (vm_qv (fun m1 =>
      Q m1)))) : vm_C 88 [vm_r 20] m (vm_qv Q) := by
  show vm_G 88 0 [some (vm_r 20)] [] m (vm_qv Q)
  refine vm_gp [(.aload 0, 0, 0, []), (.iconst 0, 0, 0, []), (.putfield 0, 8, 3, []), (.aload 0, 0, 0, [])] (pc1 := 6) (ls1 := [some (vm_r 20)]) (st1 := [vm_r 20]) (m1 := (vm_st m 20 3 0)) (ob := (true && vm_is 20 8)) (by decide +kernel) rfl (vm_u rfl (by decide +kernel)) ?_
  refine vm_gc (g := 89) (na := 1) (av := [vm_r 20]) (rest := []) (i := (.invokevirtual 0, 89, 1, [])) (len := 3) (by decide +kernel) rfl rfl rfl (by decide +kernel) (by decide +kernel) rfl rfl (vm_u (vm_okh_v (c := 8) (by decide +kernel) (by decide +kernel)) (show vm_okn 89 1 0 0 0 1 = true by decide +kernel)) ?_
  refine vm_G.mono h ?_
  rintro _ m1 ⟨rfl, h⟩
  show vm_G 88 9 [some (vm_r 20)] [] m1 _
  exact vm_gr (r := none) (i := (.return_, 0, 0, [])) (len := 1) (by decide +kernel) rfl rfl rfl ⟨rfl, h⟩
abbrev ku8_advance_0  (m : vm_M) (Q : vm_M → Prop) : Prop := vm_G 89 0 [some (vm_r 20)] [] m (vm_qv Q)
abbrev ku8_advance_8  (m : vm_M) (Q : vm_M → Prop) : Prop := vm_G 89 8 [some (vm_r 20)] [] m (vm_qv Q)
abbrev ku8_advance_117  (m : vm_M) (Q : vm_M → Prop) : Prop := vm_G 89 117 [some (vm_r 20)] [] m (vm_qv Q)
set_option maxRecDepth 20000 in
theorem ru8_advance_0  {m : vm_M} {Q : vm_M → Prop}  (h :
    ku8_advance_8 (vm_st m 20 2 (m 20 3)) Q) : vm_C 89 [vm_r 20] m (vm_qv Q) := by
  show vm_G 89 0 [some (vm_r 20)] [] m (vm_qv Q)
  refine vm_gp [(.aload 0, 0, 0, []), (.aload 0, 0, 0, []), (.getfield 0, 8, 3, []), (.putfield 0, 8, 2, [])] (pc1 := 8) (ls1 := [some (vm_r 20)]) (st1 := []) (m1 := (vm_st m 20 2 (m 20 3))) (ob := ((true && vm_is 20 8) && vm_is 20 8)) (by decide +kernel) rfl (vm_u (vm_u rfl (by decide +kernel)) (by decide +kernel)) ?_
  exact h
set_option maxRecDepth 20000 in
theorem ru8_advance_8  {m : vm_M} {Q : vm_M → Prop}  (h :
    (((m 1 1) ≤ (m 20 2) →
      (vm_C 85 [vm_r 1, vm_i (m 20 2)] m (vm_qi (fun z1 m1 =>
        (vm_C 94 [vm_i z1] m1 (vm_qi (fun z2 m2 =>
          ((((vm_st m2 20 1 z2) 1 1) ≤ ((vm_st m2 20 1 z2) 20 2) →
            ((((vm_st (vm_st m2 20 1 z2) 20 3 ((vm_st m2 20 1 z2) 20 2)) 20 1) = 1 →
              ku8_advance_117 (vm_st (vm_st m2 20 1 z2) 20 3 ((vm_st m2 20 1 z2) 20 2)) Q) ∧ (¬ ((vm_st (vm_st m2 20 1 z2) 20 3 ((vm_st m2 20 1 z2) 20 2)) 20 1) = 1 →
              ((¬ ((vm_st (vm_st m2 20 1 z2) 20 3 ((vm_st m2 20 1 z2) 20 2)) 20 1) = 2 →
                ((¬ ((vm_st (vm_st m2 20 1 z2) 20 3 ((vm_st m2 20 1 z2) 20 2)) 20 1) = 2 →
                  Q (vm_st (vm_st m2 20 1 z2) 20 3 ((vm_st m2 20 1 z2) 20 2))) ∧ (¬ ¬ ((vm_st (vm_st m2 20 1 z2) 20 3 ((vm_st m2 20 1 z2) 20 2)) 20 1) = 2 →
                  (vm_C 93 [vm_r 20] (vm_st (vm_st m2 20 1 z2) 20 3 ((vm_st m2 20 1 z2) 20 2)) (vm_qv (fun m3 =>
                    Q m3)))))) ∧ (¬ ¬ ((vm_st (vm_st m2 20 1 z2) 20 3 ((vm_st m2 20 1 z2) 20 2)) 20 1) = 2 →
                ku8_advance_117 (vm_st (vm_st m2 20 1 z2) 20 3 ((vm_st m2 20 1 z2) 20 2)) Q))))) ∧ (¬ ((vm_st m2 20 1 z2) 1 1) ≤ ((vm_st m2 20 1 z2) 20 2) →
            ((vm_32 (((vm_st m2 20 1 z2) 20 2) + 1))) ∧
            ((((vm_st (vm_st m2 20 1 z2) 20 3 (((vm_st m2 20 1 z2) 20 2) + 1)) 20 1) = 1 →
              ku8_advance_117 (vm_st (vm_st m2 20 1 z2) 20 3 (((vm_st m2 20 1 z2) 20 2) + 1)) Q) ∧ (¬ ((vm_st (vm_st m2 20 1 z2) 20 3 (((vm_st m2 20 1 z2) 20 2) + 1)) 20 1) = 1 →
              ((¬ ((vm_st (vm_st m2 20 1 z2) 20 3 (((vm_st m2 20 1 z2) 20 2) + 1)) 20 1) = 2 →
                ((¬ ((vm_st (vm_st m2 20 1 z2) 20 3 (((vm_st m2 20 1 z2) 20 2) + 1)) 20 1) = 2 →
                  Q (vm_st (vm_st m2 20 1 z2) 20 3 (((vm_st m2 20 1 z2) 20 2) + 1))) ∧ (¬ ¬ ((vm_st (vm_st m2 20 1 z2) 20 3 (((vm_st m2 20 1 z2) 20 2) + 1)) 20 1) = 2 →
                  (vm_C 93 [vm_r 20] (vm_st (vm_st m2 20 1 z2) 20 3 (((vm_st m2 20 1 z2) 20 2) + 1)) (vm_qv (fun m4 =>
                    Q m4)))))) ∧ (¬ ¬ ((vm_st (vm_st m2 20 1 z2) 20 3 (((vm_st m2 20 1 z2) 20 2) + 1)) 20 1) = 2 →
                ku8_advance_117 (vm_st (vm_st m2 20 1 z2) 20 3 (((vm_st m2 20 1 z2) 20 2) + 1)) Q))))))))))))) ∧ (¬ (m 1 1) ≤ (m 20 2) →
      (vm_C 85 [vm_r 1, vm_i (m 20 2)] m (vm_qi (fun z5 m5 =>
        (vm_C 86 [vm_i z5] m5 (vm_qi (fun z6 m6 =>
          ((z6 = 0 →
            (vm_C 85 [vm_r 1, vm_i (m6 20 2)] m6 (vm_qi (fun z7 m7 =>
              (vm_C 94 [vm_i z7] m7 (vm_qi (fun z8 m8 =>
                ((((vm_st m8 20 1 z8) 1 1) ≤ ((vm_st m8 20 1 z8) 20 2) →
                  ((((vm_st (vm_st m8 20 1 z8) 20 3 ((vm_st m8 20 1 z8) 20 2)) 20 1) = 1 →
                    ku8_advance_117 (vm_st (vm_st m8 20 1 z8) 20 3 ((vm_st m8 20 1 z8) 20 2)) Q) ∧ (¬ ((vm_st (vm_st m8 20 1 z8) 20 3 ((vm_st m8 20 1 z8) 20 2)) 20 1) = 1 →
                    ((¬ ((vm_st (vm_st m8 20 1 z8) 20 3 ((vm_st m8 20 1 z8) 20 2)) 20 1) = 2 →
                      ((¬ ((vm_st (vm_st m8 20 1 z8) 20 3 ((vm_st m8 20 1 z8) 20 2)) 20 1) = 2 →
                        Q (vm_st (vm_st m8 20 1 z8) 20 3 ((vm_st m8 20 1 z8) 20 2))) ∧ (¬ ¬ ((vm_st (vm_st m8 20 1 z8) 20 3 ((vm_st m8 20 1 z8) 20 2)) 20 1) = 2 →
                        (vm_C 93 [vm_r 20] (vm_st (vm_st m8 20 1 z8) 20 3 ((vm_st m8 20 1 z8) 20 2)) (vm_qv (fun m9 =>
                          Q m9)))))) ∧ (¬ ¬ ((vm_st (vm_st m8 20 1 z8) 20 3 ((vm_st m8 20 1 z8) 20 2)) 20 1) = 2 →
                      ku8_advance_117 (vm_st (vm_st m8 20 1 z8) 20 3 ((vm_st m8 20 1 z8) 20 2)) Q))))) ∧ (¬ ((vm_st m8 20 1 z8) 1 1) ≤ ((vm_st m8 20 1 z8) 20 2) →
                  ((vm_32 (((vm_st m8 20 1 z8) 20 2) + 1))) ∧
                  ((((vm_st (vm_st m8 20 1 z8) 20 3 (((vm_st m8 20 1 z8) 20 2) + 1)) 20 1) = 1 →
                    ku8_advance_117 (vm_st (vm_st m8 20 1 z8) 20 3 (((vm_st m8 20 1 z8) 20 2) + 1)) Q) ∧ (¬ ((vm_st (vm_st m8 20 1 z8) 20 3 (((vm_st m8 20 1 z8) 20 2) + 1)) 20 1) = 1 →
                    ((¬ ((vm_st (vm_st m8 20 1 z8) 20 3 (((vm_st m8 20 1 z8) 20 2) + 1)) 20 1) = 2 →
                      ((¬ ((vm_st (vm_st m8 20 1 z8) 20 3 (((vm_st m8 20 1 z8) 20 2) + 1)) 20 1) = 2 →
                        Q (vm_st (vm_st m8 20 1 z8) 20 3 (((vm_st m8 20 1 z8) 20 2) + 1))) ∧ (¬ ¬ ((vm_st (vm_st m8 20 1 z8) 20 3 (((vm_st m8 20 1 z8) 20 2) + 1)) 20 1) = 2 →
                        (vm_C 93 [vm_r 20] (vm_st (vm_st m8 20 1 z8) 20 3 (((vm_st m8 20 1 z8) 20 2) + 1)) (vm_qv (fun m10 =>
                          Q m10)))))) ∧ (¬ ¬ ((vm_st (vm_st m8 20 1 z8) 20 3 (((vm_st m8 20 1 z8) 20 2) + 1)) 20 1) = 2 →
                      ku8_advance_117 (vm_st (vm_st m8 20 1 z8) 20 3 (((vm_st m8 20 1 z8) 20 2) + 1)) Q))))))))))))) ∧ (¬ z6 = 0 →
            ((vm_32 ((m6 20 2) + 1))) ∧
            ku8_advance_8 (vm_st m6 20 2 ((m6 20 2) + 1)) Q))))))))))) : ku8_advance_8 m Q := by
  show vm_G 89 8 [some (vm_r 20)] [] m (vm_qv Q)
  refine vm_gp [(.aload 0, 0, 0, []), (.getfield 0, 8, 2, []), (.aload 0, 0, 0, []), (.getfield 2, 8, 0, [(1, 0)]), (.getfield 0, 7, 1, [])] (pc1 := 19) (ls1 := [some (vm_r 20)]) (st1 := [vm_i (m 1 1), vm_i (m 20 2)]) (m1 := m) (ob := ((((true && vm_is 20 8) && vm_is 20 8) && true) && vm_is 1 7)) (by decide +kernel) rfl (vm_u (vm_u (vm_u (vm_u rfl (by decide +kernel)) (by decide +kernel)) rfl) (by decide +kernel)) ?_
  refine vm_gj (c := (m 1 1) ≤ (m 20 2)) (t := 52) (e := 22) (i := (.if_icmp .ge 0, 52, 0, [])) (len := 3) (st1 := []) (by decide +kernel) rfl rfl (fun c1 => ?_) (fun c1 => ?_)
  · replace h := h.1 c1
    refine vm_gp [(.aload 0, 0, 0, []), (.aload 0, 0, 0, []), (.getfield 2, 8, 0, [(1, 0)]), (.aload 0, 0, 0, []), (.getfield 0, 8, 2, [])] (pc1 := 61) (ls1 := [some (vm_r 20)]) (st1 := [vm_i (m 20 2), vm_r 1, vm_r 20]) (m1 := m) (ob := (((true && vm_is 20 8) && true) && vm_is 20 8)) (by decide +kernel) rfl (vm_u (vm_u (vm_u rfl (by decide +kernel)) rfl) (by decide +kernel)) ?_
    refine vm_gc (g := 85) (na := 2) (av := [vm_r 1, vm_i (m 20 2)]) (rest := [vm_r 20]) (i := (.invokevirtual 0, 85, 2, [])) (len := 3) (by decide +kernel) rfl rfl rfl (by decide +kernel) (by decide +kernel) rfl rfl (vm_u (vm_okh_v (c := 7) (by decide +kernel) (by decide +kernel)) (show vm_okn 85 2 1 0 0 2 = true by decide +kernel)) ?_
    refine vm_G.mono h ?_
    rintro _ m1 ⟨z1, rfl, h⟩
    show vm_G 89 64 [some (vm_r 20)] [vm_i z1, vm_r 20] m1 _
    refine vm_gc (g := 94) (na := 1) (av := [vm_i z1]) (rest := [vm_r 20]) (i := (.invokestatic 0, 94, 1, [])) (len := 3) (by decide +kernel) rfl rfl rfl (by decide +kernel) (by decide +kernel) rfl rfl (vm_u (vm_okh_s (by decide +kernel)) (show vm_okn 94 1 1 0 0 1 = true by decide +kernel)) ?_
    refine vm_G.mono h ?_
    rintro _ m2 ⟨z2, rfl, h⟩
    show vm_G 89 67 [some (vm_r 20)] [vm_i z2, vm_r 20] m2 _
    refine vm_gp [(.putfield 0, 8, 1, []), (.aload 0, 0, 0, []), (.aload 0, 0, 0, []), (.getfield 0, 8, 2, []), (.aload 0, 0, 0, []), (.getfield 2, 8, 0, [(1, 0)]), (.getfield 0, 7, 1, [])] (pc1 := 82) (ls1 := [some (vm_r 20)]) (st1 := [vm_i ((vm_st m2 20 1 z2) 1 1), vm_i ((vm_st m2 20 1 z2) 20 2), vm_r 20]) (m1 := (vm_st m2 20 1 z2)) (ob := (((((true && vm_is 20 8) && vm_is 20 8) && vm_is 20 8) && true) && vm_is 1 7)) (by decide +kernel) rfl (vm_u (vm_u (vm_u (vm_u (vm_u rfl (by decide +kernel)) (by decide +kernel)) (by decide +kernel)) rfl) (by decide +kernel)) ?_
    refine vm_gj (c := ((vm_st m2 20 1 z2) 1 1) ≤ ((vm_st m2 20 1 z2) 20 2)) (t := 94) (e := 85) (i := (.if_icmp .ge 0, 94, 0, [])) (len := 3) (st1 := [vm_r 20]) (by decide +kernel) rfl rfl (fun c2 => ?_) (fun c2 => ?_)
    · replace h := h.1 c2
      refine vm_gp [(.aload 0, 0, 0, []), (.getfield 0, 8, 2, []), (.putfield 0, 8, 3, []), (.aload 0, 0, 0, []), (.getfield 0, 8, 1, []), (.iconst 1, 0, 0, [])] (pc1 := 106) (ls1 := [some (vm_r 20)]) (st1 := [vm_i 1, vm_i ((vm_st (vm_st m2 20 1 z2) 20 3 ((vm_st m2 20 1 z2) 20 2)) 20 1)]) (m1 := (vm_st (vm_st m2 20 1 z2) 20 3 ((vm_st m2 20 1 z2) 20 2))) (ob := (((true && vm_is 20 8) && vm_is 20 8) && vm_is 20 8)) (by decide +kernel) rfl (vm_u (vm_u (vm_u rfl (by decide +kernel)) (by decide +kernel)) (by decide +kernel)) ?_
      refine vm_gj (c := ((vm_st (vm_st m2 20 1 z2) 20 3 ((vm_st m2 20 1 z2) 20 2)) 20 1) = 1) (t := 117) (e := 109) (i := (.if_icmp .eq 0, 117, 0, [])) (len := 3) (st1 := []) (by decide +kernel) rfl rfl (fun c3 => ?_) (fun c3 => ?_)
      · replace h := h.1 c3
        exact h
      · replace h := h.2 c3
        refine vm_gp [(.aload 0, 0, 0, []), (.getfield 0, 8, 1, []), (.iconst 2, 0, 0, [])] (pc1 := 114) (ls1 := [some (vm_r 20)]) (st1 := [vm_i 2, vm_i ((vm_st (vm_st m2 20 1 z2) 20 3 ((vm_st m2 20 1 z2) 20 2)) 20 1)]) (m1 := (vm_st (vm_st m2 20 1 z2) 20 3 ((vm_st m2 20 1 z2) 20 2))) (ob := (true && vm_is 20 8)) (by decide +kernel) rfl (vm_u rfl (by decide +kernel)) ?_
        refine vm_gj (c := ¬ ((vm_st (vm_st m2 20 1 z2) 20 3 ((vm_st m2 20 1 z2) 20 2)) 20 1) = 2) (t := 165) (e := 117) (i := (.if_icmp .ne 0, 165, 0, [])) (len := 3) (st1 := []) (by decide +kernel) rfl rfl (fun c4 => ?_) (fun c4 => ?_)
        · replace h := h.1 c4
          refine vm_gp [(.aload 0, 0, 0, []), (.getfield 0, 8, 1, []), (.iconst 2, 0, 0, [])] (pc1 := 170) (ls1 := [some (vm_r 20)]) (st1 := [vm_i 2, vm_i ((vm_st (vm_st m2 20 1 z2) 20 3 ((vm_st m2 20 1 z2) 20 2)) 20 1)]) (m1 := (vm_st (vm_st m2 20 1 z2) 20 3 ((vm_st m2 20 1 z2) 20 2))) (ob := (true && vm_is 20 8)) (by decide +kernel) rfl (vm_u rfl (by decide +kernel)) ?_
          refine vm_gj (c := ¬ ((vm_st (vm_st m2 20 1 z2) 20 3 ((vm_st m2 20 1 z2) 20 2)) 20 1) = 2) (t := 177) (e := 173) (i := (.if_icmp .ne 0, 177, 0, [])) (len := 3) (st1 := []) (by decide +kernel) rfl rfl (fun c5 => ?_) (fun c5 => ?_)
          · replace h := h.1 c5
            exact vm_gr (r := none) (i := (.return_, 0, 0, [])) (len := 1) (by decide +kernel) rfl rfl rfl ⟨rfl, h⟩
          · replace h := h.2 c5
            refine vm_gp [(.aload 0, 0, 0, [])] (pc1 := 174) (ls1 := [some (vm_r 20)]) (st1 := [vm_r 20]) (m1 := (vm_st (vm_st m2 20 1 z2) 20 3 ((vm_st m2 20 1 z2) 20 2))) (ob := true) (by decide +kernel) rfl rfl ?_
            refine vm_gc (g := 93) (na := 1) (av := [vm_r 20]) (rest := []) (i := (.invokevirtual 0, 93, 1, [])) (len := 3) (by decide +kernel) rfl rfl rfl (by decide +kernel) (by decide +kernel) rfl rfl (vm_u (vm_okh_v (c := 8) (by decide +kernel) (by decide +kernel)) (show vm_okn 93 1 0 0 0 1 = true by decide +kernel)) ?_
            refine vm_G.mono h ?_
            rintro _ m3 ⟨rfl, h⟩
            show vm_G 89 177 [some (vm_r 20)] [] m3 _
            exact vm_gr (r := none) (i := (.return_, 0, 0, [])) (len := 1) (by decide +kernel) rfl rfl rfl ⟨rfl, h⟩
        · replace h := h.2 c4
          exact h
    · replace h := h.2 c2
      obtain ⟨o13_0, h⟩ := h
      refine vm_gp [(.aload 0, 0, 0, []), (.getfield 0, 8, 2, []), (.iconst 1, 0, 0, []), (.iadd, 0, 0, []), (.goto 0, 98, 0, []), (.putfield 0, 8, 3, []), (.aload 0, 0, 0, []), (.getfield 0, 8, 1, []), (.iconst 1, 0, 0, [])] (pc1 := 106) (ls1 := [some (vm_r 20)]) (st1 := [vm_i 1, vm_i ((vm_st (vm_st m2 20 1 z2) 20 3 (((vm_st m2 20 1 z2) 20 2) + 1)) 20 1)]) (m1 := (vm_st (vm_st m2 20 1 z2) 20 3 (((vm_st m2 20 1 z2) 20 2) + 1))) (ob := ((((true && vm_is 20 8) && decide (vm_32 (((vm_st m2 20 1 z2) 20 2) + 1))) && vm_is 20 8) && vm_is 20 8)) (by decide +kernel) rfl (vm_u (vm_u (vm_t (vm_u rfl (by decide +kernel)) o13_0) (by decide +kernel)) (by decide +kernel)) ?_
      refine vm_gj (c := ((vm_st (vm_st m2 20 1 z2) 20 3 (((vm_st m2 20 1 z2) 20 2) + 1)) 20 1) = 1) (t := 117) (e := 109) (i := (.if_icmp .eq 0, 117, 0, [])) (len := 3) (st1 := []) (by decide +kernel) rfl rfl (fun c6 => ?_) (fun c6 => ?_)
      · replace h := h.1 c6
        exact h
      · replace h := h.2 c6
        refine vm_gp [(.aload 0, 0, 0, []), (.getfield 0, 8, 1, []), (.iconst 2, 0, 0, [])] (pc1 := 114) (ls1 := [some (vm_r 20)]) (st1 := [vm_i 2, vm_i ((vm_st (vm_st m2 20 1 z2) 20 3 (((vm_st m2 20 1 z2) 20 2) + 1)) 20 1)]) (m1 := (vm_st (vm_st m2 20 1 z2) 20 3 (((vm_st m2 20 1 z2) 20 2) + 1))) (ob := (true && vm_is 20 8)) (by decide +kernel) rfl (vm_u rfl (by decide +kernel)) ?_
        refine vm_gj (c := ¬ ((vm_st (vm_st m2 20 1 z2) 20 3 (((vm_st m2 20 1 z2) 20 2) + 1)) 20 1) = 2) (t := 165) (e := 117) (i := (.if_icmp .ne 0, 165, 0, [])) (len := 3) (st1 := []) (by decide +kernel) rfl rfl (fun c7 => ?_) (fun c7 => ?_)
        · replace h := h.1 c7
          refine vm_gp [(.aload 0, 0, 0, []), (.getfield 0, 8, 1, []), (.iconst 2, 0, 0, [])] (pc1 := 170) (ls1 := [some (vm_r 20)]) (st1 := [vm_i 2, vm_i ((vm_st (vm_st m2 20 1 z2) 20 3 (((vm_st m2 20 1 z2) 20 2) + 1)) 20 1)]) (m1 := (vm_st (vm_st m2 20 1 z2) 20 3 (((vm_st m2 20 1 z2) 20 2) + 1))) (ob := (true && vm_is 20 8)) (by decide +kernel) rfl (vm_u rfl (by decide +kernel)) ?_
          refine vm_gj (c := ¬ ((vm_st (vm_st m2 20 1 z2) 20 3 (((vm_st m2 20 1 z2) 20 2) + 1)) 20 1) = 2) (t := 177) (e := 173) (i := (.if_icmp .ne 0, 177, 0, [])) (len := 3) (st1 := []) (by decide +kernel) rfl rfl (fun c8 => ?_) (fun c8 => ?_)
          · replace h := h.1 c8
            exact vm_gr (r := none) (i := (.return_, 0, 0, [])) (len := 1) (by decide +kernel) rfl rfl rfl ⟨rfl, h⟩
          · replace h := h.2 c8
            refine vm_gp [(.aload 0, 0, 0, [])] (pc1 := 174) (ls1 := [some (vm_r 20)]) (st1 := [vm_r 20]) (m1 := (vm_st (vm_st m2 20 1 z2) 20 3 (((vm_st m2 20 1 z2) 20 2) + 1))) (ob := true) (by decide +kernel) rfl rfl ?_
            refine vm_gc (g := 93) (na := 1) (av := [vm_r 20]) (rest := []) (i := (.invokevirtual 0, 93, 1, [])) (len := 3) (by decide +kernel) rfl rfl rfl (by decide +kernel) (by decide +kernel) rfl rfl (vm_u (vm_okh_v (c := 8) (by decide +kernel) (by decide +kernel)) (show vm_okn 93 1 0 0 0 1 = true by decide +kernel)) ?_
            refine vm_G.mono h ?_
            rintro _ m4 ⟨rfl, h⟩
            show vm_G 89 177 [some (vm_r 20)] [] m4 _
            exact vm_gr (r := none) (i := (.return_, 0, 0, [])) (len := 1) (by decide +kernel) rfl rfl rfl ⟨rfl, h⟩
        · replace h := h.2 c7
          exact h
  · replace h := h.2 c1
    refine vm_gp [(.aload 0, 0, 0, []), (.getfield 2, 8, 0, [(1, 0)]), (.aload 0, 0, 0, []), (.getfield 0, 8, 2, [])] (pc1 := 30) (ls1 := [some (vm_r 20)]) (st1 := [vm_i (m 20 2), vm_r 1]) (m1 := m) (ob := (((true && vm_is 20 8) && true) && vm_is 20 8)) (by decide +kernel) rfl (vm_u (vm_u (vm_u rfl (by decide +kernel)) rfl) (by decide +kernel)) ?_
    refine vm_gc (g := 85) (na := 2) (av := [vm_r 1, vm_i (m 20 2)]) (rest := []) (i := (.invokevirtual 0, 85, 2, [])) (len := 3) (by decide +kernel) rfl rfl rfl (by decide +kernel) (by decide +kernel) rfl rfl (vm_u (vm_okh_v (c := 7) (by decide +kernel) (by decide +kernel)) (show vm_okn 85 2 0 0 0 2 = true by decide +kernel)) ?_
    refine vm_G.mono h ?_
    rintro _ m5 ⟨z5, rfl, h⟩
    show vm_G 89 33 [some (vm_r 20)] [vm_i z5] m5 _
    refine vm_gc (g := 86) (na := 1) (av := [vm_i z5]) (rest := []) (i := (.invokestatic 0, 86, 1, [])) (len := 3) (by decide +kernel) rfl rfl rfl (by decide +kernel) (by decide +kernel) rfl rfl (vm_u (vm_okh_s (by decide +kernel)) (show vm_okn 86 1 0 0 0 1 = true by decide +kernel)) ?_
    refine vm_G.mono h ?_
    rintro _ m6 ⟨z6, rfl, h⟩
    show vm_G 89 36 [some (vm_r 20)] [vm_i z6] m6 _
    refine vm_gj (c := z6 = 0) (t := 52) (e := 39) (i := (.ifCond .eq 0, 52, 0, [])) (len := 3) (st1 := []) (by decide +kernel) rfl rfl (fun c9 => ?_) (fun c9 => ?_)
    · replace h := h.1 c9
      refine vm_gp [(.aload 0, 0, 0, []), (.aload 0, 0, 0, []), (.getfield 2, 8, 0, [(1, 0)]), (.aload 0, 0, 0, []), (.getfield 0, 8, 2, [])] (pc1 := 61) (ls1 := [some (vm_r 20)]) (st1 := [vm_i (m6 20 2), vm_r 1, vm_r 20]) (m1 := m6) (ob := (((true && vm_is 20 8) && true) && vm_is 20 8)) (by decide +kernel) rfl (vm_u (vm_u (vm_u rfl (by decide +kernel)) rfl) (by decide +kernel)) ?_
      refine vm_gc (g := 85) (na := 2) (av := [vm_r 1, vm_i (m6 20 2)]) (rest := [vm_r 20]) (i := (.invokevirtual 0, 85, 2, [])) (len := 3) (by decide +kernel) rfl rfl rfl (by decide +kernel) (by decide +kernel) rfl rfl (vm_u (vm_okh_v (c := 7) (by decide +kernel) (by decide +kernel)) (show vm_okn 85 2 1 0 0 2 = true by decide +kernel)) ?_
      refine vm_G.mono h ?_
      rintro _ m7 ⟨z7, rfl, h⟩
      show vm_G 89 64 [some (vm_r 20)] [vm_i z7, vm_r 20] m7 _
      refine vm_gc (g := 94) (na := 1) (av := [vm_i z7]) (rest := [vm_r 20]) (i := (.invokestatic 0, 94, 1, [])) (len := 3) (by decide +kernel) rfl rfl rfl (by decide +kernel) (by decide +kernel) rfl rfl (vm_u (vm_okh_s (by decide +kernel)) (show vm_okn 94 1 1 0 0 1 = true by decide +kernel)) ?_
      refine vm_G.mono h ?_
      rintro _ m8 ⟨z8, rfl, h⟩
      show vm_G 89 67 [some (vm_r 20)] [vm_i z8, vm_r 20] m8 _
      refine vm_gp [(.putfield 0, 8, 1, []), (.aload 0, 0, 0, []), (.aload 0, 0, 0, []), (.getfield 0, 8, 2, []), (.aload 0, 0, 0, []), (.getfield 2, 8, 0, [(1, 0)]), (.getfield 0, 7, 1, [])] (pc1 := 82) (ls1 := [some (vm_r 20)]) (st1 := [vm_i ((vm_st m8 20 1 z8) 1 1), vm_i ((vm_st m8 20 1 z8) 20 2), vm_r 20]) (m1 := (vm_st m8 20 1 z8)) (ob := (((((true && vm_is 20 8) && vm_is 20 8) && vm_is 20 8) && true) && vm_is 1 7)) (by decide +kernel) rfl (vm_u (vm_u (vm_u (vm_u (vm_u rfl (by decide +kernel)) (by decide +kernel)) (by decide +kernel)) rfl) (by decide +kernel)) ?_
      refine vm_gj (c := ((vm_st m8 20 1 z8) 1 1) ≤ ((vm_st m8 20 1 z8) 20 2)) (t := 94) (e := 85) (i := (.if_icmp .ge 0, 94, 0, [])) (len := 3) (st1 := [vm_r 20]) (by decide +kernel) rfl rfl (fun c10 => ?_) (fun c10 => ?_)
      · replace h := h.1 c10
        refine vm_gp [(.aload 0, 0, 0, []), (.getfield 0, 8, 2, []), (.putfield 0, 8, 3, []), (.aload 0, 0, 0, []), (.getfield 0, 8, 1, []), (.iconst 1, 0, 0, [])] (pc1 := 106) (ls1 := [some (vm_r 20)]) (st1 := [vm_i 1, vm_i ((vm_st (vm_st m8 20 1 z8) 20 3 ((vm_st m8 20 1 z8) 20 2)) 20 1)]) (m1 := (vm_st (vm_st m8 20 1 z8) 20 3 ((vm_st m8 20 1 z8) 20 2))) (ob := (((true && vm_is 20 8) && vm_is 20 8) && vm_is 20 8)) (by decide +kernel) rfl (vm_u (vm_u (vm_u rfl (by decide +kernel)) (by decide +kernel)) (by decide +kernel)) ?_
        refine vm_gj (c := ((vm_st (vm_st m8 20 1 z8) 20 3 ((vm_st m8 20 1 z8) 20 2)) 20 1) = 1) (t := 117) (e := 109) (i := (.if_icmp .eq 0, 117, 0, [])) (len := 3) (st1 := []) (by decide +kernel) rfl rfl (fun c11 => ?_) (fun c11 => ?_)
        · replace h := h.1 c11
          exact h
        · replace h := h.2 c11
          refine vm_gp [(.aload 0, 0, 0, []), (.getfield 0, 8, 1, []), (.iconst 2, 0, 0, [])] (pc1 := 114) (ls1 := [some (vm_r 20)]) (st1 := [vm_i 2, vm_i ((vm_st (vm_st m8 20 1 z8) 20 3 ((vm_st m8 20 1 z8) 20 2)) 20 1)]) (m1 := (vm_st (vm_st m8 20 1 z8) 20 3 ((vm_st m8 20 1 z8) 20 2))) (ob := (true && vm_is 20 8)) (by decide +kernel) rfl (vm_u rfl (by decide +kernel)) ?_
          refine vm_gj (c := ¬ ((vm_st (vm_st m8 20 1 z8) 20 3 ((vm_st m8 20 1 z8) 20 2)) 20 1) = 2) (t := 165) (e := 117) (i := (.if_icmp .ne 0, 165, 0, [])) (len := 3) (st1 := []) (by decide +kernel) rfl rfl (fun c12 => ?_) (fun c12 => ?_)
          · replace h := h.1 c12
            refine vm_gp [(.aload 0, 0, 0, []), (.getfield 0, 8, 1, []), (.iconst 2, 0, 0, [])] (pc1 := 170) (ls1 := [some (vm_r 20)]) (st1 := [vm_i 2, vm_i ((vm_st (vm_st m8 20 1 z8) 20 3 ((vm_st m8 20 1 z8) 20 2)) 20 1)]) (m1 := (vm_st (vm_st m8 20 1 z8) 20 3 ((vm_st m8 20 1 z8) 20 2))) (ob := (true && vm_is 20 8)) (by decide +kernel) rfl (vm_u rfl (by decide +kernel)) ?_
            refine vm_gj (c := ¬ ((vm_st (vm_st m8 20 1 z8) 20 3 ((vm_st m8 20 1 z8) 20 2)) 20 1) = 2) (t := 177) (e := 173) (i := (.if_icmp .ne 0, 177, 0, [])) (len := 3) (st1 := []) (by decide +kernel) rfl rfl (fun c13 => ?_) (fun c13 => ?_)
            · replace h := h.1 c13
              exact vm_gr (r := none) (i := (.return_, 0, 0, [])) (len := 1) (by decide +kernel) rfl rfl rfl ⟨rfl, h⟩
            · replace h := h.2 c13
              refine vm_gp [(.aload 0, 0, 0, [])] (pc1 := 174) (ls1 := [some (vm_r 20)]) (st1 := [vm_r 20]) (m1 := (vm_st (vm_st m8 20 1 z8) 20 3 ((vm_st m8 20 1 z8) 20 2))) (ob := true) (by decide +kernel) rfl rfl ?_
              refine vm_gc (g := 93) (na := 1) (av := [vm_r 20]) (rest := []) (i := (.invokevirtual 0, 93, 1, [])) (len := 3) (by decide +kernel) rfl rfl rfl (by decide +kernel) (by decide +kernel) rfl rfl (vm_u (vm_okh_v (c := 8) (by decide +kernel) (by decide +kernel)) (show vm_okn 93 1 0 0 0 1 = true by decide +kernel)) ?_
              refine vm_G.mono h ?_
              rintro _ m9 ⟨rfl, h⟩
              show vm_G 89 177 [some (vm_r 20)] [] m9 _
              exact vm_gr (r := none) (i := (.return_, 0, 0, [])) (len := 1) (by decide +kernel) rfl rfl rfl ⟨rfl, h⟩
          · replace h := h.2 c12
            exact h
      · replace h := h.2 c10
        obtain ⟨o35_0, h⟩ := h
        refine vm_gp [(.aload 0, 0, 0, []), (.getfield 0, 8, 2, []), (.iconst 1, 0, 0, []), (.iadd, 0, 0, []), (.goto 0, 98, 0, []), (.putfield 0, 8, 3, []), (.aload 0, 0, 0, []), (.getfield 0, 8, 1, []), (.iconst 1, 0, 0, [])] (pc1 := 106) (ls1 := [some (vm_r 20)]) (st1 := [vm_i 1, vm_i ((vm_st (vm_st m8 20 1 z8) 20 3 (((vm_st m8 20 1 z8) 20 2) + 1)) 20 1)]) (m1 := (vm_st (vm_st m8 20 1 z8) 20 3 (((vm_st m8 20 1 z8) 20 2) + 1))) (ob := ((((true && vm_is 20 8) && decide (vm_32 (((vm_st m8 20 1 z8) 20 2) + 1))) && vm_is 20 8) && vm_is 20 8)) (by decide +kernel) rfl (vm_u (vm_u (vm_t (vm_u rfl (by decide +kernel)) o35_0) (by decide +kernel)) (by decide +kernel)) ?_
        refine vm_gj (c := ((vm_st (vm_st m8 20 1 z8) 20 3 (((vm_st m8 20 1 z8) 20 2) + 1)) 20 1) = 1) (t := 117) (e := 109) (i := (.if_icmp .eq 0, 117, 0, [])) (len := 3) (st1 := []) (by decide +kernel) rfl rfl (fun c14 => ?_) (fun c14 => ?_)
        · replace h := h.1 c14
          exact h
        · replace h := h.2 c14
          refine vm_gp [(.aload 0, 0, 0, []), (.getfield 0, 8, 1, []), (.iconst 2, 0, 0, [])] (pc1 := 114) (ls1 := [some (vm_r 20)]) (st1 := [vm_i 2, vm_i ((vm_st (vm_st m8 20 1 z8) 20 3 (((vm_st m8 20 1 z8) 20 2) + 1)) 20 1)]) (m1 := (vm_st (vm_st m8 20 1 z8) 20 3 (((vm_st m8 20 1 z8) 20 2) + 1))) (ob := (true && vm_is 20 8)) (by decide +kernel) rfl (vm_u rfl (by decide +kernel)) ?_
          refine vm_gj (c := ¬ ((vm_st (vm_st m8 20 1 z8) 20 3 (((vm_st m8 20 1 z8) 20 2) + 1)) 20 1) = 2) (t := 165) (e := 117) (i := (.if_icmp .ne 0, 165, 0, [])) (len := 3) (st1 := []) (by decide +kernel) rfl rfl (fun c15 => ?_) (fun c15 => ?_)
          · replace h := h.1 c15
            refine vm_gp [(.aload 0, 0, 0, []), (.getfield 0, 8, 1, []), (.iconst 2, 0, 0, [])] (pc1 := 170) (ls1 := [some (vm_r 20)]) (st1 := [vm_i 2, vm_i ((vm_st (vm_st m8 20 1 z8) 20 3 (((vm_st m8 20 1 z8) 20 2) + 1)) 20 1)]) (m1 := (vm_st (vm_st m8 20 1 z8) 20 3 (((vm_st m8 20 1 z8) 20 2) + 1))) (ob := (true && vm_is 20 8)) (by decide +kernel) rfl (vm_u rfl (by decide +kernel)) ?_
            refine vm_gj (c := ¬ ((vm_st (vm_st m8 20 1 z8) 20 3 (((vm_st m8 20 1 z8) 20 2) + 1)) 20 1) = 2) (t := 177) (e := 173) (i := (.if_icmp .ne 0, 177, 0, [])) (len := 3) (st1 := []) (by decide +kernel) rfl rfl (fun c16 => ?_) (fun c16 => ?_)
            · replace h := h.1 c16
              exact vm_gr (r := none) (i := (.return_, 0, 0, [])) (len := 1) (by decide +kernel) rfl rfl rfl ⟨rfl, h⟩
            · replace h := h.2 c16
              refine vm_gp [(.aload 0, 0, 0, [])] (pc1 := 174) (ls1 := [some (vm_r 20)]) (st1 := [vm_r 20]) (m1 := (vm_st (vm_st m8 20 1 z8) 20 3 (((vm_st m8 20 1 z8) 20 2) + 1))) (ob := true) (by decide +kernel) rfl rfl ?_
              refine vm_gc (g := 93) (na := 1) (av := [vm_r 20]) (rest := []) (i := (.invokevirtual 0, 93, 1, [])) (len := 3) (by decide +kernel) rfl rfl rfl (by decide +kernel) (by decide +kernel) rfl rfl (vm_u (vm_okh_v (c := 8) (by decide +kernel) (by decide +kernel)) (show vm_okn 93 1 0 0 0 1 = true by decide +kernel)) ?_
              refine vm_G.mono h ?_
              rintro _ m10 ⟨rfl, h⟩
              show vm_G 89 177 [some (vm_r 20)] [] m10 _
              exact vm_gr (r := none) (i := (.return_, 0, 0, [])) (len := 1) (by decide +kernel) rfl rfl rfl ⟨rfl, h⟩
          · replace h := h.2 c15
            exact h
    · replace h := h.2 c9
      obtain ⟨o43_0, h⟩ := h
      refine vm_gp [(.aload 0, 0, 0, []), (.dup, 0, 0, []), (.getfield 0, 8, 2, []), (.iconst 1, 0, 0, []), (.iadd, 0, 0, []), (.putfield 0, 8, 2, []), (.goto 0, 8, 0, [])] (pc1 := 8) (ls1 := [some (vm_r 20)]) (st1 := []) (m1 := (vm_st m6 20 2 ((m6 20 2) + 1))) (ob := (((true && vm_is 20 8) && decide (vm_32 ((m6 20 2) + 1))) && vm_is 20 8)) (by decide +kernel) rfl (vm_u (vm_t (vm_u rfl (by decide +kernel)) o43_0) (by decide +kernel)) ?_
      exact h
set_option maxRecDepth 20000 in
theorem ru8_advance_117  {m : vm_M} {Q : vm_M → Prop}  (h :
    (((m 1 1) ≤ (m 20 3) →
      ((¬ (m 20 1) = 2 →
        Q m) ∧ (¬ ¬ (m 20 1) = 2 →
        (vm_C 93 [vm_r 20] m (vm_qv (fun m1 =>
          Q m1)))))) ∧ (¬ (m 1 1) ≤ (m 20 3) →
      (vm_C 85 [vm_r 1, vm_i (m 20 3)] m (vm_qi (fun z2 m2 =>
        (vm_C 94 [vm_i z2] m2 (vm_qi (fun z3 m3 =>
          ((¬ z3 = (m3 20 1) →
            ((¬ (m3 20 1) = 2 →
              Q m3) ∧ (¬ ¬ (m3 20 1) = 2 →
              (vm_C 93 [vm_r 20] m3 (vm_qv (fun m4 =>
                Q m4)))))) ∧ (¬ ¬ z3 = (m3 20 1) →
            ((vm_32 ((m3 20 3) + 1))) ∧
            ku8_advance_117 (vm_st m3 20 3 ((m3 20 3) + 1)) Q))))))))))) : ku8_advance_117 m Q := by
  show vm_G 89 117 [some (vm_r 20)] [] m (vm_qv Q)
  refine vm_gp [(.aload 0, 0, 0, []), (.getfield 0, 8, 3, []), (.aload 0, 0, 0, []), (.getfield 2, 8, 0, [(1, 0)]), (.getfield 0, 7, 1, [])] (pc1 := 128) (ls1 := [some (vm_r 20)]) (st1 := [vm_i (m 1 1), vm_i (m 20 3)]) (m1 := m) (ob := ((((true && vm_is 20 8) && vm_is 20 8) && true) && vm_is 1 7)) (by decide +kernel) rfl (vm_u (vm_u (vm_u (vm_u rfl (by decide +kernel)) (by decide +kernel)) rfl) (by decide +kernel)) ?_
  refine vm_gj (c := (m 1 1) ≤ (m 20 3)) (t := 165) (e := 131) (i := (.if_icmp .ge 0, 165, 0, [])) (len := 3) (st1 := []) (by decide +kernel) rfl rfl (fun c1 => ?_) (fun c1 => ?_)
  · replace h := h.1 c1
    refine vm_gp [(.aload 0, 0, 0, []), (.getfield 0, 8, 1, []), (.iconst 2, 0, 0, [])] (pc1 := 170) (ls1 := [some (vm_r 20)]) (st1 := [vm_i 2, vm_i (m 20 1)]) (m1 := m) (ob := (true && vm_is 20 8)) (by decide +kernel) rfl (vm_u rfl (by decide +kernel)) ?_
    refine vm_gj (c := ¬ (m 20 1) = 2) (t := 177) (e := 173) (i := (.if_icmp .ne 0, 177, 0, [])) (len := 3) (st1 := []) (by decide +kernel) rfl rfl (fun c2 => ?_) (fun c2 => ?_)
    · replace h := h.1 c2
      exact vm_gr (r := none) (i := (.return_, 0, 0, [])) (len := 1) (by decide +kernel) rfl rfl rfl ⟨rfl, h⟩
    · replace h := h.2 c2
      refine vm_gp [(.aload 0, 0, 0, [])] (pc1 := 174) (ls1 := [some (vm_r 20)]) (st1 := [vm_r 20]) (m1 := m) (ob := true) (by decide +kernel) rfl rfl ?_
      refine vm_gc (g := 93) (na := 1) (av := [vm_r 20]) (rest := []) (i := (.invokevirtual 0, 93, 1, [])) (len := 3) (by decide +kernel) rfl rfl rfl (by decide +kernel) (by decide +kernel) rfl rfl (vm_u (vm_okh_v (c := 8) (by decide +kernel) (by decide +kernel)) (show vm_okn 93 1 0 0 0 1 = true by decide +kernel)) ?_
      refine vm_G.mono h ?_
      rintro _ m1 ⟨rfl, h⟩
      show vm_G 89 177 [some (vm_r 20)] [] m1 _
      exact vm_gr (r := none) (i := (.return_, 0, 0, [])) (len := 1) (by decide +kernel) rfl rfl rfl ⟨rfl, h⟩
  · replace h := h.2 c1
    refine vm_gp [(.aload 0, 0, 0, []), (.getfield 2, 8, 0, [(1, 0)]), (.aload 0, 0, 0, []), (.getfield 0, 8, 3, [])] (pc1 := 139) (ls1 := [some (vm_r 20)]) (st1 := [vm_i (m 20 3), vm_r 1]) (m1 := m) (ob := (((true && vm_is 20 8) && true) && vm_is 20 8)) (by decide +kernel) rfl (vm_u (vm_u (vm_u rfl (by decide +kernel)) rfl) (by decide +kernel)) ?_
    refine vm_gc (g := 85) (na := 2) (av := [vm_r 1, vm_i (m 20 3)]) (rest := []) (i := (.invokevirtual 0, 85, 2, [])) (len := 3) (by decide +kernel) rfl rfl rfl (by decide +kernel) (by decide +kernel) rfl rfl (vm_u (vm_okh_v (c := 7) (by decide +kernel) (by decide +kernel)) (show vm_okn 85 2 0 0 0 2 = true by decide +kernel)) ?_
    refine vm_G.mono h ?_
    rintro _ m2 ⟨z2, rfl, h⟩
    show vm_G 89 142 [some (vm_r 20)] [vm_i z2] m2 _
    refine vm_gc (g := 94) (na := 1) (av := [vm_i z2]) (rest := []) (i := (.invokestatic 0, 94, 1, [])) (len := 3) (by decide +kernel) rfl rfl rfl (by decide +kernel) (by decide +kernel) rfl rfl (vm_u (vm_okh_s (by decide +kernel)) (show vm_okn 94 1 0 0 0 1 = true by decide +kernel)) ?_
    refine vm_G.mono h ?_
    rintro _ m3 ⟨z3, rfl, h⟩
    show vm_G 89 145 [some (vm_r 20)] [vm_i z3] m3 _
    refine vm_gp [(.aload 0, 0, 0, []), (.getfield 0, 8, 1, [])] (pc1 := 149) (ls1 := [some (vm_r 20)]) (st1 := [vm_i (m3 20 1), vm_i z3]) (m1 := m3) (ob := (true && vm_is 20 8)) (by decide +kernel) rfl (vm_u rfl (by decide +kernel)) ?_
    refine vm_gj (c := ¬ z3 = (m3 20 1)) (t := 165) (e := 152) (i := (.if_icmp .ne 0, 165, 0, [])) (len := 3) (st1 := []) (by decide +kernel) rfl rfl (fun c3 => ?_) (fun c3 => ?_)
    · replace h := h.1 c3
      refine vm_gp [(.aload 0, 0, 0, []), (.getfield 0, 8, 1, []), (.iconst 2, 0, 0, [])] (pc1 := 170) (ls1 := [some (vm_r 20)]) (st1 := [vm_i 2, vm_i (m3 20 1)]) (m1 := m3) (ob := (true && vm_is 20 8)) (by decide +kernel) rfl (vm_u rfl (by decide +kernel)) ?_
      refine vm_gj (c := ¬ (m3 20 1) = 2) (t := 177) (e := 173) (i := (.if_icmp .ne 0, 177, 0, [])) (len := 3) (st1 := []) (by decide +kernel) rfl rfl (fun c4 => ?_) (fun c4 => ?_)
      · replace h := h.1 c4
        exact vm_gr (r := none) (i := (.return_, 0, 0, [])) (len := 1) (by decide +kernel) rfl rfl rfl ⟨rfl, h⟩
      · replace h := h.2 c4
        refine vm_gp [(.aload 0, 0, 0, [])] (pc1 := 174) (ls1 := [some (vm_r 20)]) (st1 := [vm_r 20]) (m1 := m3) (ob := true) (by decide +kernel) rfl rfl ?_
        refine vm_gc (g := 93) (na := 1) (av := [vm_r 20]) (rest := []) (i := (.invokevirtual 0, 93, 1, [])) (len := 3) (by decide +kernel) rfl rfl rfl (by decide +kernel) (by decide +kernel) rfl rfl (vm_u (vm_okh_v (c := 8) (by decide +kernel) (by decide +kernel)) (show vm_okn 93 1 0 0 0 1 = true by decide +kernel)) ?_
        refine vm_G.mono h ?_
        rintro _ m4 ⟨rfl, h⟩
        show vm_G 89 177 [some (vm_r 20)] [] m4 _
        exact vm_gr (r := none) (i := (.return_, 0, 0, [])) (len := 1) (by decide +kernel) rfl rfl rfl ⟨rfl, h⟩
    · replace h := h.2 c3
      obtain ⟨o13_0, h⟩ := h
      refine vm_gp [(.aload 0, 0, 0, []), (.dup, 0, 0, []), (.getfield 0, 8, 3, []), (.iconst 1, 0, 0, []), (.iadd, 0, 0, []), (.putfield 0, 8, 3, []), (.goto 0, 117, 0, [])] (pc1 := 117) (ls1 := [some (vm_r 20)]) (st1 := []) (m1 := (vm_st m3 20 3 ((m3 20 3) + 1))) (ob := (((true && vm_is 20 8) && decide (vm_32 ((m3 20 3) + 1))) && vm_is 20 8)) (by decide +kernel) rfl (vm_u (vm_t (vm_u rfl (by decide +kernel)) o13_0) (by decide +kernel)) ?_
      exact h
abbrev ku8_isName_0 (s1 : Nat) (m : vm_M) (Q : Int → vm_M → Prop) : Prop := vm_G 90 0 [some (vm_r 20), some (vm_r s1), none] [] m (vm_qi Q)
abbrev ku8_isName_28 (s1 : Nat) (v2 : Int) (m : vm_M) (Q : Int → vm_M → Prop) : Prop := vm_G 90 28 [some (vm_r 20), some (vm_r s1), some (vm_i v2)] [] m (vm_qi Q)
set_option maxRecDepth 20000 in
theorem ru8_isName_0 {s1 : Nat} {m : vm_M} {Q : Int → vm_M → Prop}  (h :
    ((¬ (m 20 1) = 1 →
      Q 0 m) ∧ (¬ ¬ (m 20 1) = 1 →
      ((vm_32 ((m 20 3) - (m 20 2))) ∧ (1000 ≤ s1 ∧ s1 < 1000 + vm_sN)) ∧
      ((((m 20 3) - (m 20 2)) = (vm_sn s1) →
        ku8_isName_28 s1 0 m Q) ∧ (¬ ((m 20 3) - (m 20 2)) = (vm_sn s1) →
        Q 0 m))))) : vm_C 90 [vm_r 20, vm_r s1] m (vm_qi Q) := by
  show vm_G 90 0 [some (vm_r 20), some (vm_r s1), none] [] m (vm_qi Q)
  refine vm_gp [(.aload 0, 0, 0, []), (.getfield 0, 8, 1, []), (.iconst 1, 0, 0, [])] (pc1 := 5) (ls1 := [some (vm_r 20), some (vm_r s1), none]) (st1 := [vm_i 1, vm_i (m 20 1)]) (m1 := m) (ob := (true && vm_is 20 8)) (by decide +kernel) rfl (vm_u rfl (by decide +kernel)) ?_
  refine vm_gj (c := ¬ (m 20 1) = 1) (t := 24) (e := 8) (i := (.if_icmp .ne 0, 24, 0, [])) (len := 3) (st1 := []) (by decide +kernel) rfl rfl (fun c1 => ?_) (fun c1 => ?_)
  · replace h := h.1 c1
    refine vm_gp [(.iconst 0, 0, 0, [])] (pc1 := 25) (ls1 := [some (vm_r 20), some (vm_r s1), none]) (st1 := [vm_i 0]) (m1 := m) (ob := true) (by decide +kernel) rfl rfl ?_
    exact vm_gr (r := some (vm_i 0)) (i := (.ireturn, 2, 0, [])) (len := 1) (by decide +kernel) rfl rfl (by decide) ⟨_, rfl, h⟩
  · replace h := h.2 c1
    obtain ⟨⟨o3_0, o3_1⟩, h⟩ := h
    refine vm_gp [(.aload 0, 0, 0, []), (.getfield 0, 8, 3, []), (.aload 0, 0, 0, []), (.getfield 0, 8, 2, []), (.isub, 0, 0, []), (.aload 1, 0, 0, []), (.invokevirtual 0, 1004, 0, [])] (pc1 := 21) (ls1 := [some (vm_r 20), some (vm_r s1), none]) (st1 := [vm_i (vm_sn s1), vm_i ((m 20 3) - (m 20 2))]) (m1 := m) (ob := (((((true && vm_is 20 8) && vm_is 20 8) && decide (vm_32 ((m 20 3) - (m 20 2)))) && decide (vm_cats [vm_i ((m 20 3) - (m 20 2))] ≤ 8)) && decide (1000 ≤ s1 ∧ s1 < 1000 + vm_sN))) (by decide +kernel) rfl (vm_t (vm_t (vm_t (vm_u (vm_u rfl (by decide +kernel)) (by decide +kernel)) o3_0) (by decide : (1 : Nat) ≤ 8)) o3_1) ?_
    refine vm_gj (c := ((m 20 3) - (m 20 2)) = (vm_sn s1)) (t := 26) (e := 24) (i := (.if_icmp .eq 0, 26, 0, [])) (len := 3) (st1 := []) (by decide +kernel) rfl rfl (fun c2 => ?_) (fun c2 => ?_)
    · replace h := h.1 c2
      refine vm_gp [(.iconst 0, 0, 0, []), (.istore 2, 0, 0, [])] (pc1 := 28) (ls1 := [some (vm_r 20), some (vm_r s1), some (vm_i 0)]) (st1 := []) (m1 := m) (ob := true) (by decide +kernel) rfl rfl ?_
      exact h
    · replace h := h.2 c2
      refine vm_gp [(.iconst 0, 0, 0, [])] (pc1 := 25) (ls1 := [some (vm_r 20), some (vm_r s1), none]) (st1 := [vm_i 0]) (m1 := m) (ob := true) (by decide +kernel) rfl rfl ?_
      exact vm_gr (r := some (vm_i 0)) (i := (.ireturn, 2, 0, [])) (len := 1) (by decide +kernel) rfl rfl (by decide) ⟨_, rfl, h⟩
set_option maxRecDepth 20000 in
theorem ru8_isName_28 {s1 : Nat} {v2 : Int} {m : vm_M} {Q : Int → vm_M → Prop}  (h :
    ((1000 ≤ s1 ∧ s1 < 1000 + vm_sN)) ∧
    (((vm_sn s1) ≤ v2 →
      Q 1 m) ∧ (¬ (vm_sn s1) ≤ v2 →
      ((vm_32 ((m 20 2) + v2))) ∧
      (vm_C 85 [vm_r 1, vm_i ((m 20 2) + v2)] m (vm_qi (fun z1 m1 =>
        ((1000 ≤ s1 ∧ s1 < 1000 + vm_sN) ∧ (0 ≤ v2 ∧ v2 < vm_sn s1)) ∧
        ((z1 = (vm_sc s1 v2) →
          ((vm_32 (v2 + 1))) ∧
          ku8_isName_28 s1 (v2 + 1) m1 Q) ∧ (¬ z1 = (vm_sc s1 v2) →
          Q 0 m1)))))))) : ku8_isName_28 s1 v2 m Q := by
  show vm_G 90 28 [some (vm_r 20), some (vm_r s1), some (vm_i v2)] [] m (vm_qi Q)
  obtain ⟨o1_0, h⟩ := h
  refine vm_gp [(.iload 2, 0, 0, []), (.aload 1, 0, 0, []), (.invokevirtual 0, 1004, 0, [])] (pc1 := 33) (ls1 := [some (vm_r 20), some (vm_r s1), some (vm_i v2)]) (st1 := [vm_i (vm_sn s1), vm_i v2]) (m1 := m) (ob := ((true && decide (vm_cats [vm_i v2] ≤ 8)) && decide (1000 ≤ s1 ∧ s1 < 1000 + vm_sN))) (by decide +kernel) rfl (vm_t (vm_t rfl (by decide : (1 : Nat) ≤ 8)) o1_0) ?_
  refine vm_gj (c := (vm_sn s1) ≤ v2) (t := 65) (e := 36) (i := (.if_icmp .ge 0, 65, 0, [])) (len := 3) (st1 := []) (by decide +kernel) rfl rfl (fun c1 => ?_) (fun c1 => ?_)
  · replace h := h.1 c1
    refine vm_gp [(.iconst 1, 0, 0, [])] (pc1 := 66) (ls1 := [some (vm_r 20), some (vm_r s1), some (vm_i v2)]) (st1 := [vm_i 1]) (m1 := m) (ob := true) (by decide +kernel) rfl rfl ?_
    exact vm_gr (r := some (vm_i 1)) (i := (.ireturn, 2, 0, [])) (len := 1) (by decide +kernel) rfl rfl (by decide) ⟨_, rfl, h⟩
  · replace h := h.2 c1
    obtain ⟨o3_0, h⟩ := h
    refine vm_gp [(.aload 0, 0, 0, []), (.getfield 2, 8, 0, [(1, 0)]), (.aload 0, 0, 0, []), (.getfield 0, 8, 2, []), (.iload 2, 0, 0, []), (.iadd, 0, 0, [])] (pc1 := 46) (ls1 := [some (vm_r 20), some (vm_r s1), some (vm_i v2)]) (st1 := [vm_i ((m 20 2) + v2), vm_r 1]) (m1 := m) (ob := ((((true && vm_is 20 8) && true) && vm_is 20 8) && decide (vm_32 ((m 20 2) + v2)))) (by decide +kernel) rfl (vm_t (vm_u (vm_u (vm_u rfl (by decide +kernel)) rfl) (by decide +kernel)) o3_0) ?_
    refine vm_gc (g := 85) (na := 2) (av := [vm_r 1, vm_i ((m 20 2) + v2)]) (rest := []) (i := (.invokevirtual 0, 85, 2, [])) (len := 3) (by decide +kernel) rfl rfl rfl (by decide +kernel) (by decide +kernel) rfl rfl (vm_u (vm_okh_v (c := 7) (by decide +kernel) (by decide +kernel)) (show vm_okn 85 2 0 0 0 2 = true by decide +kernel)) ?_
    refine vm_G.mono h ?_
    rintro _ m1 ⟨z1, rfl, h⟩
    show vm_G 90 49 [some (vm_r 20), some (vm_r s1), some (vm_i v2)] [vm_i z1] m1 _
    obtain ⟨⟨o4_0, o4_1⟩, h⟩ := h
    refine vm_gp [(.aload 1, 0, 0, []), (.iload 2, 0, 0, []), (.invokevirtual 0, 1005, 0, [])] (pc1 := 54) (ls1 := [some (vm_r 20), some (vm_r s1), some (vm_i v2)]) (st1 := [vm_i (vm_sc s1 v2), vm_i z1]) (m1 := m1) (ob := (((true && decide (vm_cats [vm_i z1] ≤ 8)) && decide (1000 ≤ s1 ∧ s1 < 1000 + vm_sN)) && decide (0 ≤ v2 ∧ v2 < vm_sn s1))) (by decide +kernel) rfl (vm_t (vm_t (vm_t rfl (by decide : (1 : Nat) ≤ 8)) o4_0) o4_1) ?_
    refine vm_gj (c := z1 = (vm_sc s1 v2)) (t := 59) (e := 57) (i := (.if_icmp .eq 0, 59, 0, [])) (len := 3) (st1 := []) (by decide +kernel) rfl rfl (fun c2 => ?_) (fun c2 => ?_)
    · replace h := h.1 c2
      obtain ⟨o5_0, h⟩ := h
      refine vm_gp [(.iinc 2 1, 0, 0, []), (.goto 0, 28, 0, [])] (pc1 := 28) (ls1 := [some (vm_r 20), some (vm_r s1), some (vm_i (v2 + 1))]) (st1 := []) (m1 := m1) (ob := (true && decide (vm_32 (v2 + 1)))) (by decide +kernel) rfl (vm_t rfl o5_0) ?_
      exact h
    · replace h := h.2 c2
      refine vm_gp [(.iconst 0, 0, 0, [])] (pc1 := 58) (ls1 := [some (vm_r 20), some (vm_r s1), some (vm_i v2)]) (st1 := [vm_i 0]) (m1 := m1) (ob := true) (by decide +kernel) rfl rfl ?_
      exact vm_gr (r := some (vm_i 0)) (i := (.ireturn, 2, 0, [])) (len := 1) (by decide +kernel) rfl rfl (by decide) ⟨_, rfl, h⟩
abbrev ku8_isNumber_0 (v1 : Int) (v2 : Int) (m : vm_M) (Q : Int → vm_M → Prop) : Prop := vm_G 91 0 [some (vm_r 20), some (vm_i v1), some (vm_i v2)] [] m (vm_qi Q)
set_option maxRecDepth 20000 in
theorem ru8_isNumber_0 {v1 : Int} {v2 : Int} {m : vm_M} {Q : Int → vm_M → Prop}  (h :
    ((¬ (m 20 1) = 2 →
      Q 0 m) ∧ (¬ ¬ (m 20 1) = 2 →
      (((m 20 4) < v1 →
        Q 0 m) ∧ (¬ (m 20 4) < v1 →
        ((v2 < (m 20 4) →
          Q 0 m) ∧ (¬ v2 < (m 20 4) →
          Q 1 m))))))) : vm_C 91 [vm_r 20, vm_i v1, vm_i v2] m (vm_qi Q) := by
  show vm_G 91 0 [some (vm_r 20), some (vm_i v1), some (vm_i v2)] [] m (vm_qi Q)
  refine vm_gp [(.aload 0, 0, 0, []), (.getfield 0, 8, 1, []), (.iconst 2, 0, 0, [])] (pc1 := 5) (ls1 := [some (vm_r 20), some (vm_i v1), some (vm_i v2)]) (st1 := [vm_i 2, vm_i (m 20 1)]) (m1 := m) (ob := (true && vm_is 20 8)) (by decide +kernel) rfl (vm_u rfl (by decide +kernel)) ?_
  refine vm_gj (c := ¬ (m 20 1) = 2) (t := 28) (e := 8) (i := (.if_icmp .ne 0, 28, 0, [])) (len := 3) (st1 := []) (by decide +kernel) rfl rfl (fun c1 => ?_) (fun c1 => ?_)
  · replace h := h.1 c1
    refine vm_gp [(.iconst 0, 0, 0, [])] (pc1 := 29) (ls1 := [some (vm_r 20), some (vm_i v1), some (vm_i v2)]) (st1 := [vm_i 0]) (m1 := m) (ob := true) (by decide +kernel) rfl rfl ?_
    exact vm_gr (r := some (vm_i 0)) (i := (.ireturn, 2, 0, [])) (len := 1) (by decide +kernel) rfl rfl (by decide) ⟨_, rfl, h⟩
  · replace h := h.2 c1
    refine vm_gp [(.aload 0, 0, 0, []), (.getfield 0, 8, 4, []), (.iload 1, 0, 0, [])] (pc1 := 13) (ls1 := [some (vm_r 20), some (vm_i v1), some (vm_i v2)]) (st1 := [vm_i v1, vm_i (m 20 4)]) (m1 := m) (ob := (true && vm_is 20 8)) (by decide +kernel) rfl (vm_u rfl (by decide +kernel)) ?_
    refine vm_gj (c := (m 20 4) < v1) (t := 28) (e := 16) (i := (.if_icmp .lt 0, 28, 0, [])) (len := 3) (st1 := []) (by decide +kernel) rfl rfl (fun c2 => ?_) (fun c2 => ?_)
    · replace h := h.1 c2
      refine vm_gp [(.iconst 0, 0, 0, [])] (pc1 := 29) (ls1 := [some (vm_r 20), some (vm_i v1), some (vm_i v2)]) (st1 := [vm_i 0]) (m1 := m) (ob := true) (by decide +kernel) rfl rfl ?_
      exact vm_gr (r := some (vm_i 0)) (i := (.ireturn, 2, 0, [])) (len := 1) (by decide +kernel) rfl rfl (by decide) ⟨_, rfl, h⟩
    · replace h := h.2 c2
      refine vm_gp [(.aload 0, 0, 0, []), (.getfield 0, 8, 4, []), (.iload 2, 0, 0, [])] (pc1 := 21) (ls1 := [some (vm_r 20), some (vm_i v1), some (vm_i v2)]) (st1 := [vm_i v2, vm_i (m 20 4)]) (m1 := m) (ob := (true && vm_is 20 8)) (by decide +kernel) rfl (vm_u rfl (by decide +kernel)) ?_
      refine vm_gj (c := v2 < (m 20 4)) (t := 28) (e := 24) (i := (.if_icmp .gt 0, 28, 0, [])) (len := 3) (st1 := []) (by decide +kernel) rfl rfl (fun c3 => ?_) (fun c3 => ?_)
      · replace h := h.1 c3
        refine vm_gp [(.iconst 0, 0, 0, [])] (pc1 := 29) (ls1 := [some (vm_r 20), some (vm_i v1), some (vm_i v2)]) (st1 := [vm_i 0]) (m1 := m) (ob := true) (by decide +kernel) rfl rfl ?_
        exact vm_gr (r := some (vm_i 0)) (i := (.ireturn, 2, 0, [])) (len := 1) (by decide +kernel) rfl rfl (by decide) ⟨_, rfl, h⟩
      · replace h := h.2 c3
        refine vm_gp [(.iconst 1, 0, 0, []), (.goto 0, 29, 0, [])] (pc1 := 29) (ls1 := [some (vm_r 20), some (vm_i v1), some (vm_i v2)]) (st1 := [vm_i 1]) (m1 := m) (ob := true) (by decide +kernel) rfl rfl ?_
        exact vm_gr (r := some (vm_i 1)) (i := (.ireturn, 2, 0, [])) (len := 1) (by decide +kernel) rfl rfl (by decide) ⟨_, rfl, h⟩
abbrev ku8_asLetter_0  (m : vm_M) (Q : Int → vm_M → Prop) : Prop := vm_G 92 0 [some (vm_r 20)] [] m (vm_qi Q)
set_option maxRecDepth 20000 in
theorem ru8_asLetter_0  {m : vm_M} {Q : Int → vm_M → Prop}  (h :
    ((¬ (m 20 1) = 1 →
      Q (-1) m) ∧ (¬ ¬ (m 20 1) = 1 →
      ((vm_32 ((m 20 3) - (m 20 2)))) ∧
      ((¬ ((m 20 3) - (m 20 2)) = 1 →
        Q (-1) m) ∧ (¬ ¬ ((m 20 3) - (m 20 2)) = 1 →
        (vm_C 85 [vm_r 1, vm_i (m 20 2)] m (vm_qi (fun z1 m1 =>
          ((vm_32 (z1 - 97))) ∧
          Q (z1 - 97) m1)))))))) : vm_C 92 [vm_r 20] m (vm_qi Q) := by
  show vm_G 92 0 [some (vm_r 20)] [] m (vm_qi Q)
  refine vm_gp [(.aload 0, 0, 0, []), (.getfield 0, 8, 1, []), (.iconst 1, 0, 0, [])] (pc1 := 5) (ls1 := [some (vm_r 20)]) (st1 := [vm_i 1, vm_i (m 20 1)]) (m1 := m) (ob := (true && vm_is 20 8)) (by decide +kernel) rfl (vm_u rfl (by decide +kernel)) ?_
  refine vm_gj (c := ¬ (m 20 1) = 1) (t := 38) (e := 8) (i := (.if_icmp .ne 0, 38, 0, [])) (len := 3) (st1 := []) (by decide +kernel) rfl rfl (fun c1 => ?_) (fun c1 => ?_)
  · replace h := h.1 c1
    refine vm_gp [(.iconst (-1), 0, 0, [])] (pc1 := 39) (ls1 := [some (vm_r 20)]) (st1 := [vm_i (-1)]) (m1 := m) (ob := true) (by decide +kernel) rfl rfl ?_
    exact vm_gr (r := some (vm_i (-1))) (i := (.ireturn, 1, 0, [])) (len := 1) (by decide +kernel) rfl rfl rfl ⟨_, rfl, h⟩
  · replace h := h.2 c1
    obtain ⟨o3_0, h⟩ := h
    refine vm_gp [(.aload 0, 0, 0, []), (.getfield 0, 8, 3, []), (.aload 0, 0, 0, []), (.getfield 0, 8, 2, []), (.isub, 0, 0, []), (.iconst 1, 0, 0, [])] (pc1 := 18) (ls1 := [some (vm_r 20)]) (st1 := [vm_i 1, vm_i ((m 20 3) - (m 20 2))]) (m1 := m) (ob := (((true && vm_is 20 8) && vm_is 20 8) && decide (vm_32 ((m 20 3) - (m 20 2))))) (by decide +kernel) rfl (vm_t (vm_u (vm_u rfl (by decide +kernel)) (by decide +kernel)) o3_0) ?_
    refine vm_gj (c := ¬ ((m 20 3) - (m 20 2)) = 1) (t := 38) (e := 21) (i := (.if_icmp .ne 0, 38, 0, [])) (len := 3) (st1 := []) (by decide +kernel) rfl rfl (fun c2 => ?_) (fun c2 => ?_)
    · replace h := h.1 c2
      refine vm_gp [(.iconst (-1), 0, 0, [])] (pc1 := 39) (ls1 := [some (vm_r 20)]) (st1 := [vm_i (-1)]) (m1 := m) (ob := true) (by decide +kernel) rfl rfl ?_
      exact vm_gr (r := some (vm_i (-1))) (i := (.ireturn, 1, 0, [])) (len := 1) (by decide +kernel) rfl rfl rfl ⟨_, rfl, h⟩
    · replace h := h.2 c2
      refine vm_gp [(.aload 0, 0, 0, []), (.getfield 2, 8, 0, [(1, 0)]), (.aload 0, 0, 0, []), (.getfield 0, 8, 2, [])] (pc1 := 29) (ls1 := [some (vm_r 20)]) (st1 := [vm_i (m 20 2), vm_r 1]) (m1 := m) (ob := (((true && vm_is 20 8) && true) && vm_is 20 8)) (by decide +kernel) rfl (vm_u (vm_u (vm_u rfl (by decide +kernel)) rfl) (by decide +kernel)) ?_
      refine vm_gc (g := 85) (na := 2) (av := [vm_r 1, vm_i (m 20 2)]) (rest := []) (i := (.invokevirtual 0, 85, 2, [])) (len := 3) (by decide +kernel) rfl rfl rfl (by decide +kernel) (by decide +kernel) rfl rfl (vm_u (vm_okh_v (c := 7) (by decide +kernel) (by decide +kernel)) (show vm_okn 85 2 0 0 0 2 = true by decide +kernel)) ?_
      refine vm_G.mono h ?_
      rintro _ m1 ⟨z1, rfl, h⟩
      show vm_G 92 32 [some (vm_r 20)] [vm_i z1] m1 _
      obtain ⟨o6_0, h⟩ := h
      refine vm_gp [(.iconst 97, 0, 0, []), (.isub, 0, 0, []), (.goto 0, 39, 0, [])] (pc1 := 39) (ls1 := [some (vm_r 20)]) (st1 := [vm_i (z1 - 97)]) (m1 := m1) (ob := (true && decide (vm_32 (z1 - 97)))) (by decide +kernel) rfl (vm_t rfl o6_0) ?_
      exact vm_gr (r := some (vm_i (z1 - 97))) (i := (.ireturn, 1, 0, [])) (len := 1) (by decide +kernel) rfl rfl rfl ⟨_, rfl, h⟩
abbrev ku8_readDigits_0  (m : vm_M) (Q : vm_M → Prop) : Prop := vm_G 93 0 [some (vm_r 20), none] [] m (vm_qv Q)
abbrev ku8_readDigits_29 (v1 : Int) (m : vm_M) (Q : vm_M → Prop) : Prop := vm_G 93 29 [some (vm_r 20), some (vm_i v1)] [] m (vm_qv Q)
set_option maxRecDepth 20000 in
theorem ru8_readDigits_0  {m : vm_M} {Q : vm_M → Prop}  (h :
    ((vm_32 ((m 20 3) - (m 20 2)))) ∧
    ((((m 20 3) - (m 20 2)) ≤ 4 →
      ku8_readDigits_29 ((vm_st m 20 4 0) 20 2) (vm_st m 20 4 0) Q) ∧ (¬ ((m 20 3) - (m 20 2)) ≤ 4 →
      Q (vm_st m 20 1 4)))) : vm_C 93 [vm_r 20] m (vm_qv Q) := by
  show vm_G 93 0 [some (vm_r 20), none] [] m (vm_qv Q)
  obtain ⟨o1_0, h⟩ := h
  refine vm_gp [(.aload 0, 0, 0, []), (.getfield 0, 8, 3, []), (.aload 0, 0, 0, []), (.getfield 0, 8, 2, []), (.isub, 0, 0, []), (.iconst 4, 0, 0, [])] (pc1 := 10) (ls1 := [some (vm_r 20), none]) (st1 := [vm_i 4, vm_i ((m 20 3) - (m 20 2))]) (m1 := m) (ob := (((true && vm_is 20 8) && vm_is 20 8) && decide (vm_32 ((m 20 3) - (m 20 2))))) (by decide +kernel) rfl (vm_t (vm_u (vm_u rfl (by decide +kernel)) (by decide +kernel)) o1_0) ?_
  refine vm_gj (c := ((m 20 3) - (m 20 2)) ≤ 4) (t := 19) (e := 13) (i := (.if_icmp .le 0, 19, 0, [])) (len := 3) (st1 := []) (by decide +kernel) rfl rfl (fun c1 => ?_) (fun c1 => ?_)
  · replace h := h.1 c1
    refine vm_gp [(.aload 0, 0, 0, []), (.iconst 0, 0, 0, []), (.putfield 0, 8, 4, []), (.aload 0, 0, 0, []), (.getfield 0, 8, 2, []), (.istore 1, 0, 0, [])] (pc1 := 29) (ls1 := [some (vm_r 20), some (vm_i ((vm_st m 20 4 0) 20 2))]) (st1 := []) (m1 := (vm_st m 20 4 0)) (ob := ((true && vm_is 20 8) && vm_is 20 8)) (by decide +kernel) rfl (vm_u (vm_u rfl (by decide +kernel)) (by decide +kernel)) ?_
    exact h
  · replace h := h.2 c1
    refine vm_gp [(.aload 0, 0, 0, []), (.iconst 4, 0, 0, []), (.putfield 0, 8, 1, [])] (pc1 := 18) (ls1 := [some (vm_r 20), none]) (st1 := []) (m1 := (vm_st m 20 1 4)) (ob := (true && vm_is 20 8)) (by decide +kernel) rfl (vm_u rfl (by decide +kernel)) ?_
    exact vm_gr (r := none) (i := (.return_, 0, 0, [])) (len := 1) (by decide +kernel) rfl rfl rfl ⟨rfl, h⟩
set_option maxRecDepth 20000 in
theorem ru8_readDigits_29 {v1 : Int} {m : vm_M} {Q : vm_M → Prop}  (h :
    (((m 20 3) ≤ v1 →
      Q m) ∧ (¬ (m 20 3) ≤ v1 →
      ((vm_32 ((m 20 4) * 10))) ∧
      (vm_C 85 [vm_r 1, vm_i v1] m (vm_qi (fun z1 m1 =>
        ((vm_32 (((m 20 4) * 10) + z1)) ∧ (vm_32 ((((m 20 4) * 10) + z1) - 48)) ∧ (vm_32 (v1 + 1))) ∧
        ku8_readDigits_29 (v1 + 1) (vm_st m1 20 4 ((((m 20 4) * 10) + z1) - 48)) Q)))))) : ku8_readDigits_29 v1 m Q := by
  show vm_G 93 29 [some (vm_r 20), some (vm_i v1)] [] m (vm_qv Q)
  refine vm_gp [(.iload 1, 0, 0, []), (.aload 0, 0, 0, []), (.getfield 0, 8, 3, [])] (pc1 := 34) (ls1 := [some (vm_r 20), some (vm_i v1)]) (st1 := [vm_i (m 20 3), vm_i v1]) (m1 := m) (ob := (true && vm_is 20 8)) (by decide +kernel) rfl (vm_u rfl (by decide +kernel)) ?_
  refine vm_gj (c := (m 20 3) ≤ v1) (t := 66) (e := 37) (i := (.if_icmp .ge 0, 66, 0, [])) (len := 3) (st1 := []) (by decide +kernel) rfl rfl (fun c1 => ?_) (fun c1 => ?_)
  · replace h := h.1 c1
    exact vm_gr (r := none) (i := (.return_, 0, 0, [])) (len := 1) (by decide +kernel) rfl rfl rfl ⟨rfl, h⟩
  · replace h := h.2 c1
    obtain ⟨o3_0, h⟩ := h
    refine vm_gp [(.aload 0, 0, 0, []), (.aload 0, 0, 0, []), (.getfield 0, 8, 4, []), (.iconst 10, 0, 0, []), (.imul, 0, 0, []), (.aload 0, 0, 0, []), (.getfield 2, 8, 0, [(1, 0)]), (.iload 1, 0, 0, [])] (pc1 := 50) (ls1 := [some (vm_r 20), some (vm_i v1)]) (st1 := [vm_i v1, vm_r 1, vm_i ((m 20 4) * 10), vm_r 20]) (m1 := m) (ob := ((((true && vm_is 20 8) && decide (vm_32 ((m 20 4) * 10))) && vm_is 20 8) && true)) (by decide +kernel) rfl (vm_u (vm_u (vm_t (vm_u rfl (by decide +kernel)) o3_0) (by decide +kernel)) rfl) ?_
    refine vm_gc (g := 85) (na := 2) (av := [vm_r 1, vm_i v1]) (rest := [vm_i ((m 20 4) * 10), vm_r 20]) (i := (.invokevirtual 0, 85, 2, [])) (len := 3) (by decide +kernel) rfl rfl rfl (by decide +kernel) (by decide +kernel) rfl rfl (vm_u (vm_okh_v (c := 7) (by decide +kernel) (by decide +kernel)) (show vm_okn 85 2 2 0 0 2 = true by decide +kernel)) ?_
    refine vm_G.mono h ?_
    rintro _ m1 ⟨z1, rfl, h⟩
    show vm_G 93 53 [some (vm_r 20), some (vm_i v1)] [vm_i z1, vm_i ((m 20 4) * 10), vm_r 20] m1 _
    obtain ⟨⟨o4_0, o4_1, o4_2⟩, h⟩ := h
    refine vm_gp [(.iadd, 0, 0, []), (.iconst 48, 0, 0, []), (.isub, 0, 0, []), (.putfield 0, 8, 4, []), (.iinc 1 1, 0, 0, []), (.goto 0, 29, 0, [])] (pc1 := 29) (ls1 := [some (vm_r 20), some (vm_i (v1 + 1))]) (st1 := []) (m1 := (vm_st m1 20 4 ((((m 20 4) * 10) + z1) - 48))) (ob := ((((true && decide (vm_32 (((m 20 4) * 10) + z1))) && decide (vm_32 ((((m 20 4) * 10) + z1) - 48))) && vm_is 20 8) && decide (vm_32 (v1 + 1)))) (by decide +kernel) rfl (vm_t (vm_u (vm_t (vm_t rfl o4_0) o4_1) (by decide +kernel)) o4_2) ?_
    exact h
abbrev ku8_kindOf_0 (v0 : Int) (m : vm_M) (Q : Int → vm_M → Prop) : Prop := vm_G 94 0 [some (vm_i v0)] [] m (vm_qi Q)
set_option maxRecDepth 20000 in
theorem ru8_kindOf_0 {v0 : Int} {m : vm_M} {Q : Int → vm_M → Prop}  (h :
    ((¬ v0 = (-1) →
      ((v0 < 97 →
        ((v0 < 48 →
          ((¬ v0 = 59 →
            Q 4 m) ∧ (¬ ¬ v0 = 59 →
            Q 3 m))) ∧ (¬ v0 < 48 →
          ((57 < v0 →
            ((¬ v0 = 59 →
              Q 4 m) ∧ (¬ ¬ v0 = 59 →
              Q 3 m))) ∧ (¬ 57 < v0 →
            Q 2 m))))) ∧ (¬ v0 < 97 →
        ((122 < v0 →
          ((v0 < 48 →
            ((¬ v0 = 59 →
              Q 4 m) ∧ (¬ ¬ v0 = 59 →
              Q 3 m))) ∧ (¬ v0 < 48 →
            ((57 < v0 →
              ((¬ v0 = 59 →
                Q 4 m) ∧ (¬ ¬ v0 = 59 →
                Q 3 m))) ∧ (¬ 57 < v0 →
              Q 2 m))))) ∧ (¬ 122 < v0 →
          Q 1 m))))) ∧ (¬ ¬ v0 = (-1) →
      Q 0 m))) : vm_C 94 [vm_i v0] m (vm_qi Q) := by
  show vm_G 94 0 [some (vm_i v0)] [] m (vm_qi Q)
  refine vm_gp [(.iload 0, 0, 0, []), (.iconst (-1), 0, 0, [])] (pc1 := 2) (ls1 := [some (vm_i v0)]) (st1 := [vm_i (-1), vm_i v0]) (m1 := m) (ob := true) (by decide +kernel) rfl rfl ?_
  refine vm_gj (c := ¬ v0 = (-1)) (t := 7) (e := 5) (i := (.if_icmp .ne 0, 7, 0, [])) (len := 3) (st1 := []) (by decide +kernel) rfl rfl (fun c1 => ?_) (fun c1 => ?_)
  · replace h := h.1 c1
    refine vm_gp [(.iload 0, 0, 0, []), (.iconst 97, 0, 0, [])] (pc1 := 10) (ls1 := [some (vm_i v0)]) (st1 := [vm_i 97, vm_i v0]) (m1 := m) (ob := true) (by decide +kernel) rfl rfl ?_
    refine vm_gj (c := v0 < 97) (t := 21) (e := 13) (i := (.if_icmp .lt 0, 21, 0, [])) (len := 3) (st1 := []) (by decide +kernel) rfl rfl (fun c2 => ?_) (fun c2 => ?_)
    · replace h := h.1 c2
      refine vm_gp [(.iload 0, 0, 0, []), (.iconst 48, 0, 0, [])] (pc1 := 24) (ls1 := [some (vm_i v0)]) (st1 := [vm_i 48, vm_i v0]) (m1 := m) (ob := true) (by decide +kernel) rfl rfl ?_
      refine vm_gj (c := v0 < 48) (t := 35) (e := 27) (i := (.if_icmp .lt 0, 35, 0, [])) (len := 3) (st1 := []) (by decide +kernel) rfl rfl (fun c3 => ?_) (fun c3 => ?_)
      · replace h := h.1 c3
        refine vm_gp [(.iload 0, 0, 0, []), (.iconst 59, 0, 0, [])] (pc1 := 38) (ls1 := [some (vm_i v0)]) (st1 := [vm_i 59, vm_i v0]) (m1 := m) (ob := true) (by decide +kernel) rfl rfl ?_
        refine vm_gj (c := ¬ v0 = 59) (t := 45) (e := 41) (i := (.if_icmp .ne 0, 45, 0, [])) (len := 3) (st1 := []) (by decide +kernel) rfl rfl (fun c4 => ?_) (fun c4 => ?_)
        · replace h := h.1 c4
          refine vm_gp [(.iconst 4, 0, 0, [])] (pc1 := 46) (ls1 := [some (vm_i v0)]) (st1 := [vm_i 4]) (m1 := m) (ob := true) (by decide +kernel) rfl rfl ?_
          exact vm_gr (r := some (vm_i 4)) (i := (.ireturn, 1, 0, [])) (len := 1) (by decide +kernel) rfl rfl rfl ⟨_, rfl, h⟩
        · replace h := h.2 c4
          refine vm_gp [(.iconst 3, 0, 0, []), (.goto 0, 46, 0, [])] (pc1 := 46) (ls1 := [some (vm_i v0)]) (st1 := [vm_i 3]) (m1 := m) (ob := true) (by decide +kernel) rfl rfl ?_
          exact vm_gr (r := some (vm_i 3)) (i := (.ireturn, 1, 0, [])) (len := 1) (by decide +kernel) rfl rfl rfl ⟨_, rfl, h⟩
      · replace h := h.2 c3
        refine vm_gp [(.iload 0, 0, 0, []), (.iconst 57, 0, 0, [])] (pc1 := 30) (ls1 := [some (vm_i v0)]) (st1 := [vm_i 57, vm_i v0]) (m1 := m) (ob := true) (by decide +kernel) rfl rfl ?_
        refine vm_gj (c := 57 < v0) (t := 35) (e := 33) (i := (.if_icmp .gt 0, 35, 0, [])) (len := 3) (st1 := []) (by decide +kernel) rfl rfl (fun c5 => ?_) (fun c5 => ?_)
        · replace h := h.1 c5
          refine vm_gp [(.iload 0, 0, 0, []), (.iconst 59, 0, 0, [])] (pc1 := 38) (ls1 := [some (vm_i v0)]) (st1 := [vm_i 59, vm_i v0]) (m1 := m) (ob := true) (by decide +kernel) rfl rfl ?_
          refine vm_gj (c := ¬ v0 = 59) (t := 45) (e := 41) (i := (.if_icmp .ne 0, 45, 0, [])) (len := 3) (st1 := []) (by decide +kernel) rfl rfl (fun c6 => ?_) (fun c6 => ?_)
          · replace h := h.1 c6
            refine vm_gp [(.iconst 4, 0, 0, [])] (pc1 := 46) (ls1 := [some (vm_i v0)]) (st1 := [vm_i 4]) (m1 := m) (ob := true) (by decide +kernel) rfl rfl ?_
            exact vm_gr (r := some (vm_i 4)) (i := (.ireturn, 1, 0, [])) (len := 1) (by decide +kernel) rfl rfl rfl ⟨_, rfl, h⟩
          · replace h := h.2 c6
            refine vm_gp [(.iconst 3, 0, 0, []), (.goto 0, 46, 0, [])] (pc1 := 46) (ls1 := [some (vm_i v0)]) (st1 := [vm_i 3]) (m1 := m) (ob := true) (by decide +kernel) rfl rfl ?_
            exact vm_gr (r := some (vm_i 3)) (i := (.ireturn, 1, 0, [])) (len := 1) (by decide +kernel) rfl rfl rfl ⟨_, rfl, h⟩
        · replace h := h.2 c5
          refine vm_gp [(.iconst 2, 0, 0, [])] (pc1 := 34) (ls1 := [some (vm_i v0)]) (st1 := [vm_i 2]) (m1 := m) (ob := true) (by decide +kernel) rfl rfl ?_
          exact vm_gr (r := some (vm_i 2)) (i := (.ireturn, 1, 0, [])) (len := 1) (by decide +kernel) rfl rfl rfl ⟨_, rfl, h⟩
    · replace h := h.2 c2
      refine vm_gp [(.iload 0, 0, 0, []), (.iconst 122, 0, 0, [])] (pc1 := 16) (ls1 := [some (vm_i v0)]) (st1 := [vm_i 122, vm_i v0]) (m1 := m) (ob := true) (by decide +kernel) rfl rfl ?_
      refine vm_gj (c := 122 < v0) (t := 21) (e := 19) (i := (.if_icmp .gt 0, 21, 0, [])) (len := 3) (st1 := []) (by decide +kernel) rfl rfl (fun c7 => ?_) (fun c7 => ?_)
      · replace h := h.1 c7
        refine vm_gp [(.iload 0, 0, 0, []), (.iconst 48, 0, 0, [])] (pc1 := 24) (ls1 := [some (vm_i v0)]) (st1 := [vm_i 48, vm_i v0]) (m1 := m) (ob := true) (by decide +kernel) rfl rfl ?_
        refine vm_gj (c := v0 < 48) (t := 35) (e := 27) (i := (.if_icmp .lt 0, 35, 0, [])) (len := 3) (st1 := []) (by decide +kernel) rfl rfl (fun c8 => ?_) (fun c8 => ?_)
        · replace h := h.1 c8
          refine vm_gp [(.iload 0, 0, 0, []), (.iconst 59, 0, 0, [])] (pc1 := 38) (ls1 := [some (vm_i v0)]) (st1 := [vm_i 59, vm_i v0]) (m1 := m) (ob := true) (by decide +kernel) rfl rfl ?_
          refine vm_gj (c := ¬ v0 = 59) (t := 45) (e := 41) (i := (.if_icmp .ne 0, 45, 0, [])) (len := 3) (st1 := []) (by decide +kernel) rfl rfl (fun c9 => ?_) (fun c9 => ?_)
          · replace h := h.1 c9
            refine vm_gp [(.iconst 4, 0, 0, [])] (pc1 := 46) (ls1 := [some (vm_i v0)]) (st1 := [vm_i 4]) (m1 := m) (ob := true) (by decide +kernel) rfl rfl ?_
            exact vm_gr (r := some (vm_i 4)) (i := (.ireturn, 1, 0, [])) (len := 1) (by decide +kernel) rfl rfl rfl ⟨_, rfl, h⟩
          · replace h := h.2 c9
            refine vm_gp [(.iconst 3, 0, 0, []), (.goto 0, 46, 0, [])] (pc1 := 46) (ls1 := [some (vm_i v0)]) (st1 := [vm_i 3]) (m1 := m) (ob := true) (by decide +kernel) rfl rfl ?_
            exact vm_gr (r := some (vm_i 3)) (i := (.ireturn, 1, 0, [])) (len := 1) (by decide +kernel) rfl rfl rfl ⟨_, rfl, h⟩
        · replace h := h.2 c8
          refine vm_gp [(.iload 0, 0, 0, []), (.iconst 57, 0, 0, [])] (pc1 := 30) (ls1 := [some (vm_i v0)]) (st1 := [vm_i 57, vm_i v0]) (m1 := m) (ob := true) (by decide +kernel) rfl rfl ?_
          refine vm_gj (c := 57 < v0) (t := 35) (e := 33) (i := (.if_icmp .gt 0, 35, 0, [])) (len := 3) (st1 := []) (by decide +kernel) rfl rfl (fun c10 => ?_) (fun c10 => ?_)
          · replace h := h.1 c10
            refine vm_gp [(.iload 0, 0, 0, []), (.iconst 59, 0, 0, [])] (pc1 := 38) (ls1 := [some (vm_i v0)]) (st1 := [vm_i 59, vm_i v0]) (m1 := m) (ob := true) (by decide +kernel) rfl rfl ?_
            refine vm_gj (c := ¬ v0 = 59) (t := 45) (e := 41) (i := (.if_icmp .ne 0, 45, 0, [])) (len := 3) (st1 := []) (by decide +kernel) rfl rfl (fun c11 => ?_) (fun c11 => ?_)
            · replace h := h.1 c11
              refine vm_gp [(.iconst 4, 0, 0, [])] (pc1 := 46) (ls1 := [some (vm_i v0)]) (st1 := [vm_i 4]) (m1 := m) (ob := true) (by decide +kernel) rfl rfl ?_
              exact vm_gr (r := some (vm_i 4)) (i := (.ireturn, 1, 0, [])) (len := 1) (by decide +kernel) rfl rfl rfl ⟨_, rfl, h⟩
            · replace h := h.2 c11
              refine vm_gp [(.iconst 3, 0, 0, []), (.goto 0, 46, 0, [])] (pc1 := 46) (ls1 := [some (vm_i v0)]) (st1 := [vm_i 3]) (m1 := m) (ob := true) (by decide +kernel) rfl rfl ?_
              exact vm_gr (r := some (vm_i 3)) (i := (.ireturn, 1, 0, [])) (len := 1) (by decide +kernel) rfl rfl rfl ⟨_, rfl, h⟩
          · replace h := h.2 c10
            refine vm_gp [(.iconst 2, 0, 0, [])] (pc1 := 34) (ls1 := [some (vm_i v0)]) (st1 := [vm_i 2]) (m1 := m) (ob := true) (by decide +kernel) rfl rfl ?_
            exact vm_gr (r := some (vm_i 2)) (i := (.ireturn, 1, 0, [])) (len := 1) (by decide +kernel) rfl rfl rfl ⟨_, rfl, h⟩
      · replace h := h.2 c7
        refine vm_gp [(.iconst 1, 0, 0, [])] (pc1 := 20) (ls1 := [some (vm_i v0)]) (st1 := [vm_i 1]) (m1 := m) (ob := true) (by decide +kernel) rfl rfl ?_
        exact vm_gr (r := some (vm_i 1)) (i := (.ireturn, 1, 0, [])) (len := 1) (by decide +kernel) rfl rfl rfl ⟨_, rfl, h⟩
  · replace h := h.2 c1
    refine vm_gp [(.iconst 0, 0, 0, [])] (pc1 := 6) (ls1 := [some (vm_i v0)]) (st1 := [vm_i 0]) (m1 := m) (ob := true) (by decide +kernel) rfl rfl ?_
    exact vm_gr (r := some (vm_i 0)) (i := (.ireturn, 1, 0, [])) (len := 1) (by decide +kernel) rfl rfl rfl ⟨_, rfl, h⟩
abbrev ku9_of_0 (v1 : Int) (v2 : Int) (m : vm_M) (Q : Int → vm_M → Prop) : Prop := vm_G 96 0 [some (vm_r 65), some (vm_i v1), some (vm_i v2)] [] m (vm_qi Q)
set_option maxRecDepth 20000 in
theorem ru9_of_0 {v1 : Int} {v2 : Int} {m : vm_M} {Q : Int → vm_M → Prop}  (h :
    ((vm_32 (v2 * 30)) ∧ (vm_32 ((v2 * 30) + v1)) ∧ (0 ≤ ((v2 * 30) + v1) ∧ ((v2 * 30) + v1) < 930)) ∧
    Q (m 66 ((v2 * 30) + v1)) m) : vm_C 96 [vm_r 65, vm_i v1, vm_i v2] m (vm_qi Q) := by
  show vm_G 96 0 [some (vm_r 65), some (vm_i v1), some (vm_i v2)] [] m (vm_qi Q)
  obtain ⟨⟨o1_0, o1_1, o1_2⟩, h⟩ := h
  refine vm_gp [(.aload 0, 0, 0, []), (.getfield 2, 9, 2, [(66, 0)]), (.iload 2, 0, 0, []), (.iconst 30, 0, 0, []), (.imul, 0, 0, []), (.iload 1, 0, 0, []), (.iadd, 0, 0, []), (.iaload, 930, 0, [])] (pc1 := 11) (ls1 := [some (vm_r 65), some (vm_i v1), some (vm_i v2)]) (st1 := [vm_i (m 66 ((v2 * 30) + v1))]) (m1 := m) (ob := ((((((true && vm_is 65 9) && true) && decide (vm_32 (v2 * 30))) && decide (vm_32 ((v2 * 30) + v1))) && vm_ar 66 100 930) && decide (0 ≤ ((v2 * 30) + v1) ∧ ((v2 * 30) + v1) < 930))) (by decide +kernel) rfl (vm_t (vm_u (vm_t (vm_t (vm_u (vm_u rfl (by decide +kernel)) rfl) o1_0) o1_1) (by decide +kernel)) o1_2) ?_
  exact vm_gr (r := some (vm_i (m 66 ((v2 * 30) + v1)))) (i := (.ireturn, 1, 0, [])) (len := 1) (by decide +kernel) rfl rfl rfl ⟨_, rfl, h⟩
abbrev ku9_renew_0  (m : vm_M) (Q : vm_M → Prop) : Prop := vm_G 97 0 [some (vm_r 65), none, none, none] [] m (vm_qv Q)
abbrev ku9_renew_2 (v1 : Int) (w2 : Option vm_V) (w3 : Option vm_V) (m : vm_M) (Q : vm_M → Prop) : Prop := vm_G 97 2 [some (vm_r 65), some (vm_i v1), w2, w3] [] m (vm_qv Q)
abbrev ku9_renew_20 (v1 : Int) (v2 : Int) (w3 : Option vm_V) (m : vm_M) (Q : vm_M → Prop) : Prop := vm_G 97 20 [some (vm_r 65), some (vm_i v1), some (vm_i v2), w3] [] m (vm_qv Q)
abbrev ku9_renew_73 (v1 : Int) (v2 : Int) (w3 : Option vm_V) (m : vm_M) (Q : vm_M → Prop) : Prop := vm_G 97 73 [some (vm_r 65), some (vm_i v1), some (vm_i v2), w3] [] m (vm_qv Q)
set_option maxRecDepth 20000 in
theorem ru9_renew_0  {m : vm_M} {Q : vm_M → Prop}  (h :
    ku9_renew_2 0 none none m Q) : vm_C 97 [vm_r 65] m (vm_qv Q) := by
  show vm_G 97 0 [some (vm_r 65), none, none, none] [] m (vm_qv Q)
  refine vm_gp [(.iconst 0, 0, 0, []), (.istore 1, 0, 0, [])] (pc1 := 2) (ls1 := [some (vm_r 65), some (vm_i 0), none, none]) (st1 := []) (m1 := m) (ob := true) (by decide +kernel) rfl rfl ?_
  exact h
set_option maxRecDepth 20000 in
theorem ru9_renew_2 {v1 : Int} {w2 : Option vm_V} {w3 : Option vm_V} {m : vm_M} {Q : vm_M → Prop}  (h :
    (((m 9 6) ≤ v1 →
      Q m) ∧ (¬ (m 9 6) ≤ v1 →
      (vm_C 98 [vm_r 65, vm_i v1] m (vm_qv (fun m1 =>
        ku9_renew_20 v1 1 w3 m1 Q)))))) : ku9_renew_2 v1 w2 w3 m Q := by
  show vm_G 97 2 [some (vm_r 65), some (vm_i v1), w2, w3] [] m (vm_qv Q)
  refine vm_gp [(.iload 1, 0, 0, []), (.aload 0, 0, 0, []), (.getfield 2, 9, 1, [(9, 0)]), (.getfield 0, 4, 6, [])] (pc1 := 10) (ls1 := [some (vm_r 65), some (vm_i v1), w2, w3]) (st1 := [vm_i (m 9 6), vm_i v1]) (m1 := m) (ob := (((true && vm_is 65 9) && true) && vm_is 9 4)) (by decide +kernel) rfl (vm_u (vm_u (vm_u rfl (by decide +kernel)) rfl) (by decide +kernel)) ?_
  refine vm_gj (c := (m 9 6) ≤ v1) (t := 119) (e := 13) (i := (.if_icmp .ge 0, 119, 0, [])) (len := 3) (st1 := []) (by decide +kernel) rfl rfl (fun c1 => ?_) (fun c1 => ?_)
  · replace h := h.1 c1
    exact vm_gr (r := none) (i := (.return_, 0, 0, [])) (len := 1) (by decide +kernel) rfl rfl rfl ⟨rfl, h⟩
  · replace h := h.2 c1
    refine vm_gp [(.aload 0, 0, 0, []), (.iload 1, 0, 0, [])] (pc1 := 15) (ls1 := [some (vm_r 65), some (vm_i v1), w2, w3]) (st1 := [vm_i v1, vm_r 65]) (m1 := m) (ob := true) (by decide +kernel) rfl rfl ?_
    refine vm_gc (g := 98) (na := 2) (av := [vm_r 65, vm_i v1]) (rest := []) (i := (.invokevirtual 0, 98, 2, [])) (len := 3) (by decide +kernel) rfl rfl rfl (by decide +kernel) (by decide +kernel) rfl rfl (vm_u (vm_okh_v (c := 9) (by decide +kernel) (by decide +kernel)) (show vm_okn 98 2 0 0 0 2 = true by decide +kernel)) ?_
    refine vm_G.mono h ?_
    rintro _ m1 ⟨rfl, h⟩
    show vm_G 97 18 [some (vm_r 65), some (vm_i v1), w2, w3] [] m1 _
    refine vm_gp [(.iconst 1, 0, 0, []), (.istore 2, 0, 0, [])] (pc1 := 20) (ls1 := [some (vm_r 65), some (vm_i v1), some (vm_i 1), w3]) (st1 := []) (m1 := m1) (ob := true) (by decide +kernel) rfl rfl ?_
    exact h
set_option maxRecDepth 20000 in
theorem ru9_renew_20 {v1 : Int} {v2 : Int} {w3 : Option vm_V} {m : vm_M} {Q : vm_M → Prop}  (h :
    ((0 ≤ v1 ∧ v1 < 30)) ∧
    (((m 12 v1) ≤ v2 →
      ku9_renew_73 v1 0 w3 m Q) ∧ (¬ (m 12 v1) ≤ v2 →
      ((vm_32 (v1 * 12)) ∧ (vm_32 ((v1 * 12) + v2)) ∧ (vm_32 (((v1 * 12) + v2) - 1)) ∧ (0 ≤ (((v1 * 12) + v2) - 1) ∧ (((v1 * 12) + v2) - 1) < 360) ∧ (0 ≤ ((v1 * 12) + v2) ∧ ((v1 * 12) + v2) < 360)) ∧
      (vm_C 99 [vm_r 65, vm_i v1, vm_i (m 13 (((v1 * 12) + v2) - 1)), vm_i (m 13 ((v1 * 12) + v2))] m (vm_qv (fun m1 =>
        ((vm_32 (v2 + 1))) ∧
        ku9_renew_20 v1 (v2 + 1) (some (vm_i ((v1 * 12) + v2))) m1 Q)))))) : ku9_renew_20 v1 v2 w3 m Q := by
  show vm_G 97 20 [some (vm_r 65), some (vm_i v1), some (vm_i v2), w3] [] m (vm_qv Q)
  obtain ⟨o1_0, h⟩ := h
  refine vm_gp [(.iload 2, 0, 0, []), (.aload 0, 0, 0, []), (.getfield 2, 9, 1, [(9, 0)]), (.getfield 2, 4, 2, [(3, 1)]), (.iload 1, 0, 0, []), (.iaload, 30, 0, [])] (pc1 := 30) (ls1 := [some (vm_r 65), some (vm_i v1), some (vm_i v2), w3]) (st1 := [vm_i (m 12 v1), vm_i v2]) (m1 := m) (ob := ((((((true && vm_is 65 9) && true) && vm_is 9 4) && true) && vm_ar 12 100 30) && decide (0 ≤ v1 ∧ v1 < 30))) (by decide +kernel) rfl (vm_t (vm_u (vm_u (vm_u (vm_u (vm_u rfl (by decide +kernel)) rfl) (by decide +kernel)) rfl) (by decide +kernel)) o1_0) ?_
  refine vm_gj (c := (m 12 v1) ≤ v2) (t := 71) (e := 33) (i := (.if_icmp .ge 0, 71, 0, [])) (len := 3) (st1 := []) (by decide +kernel) rfl rfl (fun c1 => ?_) (fun c1 => ?_)
  · replace h := h.1 c1
    refine vm_gp [(.iconst 0, 0, 0, []), (.istore 2, 0, 0, [])] (pc1 := 73) (ls1 := [some (vm_r 65), some (vm_i v1), some (vm_i 0), w3]) (st1 := []) (m1 := m) (ob := true) (by decide +kernel) rfl rfl ?_
    exact h
  · replace h := h.2 c1
    obtain ⟨⟨o3_0, o3_1, o3_2, o3_3, o3_4⟩, h⟩ := h
    refine vm_gp [(.iload 1, 0, 0, []), (.iconst 12, 0, 0, []), (.imul, 0, 0, []), (.iload 2, 0, 0, []), (.iadd, 0, 0, []), (.istore 3, 0, 0, []), (.aload 0, 0, 0, []), (.iload 1, 0, 0, []), (.aload 0, 0, 0, []), (.getfield 2, 9, 1, [(9, 0)]), (.getfield 2, 4, 3, [(4, 1)]), (.iload 3, 0, 0, []), (.iconst 1, 0, 0, []), (.isub, 0, 0, []), (.iaload, 360, 0, []), (.aload 0, 0, 0, []), (.getfield 2, 9, 1, [(9, 0)]), (.getfield 2, 4, 3, [(4, 1)]), (.iload 3, 0, 0, []), (.iaload, 360, 0, [])] (pc1 := 62) (ls1 := [some (vm_r 65), some (vm_i v1), some (vm_i v2), some (vm_i ((v1 * 12) + v2))]) (st1 := [vm_i (m 13 ((v1 * 12) + v2)), vm_i (m 13 (((v1 * 12) + v2) - 1)), vm_i v1, vm_r 65]) (m1 := m) (ob := (((((((((((((((true && decide (vm_32 (v1 * 12))) && decide (vm_32 ((v1 * 12) + v2))) && vm_is 65 9) && true) && vm_is 9 4) && true) && decide (vm_32 (((v1 * 12) + v2) - 1))) && vm_ar 13 100 360) && decide (0 ≤ (((v1 * 12) + v2) - 1) ∧ (((v1 * 12) + v2) - 1) < 360)) && vm_is 65 9) && true) && vm_is 9 4) && true) && vm_ar 13 100 360) && decide (0 ≤ ((v1 * 12) + v2) ∧ ((v1 * 12) + v2) < 360))) (by decide +kernel) rfl (vm_t (vm_u (vm_u (vm_u (vm_u (vm_u (vm_t (vm_u (vm_t (vm_u (vm_u (vm_u (vm_u (vm_t (vm_t rfl o3_0) o3_1) (by decide +kernel)) rfl) (by decide +kernel)) rfl) o3_2) (by decide +kernel)) o3_3) (by decide +kernel)) rfl) (by decide +kernel)) rfl) (by decide +kernel)) o3_4) ?_
    refine vm_gc (g := 99) (na := 4) (av := [vm_r 65, vm_i v1, vm_i (m 13 (((v1 * 12) + v2) - 1)), vm_i (m 13 ((v1 * 12) + v2))]) (rest := []) (i := (.invokevirtual 0, 99, 4, [])) (len := 3) (by decide +kernel) rfl rfl rfl (by decide +kernel) (by decide +kernel) rfl rfl (vm_u (vm_okh_v (c := 9) (by decide +kernel) (by decide +kernel)) (show vm_okn 99 4 0 0 0 4 = true by decide +kernel)) ?_
    refine vm_G.mono h ?_
    rintro _ m1 ⟨rfl, h⟩
    show vm_G 97 65 [some (vm_r 65), some (vm_i v1), some (vm_i v2), some (vm_i ((v1 * 12) + v2))] [] m1 _
    obtain ⟨o4_0, h⟩ := h
    refine vm_gp [(.iinc 2 1, 0, 0, []), (.goto 0, 20, 0, [])] (pc1 := 20) (ls1 := [some (vm_r 65), some (vm_i v1), some (vm_i (v2 + 1)), some (vm_i ((v1 * 12) + v2))]) (st1 := []) (m1 := m1) (ob := (true && decide (vm_32 (v2 + 1)))) (by decide +kernel) rfl (vm_t rfl o4_0) ?_
    exact h
set_option maxRecDepth 20000 in
theorem ru9_renew_73 {v1 : Int} {v2 : Int} {w3 : Option vm_V} {m : vm_M} {Q : vm_M → Prop}  (h :
    (((m 3 2) < v2 →
      ((vm_32 (v1 + 1))) ∧
      ku9_renew_2 (v1 + 1) (some (vm_i v2)) w3 m Q) ∧ (¬ (m 3 2) < v2 →
      ((vm_32 (v2 * 30)) ∧ (vm_32 ((v2 * 30) + v1)) ∧ (0 ≤ ((v2 * 30) + v1) ∧ ((v2 * 30) + v1) < 930) ∧ (0 ≤ ((v2 * 30) + v1) ∧ ((v2 * 30) + v1) < 930) ∧ (vm_32 (v2 + 1))) ∧
      ku9_renew_73 v1 (v2 + 1) (some (vm_i ((v2 * 30) + v1))) (vm_st m 66 ((v2 * 30) + v1) (if 1 < (m 66 ((v2 * 30) + v1)) then (m 66 ((v2 * 30) + v1)) else 1)) Q))) : ku9_renew_73 v1 v2 w3 m Q := by
  show vm_G 97 73 [some (vm_r 65), some (vm_i v1), some (vm_i v2), w3] [] m (vm_qv Q)
  refine vm_gp [(.iload 2, 0, 0, []), (.aload 0, 0, 0, []), (.getfield 2, 9, 0, [(3, 0)]), (.getfield 0, 0, 2, [])] (pc1 := 81) (ls1 := [some (vm_r 65), some (vm_i v1), some (vm_i v2), w3]) (st1 := [vm_i (m 3 2), vm_i v2]) (m1 := m) (ob := (((true && vm_is 65 9) && true) && vm_is 3 0)) (by decide +kernel) rfl (vm_u (vm_u (vm_u rfl (by decide +kernel)) rfl) (by decide +kernel)) ?_
  refine vm_gj (c := (m 3 2) < v2) (t := 113) (e := 84) (i := (.if_icmp .gt 0, 113, 0, [])) (len := 3) (st1 := []) (by decide +kernel) rfl rfl (fun c1 => ?_) (fun c1 => ?_)
  · replace h := h.1 c1
    obtain ⟨o2_0, h⟩ := h
    refine vm_gp [(.iinc 1 1, 0, 0, []), (.goto 0, 2, 0, [])] (pc1 := 2) (ls1 := [some (vm_r 65), some (vm_i (v1 + 1)), some (vm_i v2), w3]) (st1 := []) (m1 := m) (ob := (true && decide (vm_32 (v1 + 1)))) (by decide +kernel) rfl (vm_t rfl o2_0) ?_
    exact h
  · replace h := h.2 c1
    obtain ⟨⟨o3_0, o3_1, o3_2, o3_3, o3_4⟩, h⟩ := h
    refine vm_gp [(.iload 2, 0, 0, []), (.iconst 30, 0, 0, []), (.imul, 0, 0, []), (.iload 1, 0, 0, []), (.iadd, 0, 0, []), (.istore 3, 0, 0, []), (.aload 0, 0, 0, []), (.getfield 2, 9, 2, [(66, 0)]), (.iload 3, 0, 0, []), (.iconst 1, 0, 0, []), (.aload 0, 0, 0, []), (.getfield 2, 9, 2, [(66, 0)]), (.iload 3, 0, 0, []), (.iaload, 930, 0, []), (.invokestatic 0, 1000, 0, []), (.iastore, 930, 0, []), (.iinc 2 1, 0, 0, []), (.goto 0, 73, 0, [])] (pc1 := 73) (ls1 := [some (vm_r 65), some (vm_i v1), some (vm_i (v2 + 1)), some (vm_i ((v2 * 30) + v1))]) (st1 := []) (m1 := (vm_st m 66 ((v2 * 30) + v1) (if 1 < (m 66 ((v2 * 30) + v1)) then (m 66 ((v2 * 30) + v1)) else 1))) (ob := ((((((((((((true && decide (vm_32 (v2 * 30))) && decide (vm_32 ((v2 * 30) + v1))) && vm_is 65 9) && true) && vm_is 65 9) && true) && vm_ar 66 100 930) && decide (0 ≤ ((v2 * 30) + v1) ∧ ((v2 * 30) + v1) < 930)) && decide (vm_cats [vm_i ((v2 * 30) + v1), vm_r 66] ≤ 8)) && vm_ar 66 100 930) && decide (0 ≤ ((v2 * 30) + v1) ∧ ((v2 * 30) + v1) < 930)) && decide (vm_32 (v2 + 1)))) (by decide +kernel) rfl (vm_t (vm_t (vm_u (vm_t (vm_t (vm_u (vm_u (vm_u (vm_u (vm_u (vm_t (vm_t rfl o3_0) o3_1) (by decide +kernel)) rfl) (by decide +kernel)) rfl) (by decide +kernel)) o3_2) (by decide : (2 : Nat) ≤ 8)) (by decide +kernel)) o3_3) o3_4) ?_
    exact h
abbrev ku9_addWides_0 (v1 : Int) (m : vm_M) (Q : vm_M → Prop) : Prop := vm_G 98 0 [some (vm_r 65), some (vm_i v1), none, none] [] m (vm_qv Q)
abbrev ku9_addWides_4 (v1 : Int) (v2 : Int) (v3 : Int) (m : vm_M) (Q : vm_M → Prop) : Prop := vm_G 98 4 [some (vm_r 65), some (vm_i v1), some (vm_i v2), some (vm_i v3)] [] m (vm_qv Q)
abbrev ku9_addWides_50 (v1 : Int) (v2 : Int) (v3 : Int) (m : vm_M) (Q : vm_M → Prop) : Prop := vm_G 98 50 [some (vm_r 65), some (vm_i v1), some (vm_i v2), some (vm_i v3)] [] m (vm_qv Q)
set_option maxRecDepth 20000 in
theorem ru9_addWides_0 {v1 : Int} {m : vm_M} {Q : vm_M → Prop}  (h :
    ku9_addWides_4 v1 0 0 m Q) : vm_C 98 [vm_r 65, vm_i v1] m (vm_qv Q) := by
  show vm_G 98 0 [some (vm_r 65), some (vm_i v1), none, none] [] m (vm_qv Q)
  refine vm_gp [(.iconst 0, 0, 0, []), (.istore 2, 0, 0, []), (.iconst 0, 0, 0, []), (.istore 3, 0, 0, [])] (pc1 := 4) (ls1 := [some (vm_r 65), some (vm_i v1), some (vm_i 0), some (vm_i 0)]) (st1 := []) (m1 := m) (ob := true) (by decide +kernel) rfl rfl ?_
  exact h
set_option maxRecDepth 20000 in
theorem ru9_addWides_4 {v1 : Int} {v2 : Int} {v3 : Int} {m : vm_M} {Q : vm_M → Prop}  (h :
    ((0 ≤ v1 ∧ v1 < 30)) ∧
    (((m 12 v1) ≤ v3 →
      ku9_addWides_50 v1 v2 0 m Q) ∧ (¬ (m 12 v1) ≤ v3 →
      ((vm_32 (v1 * 12)) ∧ (vm_32 ((v1 * 12) + v3)) ∧ (0 ≤ ((v1 * 12) + v3) ∧ ((v1 * 12) + v3) < 360) ∧ (0 ≤ (m 13 ((v1 * 12) + v3)) ∧ (m 13 ((v1 * 12) + v3)) < 26) ∧ (vm_32 (v2 + (m 4 (m 13 ((v1 * 12) + v3))))) ∧ (vm_32 (v3 + 1))) ∧
      ku9_addWides_4 v1 (v2 + (m 4 (m 13 ((v1 * 12) + v3)))) (v3 + 1) m Q))) : ku9_addWides_4 v1 v2 v3 m Q := by
  show vm_G 98 4 [some (vm_r 65), some (vm_i v1), some (vm_i v2), some (vm_i v3)] [] m (vm_qv Q)
  obtain ⟨o1_0, h⟩ := h
  refine vm_gp [(.iload 3, 0, 0, []), (.aload 0, 0, 0, []), (.getfield 2, 9, 1, [(9, 0)]), (.getfield 2, 4, 2, [(3, 1)]), (.iload 1, 0, 0, []), (.iaload, 30, 0, [])] (pc1 := 14) (ls1 := [some (vm_r 65), some (vm_i v1), some (vm_i v2), some (vm_i v3)]) (st1 := [vm_i (m 12 v1), vm_i v3]) (m1 := m) (ob := ((((((true && vm_is 65 9) && true) && vm_is 9 4) && true) && vm_ar 12 100 30) && decide (0 ≤ v1 ∧ v1 < 30))) (by decide +kernel) rfl (vm_t (vm_u (vm_u (vm_u (vm_u (vm_u rfl (by decide +kernel)) rfl) (by decide +kernel)) rfl) (by decide +kernel)) o1_0) ?_
  refine vm_gj (c := (m 12 v1) ≤ v3) (t := 48) (e := 17) (i := (.if_icmp .ge 0, 48, 0, [])) (len := 3) (st1 := []) (by decide +kernel) rfl rfl (fun c1 => ?_) (fun c1 => ?_)
  · replace h := h.1 c1
    refine vm_gp [(.iconst 0, 0, 0, []), (.istore 3, 0, 0, [])] (pc1 := 50) (ls1 := [some (vm_r 65), some (vm_i v1), some (vm_i v2), some (vm_i 0)]) (st1 := []) (m1 := m) (ob := true) (by decide +kernel) rfl rfl ?_
    exact h
  · replace h := h.2 c1
    obtain ⟨⟨o3_0, o3_1, o3_2, o3_3, o3_4, o3_5⟩, h⟩ := h
    refine vm_gp [(.iload 2, 0, 0, []), (.aload 0, 0, 0, []), (.getfield 2, 9, 0, [(3, 0)]), (.getfield 2, 0, 0, [(1, 1)]), (.aload 0, 0, 0, []), (.getfield 2, 9, 1, [(9, 0)]), (.getfield 2, 4, 3, [(4, 1)]), (.iload 1, 0, 0, []), (.iconst 12, 0, 0, []), (.imul, 0, 0, []), (.iload 3, 0, 0, []), (.iadd, 0, 0, []), (.iaload, 360, 0, []), (.iaload, 26, 0, []), (.iadd, 0, 0, []), (.istore 2, 0, 0, []), (.iinc 3 1, 0, 0, []), (.goto 0, 4, 0, [])] (pc1 := 4) (ls1 := [some (vm_r 65), some (vm_i v1), some (vm_i (v2 + (m 4 (m 13 ((v1 * 12) + v3))))), some (vm_i (v3 + 1))]) (st1 := []) (m1 := m) (ob := ((((((((((((((((true && vm_is 65 9) && true) && vm_is 3 0) && true) && vm_is 65 9) && true) && vm_is 9 4) && true) && decide (vm_32 (v1 * 12))) && decide (vm_32 ((v1 * 12) + v3))) && vm_ar 13 100 360) && decide (0 ≤ ((v1 * 12) + v3) ∧ ((v1 * 12) + v3) < 360)) && vm_ar 4 100 26) && decide (0 ≤ (m 13 ((v1 * 12) + v3)) ∧ (m 13 ((v1 * 12) + v3)) < 26)) && decide (vm_32 (v2 + (m 4 (m 13 ((v1 * 12) + v3)))))) && decide (vm_32 (v3 + 1)))) (by decide +kernel) rfl (vm_t (vm_t (vm_t (vm_u (vm_t (vm_u (vm_t (vm_t (vm_u (vm_u (vm_u (vm_u (vm_u (vm_u (vm_u (vm_u rfl (by decide +kernel)) rfl) (by decide +kernel)) rfl) (by decide +kernel)) rfl) (by decide +kernel)) rfl) o3_0) o3_1) (by decide +kernel)) o3_2) (by decide +kernel)) o3_3) o3_4) o3_5) ?_
    exact h
set_option maxRecDepth 20000 in
theorem ru9_addWides_50 {v1 : Int} {v2 : Int} {v3 : Int} {m : vm_M} {Q : vm_M → Prop}  (h :
    (((m 3 2) < v3 →
      Q m) ∧ (¬ (m 3 2) < v3 →
      ((vm_32 (v3 * 30)) ∧ (vm_32 ((v3 * 30) + v1)) ∧ (0 ≤ ((v3 * 30) + v1) ∧ ((v3 * 30) + v1) < 930) ∧ (vm_32 (v3 + 1))) ∧
      ku9_addWides_50 v1 v2 (v3 + 1) (vm_st m 66 ((v3 * 30) + v1) v2) Q))) : ku9_addWides_50 v1 v2 v3 m Q := by
  show vm_G 98 50 [some (vm_r 65), some (vm_i v1), some (vm_i v2), some (vm_i v3)] [] m (vm_qv Q)
  refine vm_gp [(.iload 3, 0, 0, []), (.aload 0, 0, 0, []), (.getfield 2, 9, 0, [(3, 0)]), (.getfield 0, 0, 2, [])] (pc1 := 58) (ls1 := [some (vm_r 65), some (vm_i v1), some (vm_i v2), some (vm_i v3)]) (st1 := [vm_i (m 3 2), vm_i v3]) (m1 := m) (ob := (((true && vm_is 65 9) && true) && vm_is 3 0)) (by decide +kernel) rfl (vm_u (vm_u (vm_u rfl (by decide +kernel)) rfl) (by decide +kernel)) ?_
  refine vm_gj (c := (m 3 2) < v3) (t := 79) (e := 61) (i := (.if_icmp .gt 0, 79, 0, [])) (len := 3) (st1 := []) (by decide +kernel) rfl rfl (fun c1 => ?_) (fun c1 => ?_)
  · replace h := h.1 c1
    exact vm_gr (r := none) (i := (.return_, 0, 0, [])) (len := 1) (by decide +kernel) rfl rfl rfl ⟨rfl, h⟩
  · replace h := h.2 c1
    obtain ⟨⟨o3_0, o3_1, o3_2, o3_3⟩, h⟩ := h
    refine vm_gp [(.aload 0, 0, 0, []), (.getfield 2, 9, 2, [(66, 0)]), (.iload 3, 0, 0, []), (.iconst 30, 0, 0, []), (.imul, 0, 0, []), (.iload 1, 0, 0, []), (.iadd, 0, 0, []), (.iload 2, 0, 0, []), (.iastore, 930, 0, []), (.iinc 3 1, 0, 0, []), (.goto 0, 50, 0, [])] (pc1 := 50) (ls1 := [some (vm_r 65), some (vm_i v1), some (vm_i v2), some (vm_i (v3 + 1))]) (st1 := []) (m1 := (vm_st m 66 ((v3 * 30) + v1) v2)) (ob := (((((((true && vm_is 65 9) && true) && decide (vm_32 (v3 * 30))) && decide (vm_32 ((v3 * 30) + v1))) && vm_ar 66 100 930) && decide (0 ≤ ((v3 * 30) + v1) ∧ ((v3 * 30) + v1) < 930)) && decide (vm_32 (v3 + 1)))) (by decide +kernel) rfl (vm_t (vm_t (vm_u (vm_t (vm_t (vm_u (vm_u rfl (by decide +kernel)) rfl) o3_0) o3_1) (by decide +kernel)) o3_2) o3_3) ?_
    exact h
abbrev ku9_addDistances_0 (v1 : Int) (v2 : Int) (v3 : Int) (m : vm_M) (Q : vm_M → Prop) : Prop := vm_G 99 0 [some (vm_r 65), some (vm_i v1), some (vm_i v2), some (vm_i v3), none, none] [] m (vm_qv Q)
abbrev ku9_addDistances_7 (v1 : Int) (v2 : Int) (v3 : Int) (v4 : Int) (v5 : Int) (m : vm_M) (Q : vm_M → Prop) : Prop := vm_G 99 7 [some (vm_r 65), some (vm_i v1), some (vm_i v2), some (vm_i v3), some (vm_i v4), some (vm_i v5)] [] m (vm_qv Q)
set_option maxRecDepth 20000 in
theorem ru9_addDistances_0 {v1 : Int} {v2 : Int} {v3 : Int} {m : vm_M} {Q : vm_M → Prop}  (h :
    ku9_addDistances_7 v1 v2 v3 (-9) 0 m Q) : vm_C 99 [vm_r 65, vm_i v1, vm_i v2, vm_i v3] m (vm_qv Q) := by
  show vm_G 99 0 [some (vm_r 65), some (vm_i v1), some (vm_i v2), some (vm_i v3), none, none] [] m (vm_qv Q)
  refine vm_gp [(.iconst (-9), 0, 0, []), (.istore 4, 0, 0, []), (.iconst 0, 0, 0, []), (.istore 5, 0, 0, [])] (pc1 := 7) (ls1 := [some (vm_r 65), some (vm_i v1), some (vm_i v2), some (vm_i v3), some (vm_i (-9)), some (vm_i 0)]) (st1 := []) (m1 := m) (ob := true) (by decide +kernel) rfl rfl ?_
  exact h
set_option maxRecDepth 20000 in
theorem ru9_addDistances_7 {v1 : Int} {v2 : Int} {v3 : Int} {v4 : Int} {v5 : Int} {m : vm_M} {Q : vm_M → Prop}  (h :
    (((m 3 2) < v5 →
      Q m) ∧ (¬ (m 3 2) < v5 →
      (vm_C 11 [vm_r 3, vm_i v2, vm_i v3, vm_i v5, vm_i v4] m (vm_qi (fun z1 m1 =>
        ((vm_32 (v5 * 30)) ∧ (vm_32 ((v5 * 30) + v1)) ∧ (0 ≤ ((v5 * 30) + v1) ∧ ((v5 * 30) + v1) < 930)) ∧
        (vm_C 57 [vm_r 9, vm_i v2, vm_i v3, vm_i z1] m1 (vm_qi (fun z2 m2 =>
          ((vm_32 ((m1 66 ((v5 * 30) + v1)) + z2)) ∧ (0 ≤ ((v5 * 30) + v1) ∧ ((v5 * 30) + v1) < 930) ∧ (vm_32 (v5 + 1))) ∧
          ku9_addDistances_7 v1 v2 v3 z1 (v5 + 1) (vm_st m2 66 ((v5 * 30) + v1) ((m1 66 ((v5 * 30) + v1)) + z2)) Q))))))))) : ku9_addDistances_7 v1 v2 v3 v4 v5 m Q := by
  show vm_G 99 7 [some (vm_r 65), some (vm_i v1), some (vm_i v2), some (vm_i v3), some (vm_i v4), some (vm_i v5)] [] m (vm_qv Q)
  refine vm_gp [(.iload 5, 0, 0, []), (.aload 0, 0, 0, []), (.getfield 2, 9, 0, [(3, 0)]), (.getfield 0, 0, 2, [])] (pc1 := 16) (ls1 := [some (vm_r 65), some (vm_i v1), some (vm_i v2), some (vm_i v3), some (vm_i v4), some (vm_i v5)]) (st1 := [vm_i (m 3 2), vm_i v5]) (m1 := m) (ob := (((true && vm_is 65 9) && true) && vm_is 3 0)) (by decide +kernel) rfl (vm_u (vm_u (vm_u rfl (by decide +kernel)) rfl) (by decide +kernel)) ?_
  refine vm_gj (c := (m 3 2) < v5) (t := 66) (e := 19) (i := (.if_icmp .gt 0, 66, 0, [])) (len := 3) (st1 := []) (by decide +kernel) rfl rfl (fun c1 => ?_) (fun c1 => ?_)
  · replace h := h.1 c1
    exact vm_gr (r := none) (i := (.return_, 0, 0, [])) (len := 1) (by decide +kernel) rfl rfl rfl ⟨rfl, h⟩
  · replace h := h.2 c1
    refine vm_gp [(.aload 0, 0, 0, []), (.getfield 2, 9, 0, [(3, 0)]), (.iload 2, 0, 0, []), (.iload 3, 0, 0, []), (.iload 5, 0, 0, []), (.iload 4, 0, 0, [])] (pc1 := 29) (ls1 := [some (vm_r 65), some (vm_i v1), some (vm_i v2), some (vm_i v3), some (vm_i v4), some (vm_i v5)]) (st1 := [vm_i v4, vm_i v5, vm_i v3, vm_i v2, vm_r 3]) (m1 := m) (ob := ((true && vm_is 65 9) && true)) (by decide +kernel) rfl (vm_u (vm_u rfl (by decide +kernel)) rfl) ?_
    refine vm_gc (g := 11) (na := 5) (av := [vm_r 3, vm_i v2, vm_i v3, vm_i v5, vm_i v4]) (rest := []) (i := (.invokevirtual 0, 11, 5, [])) (len := 3) (by decide +kernel) rfl rfl rfl (by decide +kernel) (by decide +kernel) rfl rfl (vm_u (vm_okh_v (c := 0) (by decide +kernel) (by decide +kernel)) (show vm_okn 11 5 0 0 0 5 = true by decide +kernel)) ?_
    refine vm_G.mono h ?_
    rintro _ m1 ⟨z1, rfl, h⟩
    show vm_G 99 32 [some (vm_r 65), some (vm_i v1), some (vm_i v2), some (vm_i v3), some (vm_i v4), some (vm_i v5)] [vm_i z1] m1 _
    obtain ⟨⟨o4_0, o4_1, o4_2⟩, h⟩ := h
    refine vm_gp [(.istore 4, 0, 0, []), (.aload 0, 0, 0, []), (.getfield 2, 9, 2, [(66, 0)]), (.iload 5, 0, 0, []), (.iconst 30, 0, 0, []), (.imul, 0, 0, []), (.iload 1, 0, 0, []), (.iadd, 0, 0, []), (.dup2, 0, 0, []), (.iaload, 930, 0, []), (.aload 0, 0, 0, []), (.getfield 2, 9, 1, [(9, 0)]), (.iload 2, 0, 0, []), (.iload 3, 0, 0, []), (.iload 4, 0, 0, [])] (pc1 := 55) (ls1 := [some (vm_r 65), some (vm_i v1), some (vm_i v2), some (vm_i v3), some (vm_i z1), some (vm_i v5)]) (st1 := [vm_i z1, vm_i v3, vm_i v2, vm_r 9, vm_i (m1 66 ((v5 * 30) + v1)), vm_i ((v5 * 30) + v1), vm_r 66]) (m1 := m1) (ob := ((((((((true && vm_is 65 9) && true) && decide (vm_32 (v5 * 30))) && decide (vm_32 ((v5 * 30) + v1))) && vm_ar 66 100 930) && decide (0 ≤ ((v5 * 30) + v1) ∧ ((v5 * 30) + v1) < 930)) && vm_is 65 9) && true)) (by decide +kernel) rfl (vm_u (vm_u (vm_t (vm_u (vm_t (vm_t (vm_u (vm_u rfl (by decide +kernel)) rfl) o4_0) o4_1) (by decide +kernel)) o4_2) (by decide +kernel)) rfl) ?_
    refine vm_gc (g := 57) (na := 4) (av := [vm_r 9, vm_i v2, vm_i v3, vm_i z1]) (rest := [vm_i (m1 66 ((v5 * 30) + v1)), vm_i ((v5 * 30) + v1), vm_r 66]) (i := (.invokevirtual 0, 57, 4, [])) (len := 3) (by decide +kernel) rfl rfl rfl (by decide +kernel) (by decide +kernel) rfl rfl (vm_u (vm_okh_v (c := 4) (by decide +kernel) (by decide +kernel)) (show vm_okn 57 4 3 0 0 4 = true by decide +kernel)) ?_
    refine vm_G.mono h ?_
    rintro _ m2 ⟨z2, rfl, h⟩
    show vm_G 99 58 [some (vm_r 65), some (vm_i v1), some (vm_i v2), some (vm_i v3), some (vm_i z1), some (vm_i v5)] [vm_i z2, vm_i (m1 66 ((v5 * 30) + v1)), vm_i ((v5 * 30) + v1), vm_r 66] m2 _
    obtain ⟨⟨o5_0, o5_1, o5_2⟩, h⟩ := h
    refine vm_gp [(.iadd, 0, 0, []), (.iastore, 930, 0, []), (.iinc 5 1, 0, 0, []), (.goto 0, 7, 0, [])] (pc1 := 7) (ls1 := [some (vm_r 65), some (vm_i v1), some (vm_i v2), some (vm_i v3), some (vm_i z1), some (vm_i (v5 + 1))]) (st1 := []) (m1 := (vm_st m2 66 ((v5 * 30) + v1) ((m1 66 ((v5 * 30) + v1)) + z2))) (ob := ((((true && decide (vm_32 ((m1 66 ((v5 * 30) + v1)) + z2))) && vm_ar 66 100 930) && decide (0 ≤ ((v5 * 30) + v1) ∧ ((v5 * 30) + v1) < 930)) && decide (vm_32 (v5 + 1)))) (by decide +kernel) rfl (vm_t (vm_t (vm_u (vm_t rfl o5_0) (by decide +kernel)) o5_1) o5_2) ?_
    exact h
