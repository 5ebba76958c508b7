/-! ===== rules of the law (printed): draw, write, loads, says, side ===== -/
set_option maxHeartbeats 4000000 in
theorem rL_draw_0 {S : lwS} {Qp : Option vm_V → lwS → Prop} {o0 : Nat} (h : lLd o0 7 S (fun z1 => lSt o0 7 (vm_w32 ((vm_w32 (z1 * 1103515245)) + 12345)) S (fun S2 => lLd o0 7 S2 (fun z3 => Qp (some (vm_i ((vm_and ((vm_shr z3 16)) 32767)))) S2)))) : lG lK_draw 0 [some (vm_r o0)] [] S Qp := by
  refine lg_aload_n (k := 0) rfl rfl (by decide +kernel : decode method_2_code 0 = .ok (.aload_n 0, 1)) ?_
  refine lg_bipush (n := 7) (by decide) (by decide) (by decide +kernel : decode method_2_code 1 = .ok (.bipush 7, 2)) ?_
  refine lg_aload_n (k := 0) rfl rfl (by decide +kernel : decode method_2_code 3 = .ok (.aload_n 0, 1)) ?_
  refine lg_bipush (n := 7) (by decide) (by decide) (by decide +kernel : decode method_2_code 4 = .ok (.bipush 7, 2)) ?_
  refine lg_Ld (by decide +kernel : decode method_2_code 6 = .ok (.iaload, 1)) h (fun z1 h => ?_)
  refine lg_ldc (n := 1103515245) (by decide) (vm_hw_in (i := 779) (by decide +kernel)) (by decide +kernel : decode method_2_code 7 = .ok (.ldc 7, 2)) ?_
  refine lg_imulw (by decide +kernel : decode method_2_code 9 = .ok (.imul, 1)) ?_
  refine lg_sipush (n := 12345) (by decide) (by decide) (by decide +kernel : decode method_2_code 10 = .ok (.sipush 12345, 3)) ?_
  refine lg_iaddw (by decide +kernel : decode method_2_code 13 = .ok (.iadd, 1)) ?_
  refine lg_St (by decide +kernel : decode method_2_code 14 = .ok (.iastore, 1)) h (fun S2 h => ?_)
  refine lg_aload_n (k := 0) rfl rfl (by decide +kernel : decode method_2_code 15 = .ok (.aload_n 0, 1)) ?_
  refine lg_bipush (n := 7) (by decide) (by decide) (by decide +kernel : decode method_2_code 16 = .ok (.bipush 7, 2)) ?_
  refine lg_Ld (by decide +kernel : decode method_2_code 18 = .ok (.iaload, 1)) h (fun z3 h => ?_)
  refine lg_bipush (n := 16) (by decide) (by decide) (by decide +kernel : decode method_2_code 19 = .ok (.bipush 16, 2)) ?_
  refine lg_ishr (by decide +kernel : decode method_2_code 21 = .ok (.ishr, 1)) ?_
  refine lg_sipush (n := 32767) (by decide) (by decide) (by decide +kernel : decode method_2_code 22 = .ok (.sipush 32767, 3)) ?_
  refine lg_iand (by decide +kernel : decode method_2_code 25 = .ok (.iand, 1)) ?_
  exact lg_ret (Or.inl ⟨_, (by decide +kernel : decode method_2_code 26 = .ok (.ireturn, 1)), Or.inl rfl, rfl, rfl⟩) h
set_option maxHeartbeats 4000000 in
theorem rL_write_0 {S : lwS} {Qp : Option vm_V → lwS → Prop} {o0 : Nat} {o1 : Nat} (h : lNn 156 o0 [] S (fun z2 S1 => lNn 102 o0 [z2] S1 (fun z4 S3 => lG lK_write 11 [some (vm_r o0), some (vm_r o1), none, some (vm_i 0), none, none, none] [] S3 Qp))) : lG lK_write 0 [some (vm_r o0), some (vm_r o1), none, none, none, none, none] [] S Qp := by
  refine lg_aload_n (k := 0) rfl rfl (by decide +kernel : decode method_3_code 0 = .ok (.aload_n 0, 1)) ?_
  refine lg_aload_n (k := 0) rfl rfl (by decide +kernel : decode method_3_code 1 = .ok (.aload_n 0, 1)) ?_
  refine lg_N 156 [] (show lCls 156 0 = true by decide +kernel) (Nat.le_of_ble_eq_true rfl) (vm_hw_in (i := 403) (by decide +kernel)) (by decide +kernel : decode method_3_code 2 = .ok (.invokevirtual 8, 3)) h (fun z2 S1 h => ?_)
  refine lg_N 102 [z2] (show lCls 102 1 = true by decide +kernel) (Nat.le_of_ble_eq_true rfl) (vm_hw_in (i := 407) (by decide +kernel)) (by decide +kernel : decode method_3_code 5 = .ok (.invokevirtual 14, 3)) h (fun z4 S3 h => ?_)
  refine lg_istore_n (k := 2) (l1 := [some (vm_r o0), some (vm_r o1), some (vm_i z4), none, none, none, none]) rfl rfl rfl (by decide +kernel : decode method_3_code 8 = .ok (.istore_n 2, 1)) ?_
  refine lg_iconst (n := 0) (by decide) (by decide +kernel : decode method_3_code 9 = .ok (.iconst 0, 1)) ?_
  refine lg_istore_n (k := 3) (l1 := [some (vm_r o0), some (vm_r o1), some (vm_i z4), some (vm_i 0), none, none, none]) rfl rfl rfl (by decide +kernel : decode method_3_code 10 = .ok (.istore_n 3, 1)) ?_
  exact lg_sub (ls := [some (vm_r o0), some (vm_r o1), none, some (vm_i 0), none, none, none]) ⟨rfl, ⟨rfl, ⟨rfl, trivial⟩⟩⟩ h
set_option maxHeartbeats 4000000 in
theorem rL_write_11 {S : lwS} {Qp : Option vm_V → lwS → Prop} {o0 : Nat} {o1 : Nat} {v3 : Int} (h : lLn o1 S (fun z1 => (z1 ≤ v3 → (lLn o1 S (fun z2 => ((0 : Int) ≤ z2 ∧ (0 : Int) < 20) ∧ ((vm_32 (20 - ((z2 % 20)))) ∧ (((0 : Int) ≤ ((20 - ((z2 % 20)))) ∧ (0 : Int) < 20) ∧ (lNn 102 o0 [(((20 - ((z2 % 20)))) % 20)] S (fun z4 S3 => Qp none S3))))))) ∧ (¬ (z1 ≤ v3) → (lNi 5 S (fun r5 S6 => lG lK_write 27 [some (vm_r o0), some (vm_r o1), none, some (vm_i v3), some (vm_r r5), some (vm_i 0), none] [] S6 Qp))))) : lG lK_write 11 [some (vm_r o0), some (vm_r o1), none, some (vm_i v3), none, none, none] [] S Qp := by
  refine lg_iload_n (k := 3) rfl rfl (by decide +kernel : decode method_3_code 11 = .ok (.iload_n 3, 1)) ?_
  refine lg_aload_n (k := 1) rfl rfl (by decide +kernel : decode method_3_code 12 = .ok (.aload_n 1, 1)) ?_
  refine lg_Ln (vm_hw_in (i := 411) (by decide +kernel)) (by decide +kernel : decode method_3_code 13 = .ok (.invokevirtual 18, 3)) (Nat.le_of_ble_eq_true rfl) h (fun z1 h => ?_)
  refine lg_icmp_ge (t := 117) (by decide +kernel : decode method_3_code 16 = .ok (.if_icmp .ge 101, 3)) (by decide) ⟨fun c => ?_, fun c => ?_⟩
  · replace h := h.1 c
    refine lg_aload_n (k := 0) rfl rfl (by decide +kernel : decode method_3_code 117 = .ok (.aload_n 0, 1)) ?_
    refine lg_bipush (n := 20) (by decide) (by decide) (by decide +kernel : decode method_3_code 118 = .ok (.bipush 20, 2)) ?_
    refine lg_aload_n (k := 1) rfl rfl (by decide +kernel : decode method_3_code 120 = .ok (.aload_n 1, 1)) ?_
    refine lg_Ln (vm_hw_in (i := 411) (by decide +kernel)) (by decide +kernel : decode method_3_code 121 = .ok (.invokevirtual 18, 3)) (Nat.le_of_ble_eq_true rfl) h (fun z2 h => ?_)
    refine lg_bipush (n := 20) (by decide) (by decide) (by decide +kernel : decode method_3_code 124 = .ok (.bipush 20, 2)) ?_
    obtain ⟨h1, h⟩ := h
    refine lg_irem h1 (by decide +kernel : decode method_3_code 126 = .ok (.irem, 1)) ?_
    obtain ⟨h1, h⟩ := h
    refine lg_isub h1 (by decide +kernel : decode method_3_code 127 = .ok (.isub, 1)) ?_
    refine lg_bipush (n := 20) (by decide) (by decide) (by decide +kernel : decode method_3_code 128 = .ok (.bipush 20, 2)) ?_
    obtain ⟨h1, h⟩ := h
    refine lg_irem h1 (by decide +kernel : decode method_3_code 130 = .ok (.irem, 1)) ?_
    refine lg_N 102 [(((20 - ((z2 % 20)))) % 20)] (show lCls 102 1 = true by decide +kernel) (Nat.le_of_ble_eq_true rfl) (vm_hw_in (i := 407) (by decide +kernel)) (by decide +kernel : decode method_3_code 131 = .ok (.invokevirtual 14, 3)) h (fun z4 S3 h => ?_)
    refine lg_istore_n (k := 2) (l1 := [some (vm_r o0), some (vm_r o1), some (vm_i z4), some (vm_i v3), none, none, none]) rfl rfl rfl (by decide +kernel : decode method_3_code 134 = .ok (.istore_n 2, 1)) ?_
    exact lg_ret (Or.inr (Or.inr ⟨(by decide +kernel : decode method_3_code 135 = .ok (.return_, 1)), rfl, rfl, rfl⟩)) h
  · replace h := h.2 c
    refine lg_iconst (n := 5) (by decide) (by decide +kernel : decode method_3_code 19 = .ok (.iconst 5, 1)) ?_
    refine lg_Ni (N := 5) (by decide +kernel : decode method_3_code 20 = .ok (.newarray .int, 2)) (by decide) h (fun r5 S6 h => ?_)
    refine lg_astore (k := 4) (l1 := [some (vm_r o0), some (vm_r o1), none, some (vm_i v3), some (vm_r r5), none, none]) rfl rfl (by decide +kernel : decode method_3_code 22 = .ok (.astore 4, 2)) ?_
    refine lg_iconst (n := 0) (by decide) (by decide +kernel : decode method_3_code 24 = .ok (.iconst 0, 1)) ?_
    refine lg_istore (k := 5) (l1 := [some (vm_r o0), some (vm_r o1), none, some (vm_i v3), some (vm_r r5), some (vm_i 0), none]) rfl rfl (by decide +kernel : decode method_3_code 25 = .ok (.istore 5, 2)) ?_
    exact h
set_option maxHeartbeats 4000000 in
theorem rL_write_27 {S : lwS} {Qp : Option vm_V → lwS → Prop} {o0 : Nat} {o1 : Nat} {v3 : Int} {o4 : Nat} {v5 : Int} (h : (20 ≤ v5 → (lLd o4 0 S (fun z1 => lLd o4 1 S (fun z2 => lLd o4 2 S (fun z3 => lLd o4 3 S (fun z4 => lLd o4 4 S (fun z5 => lNn 101 o0 [z1, z2, z3, z4, z5] S (fun z7 S6 => (vm_32 (v3 + 20)) ∧ (lG lK_write 11 [some (vm_r o0), some (vm_r o1), none, some (vm_i ((v3 + 20))), none, none, none] [] S6 Qp))))))))) ∧ (¬ (20 ≤ v5) → ((vm_32 (v3 + v5)) ∧ (lLn o1 S (fun z8 => (z8 ≤ ((v3 + v5)) → (lG lK_write 58 [some (vm_r o0), some (vm_r o1), none, some (vm_i v3), some (vm_r o4), some (vm_i v5), none] [vm_i 32] S Qp)) ∧ (¬ (z8 ≤ ((v3 + v5))) → ((vm_32 (v3 + v5)) ∧ (lCh o1 ((v3 + v5)) S (fun z9 => lG lK_write 58 [some (vm_r o0), some (vm_r o1), none, some (vm_i v3), some (vm_r o4), some (vm_i v5), none] [vm_i z9] S Qp))))))))) : lG lK_write 27 [some (vm_r o0), some (vm_r o1), none, some (vm_i v3), some (vm_r o4), some (vm_i v5), none] [] S Qp := by
  refine lg_iload (k := 5) rfl (by decide +kernel : decode method_3_code 27 = .ok (.iload 5, 2)) ?_
  refine lg_bipush (n := 20) (by decide) (by decide) (by decide +kernel : decode method_3_code 29 = .ok (.bipush 20, 2)) ?_
  refine lg_icmp_ge (t := 86) (by decide +kernel : decode method_3_code 31 = .ok (.if_icmp .ge 55, 3)) (by decide) ⟨fun c => ?_, fun c => ?_⟩
  · replace h := h.1 c
    refine lg_aload_n (k := 0) rfl rfl (by decide +kernel : decode method_3_code 86 = .ok (.aload_n 0, 1)) ?_
    refine lg_aload (k := 4) rfl (by decide +kernel : decode method_3_code 87 = .ok (.aload 4, 2)) ?_
    refine lg_iconst (n := 0) (by decide) (by decide +kernel : decode method_3_code 89 = .ok (.iconst 0, 1)) ?_
    refine lg_Ld (by decide +kernel : decode method_3_code 90 = .ok (.iaload, 1)) h (fun z1 h => ?_)
    refine lg_aload (k := 4) rfl (by decide +kernel : decode method_3_code 91 = .ok (.aload 4, 2)) ?_
    refine lg_iconst (n := 1) (by decide) (by decide +kernel : decode method_3_code 93 = .ok (.iconst 1, 1)) ?_
    refine lg_Ld (by decide +kernel : decode method_3_code 94 = .ok (.iaload, 1)) h (fun z2 h => ?_)
    refine lg_aload (k := 4) rfl (by decide +kernel : decode method_3_code 95 = .ok (.aload 4, 2)) ?_
    refine lg_iconst (n := 2) (by decide) (by decide +kernel : decode method_3_code 97 = .ok (.iconst 2, 1)) ?_
    refine lg_Ld (by decide +kernel : decode method_3_code 98 = .ok (.iaload, 1)) h (fun z3 h => ?_)
    refine lg_aload (k := 4) rfl (by decide +kernel : decode method_3_code 99 = .ok (.aload 4, 2)) ?_
    refine lg_iconst (n := 3) (by decide) (by decide +kernel : decode method_3_code 101 = .ok (.iconst 3, 1)) ?_
    refine lg_Ld (by decide +kernel : decode method_3_code 102 = .ok (.iaload, 1)) h (fun z4 h => ?_)
    refine lg_aload (k := 4) rfl (by decide +kernel : decode method_3_code 103 = .ok (.aload 4, 2)) ?_
    refine lg_iconst (n := 4) (by decide) (by decide +kernel : decode method_3_code 105 = .ok (.iconst 4, 1)) ?_
    refine lg_Ld (by decide +kernel : decode method_3_code 106 = .ok (.iaload, 1)) h (fun z5 h => ?_)
    refine lg_N 101 [z1, z2, z3, z4, z5] (show lCls 101 5 = true by decide +kernel) (Nat.le_of_ble_eq_true rfl) (vm_hw_in (i := 459) (by decide +kernel)) (by decide +kernel : decode method_3_code 107 = .ok (.invokevirtual 27, 3)) h (fun z7 S6 h => ?_)
    refine lg_istore_n (k := 2) (l1 := [some (vm_r o0), some (vm_r o1), some (vm_i z7), some (vm_i v3), some (vm_r o4), some (vm_i v5), none]) rfl rfl rfl (by decide +kernel : decode method_3_code 110 = .ok (.istore_n 2, 1)) ?_
    obtain ⟨h1, h⟩ := h
    refine lg_iinc (k := 3) (l1 := [some (vm_r o0), some (vm_r o1), some (vm_i z7), some (vm_i ((v3 + 20))), some (vm_r o4), some (vm_i v5), none]) rfl rfl rfl h1 (by decide +kernel : decode method_3_code 111 = .ok (.iinc 3 20, 3)) ?_
    refine lg_goto (t := 11) (by decide +kernel : decode method_3_code 114 = .ok (.goto (-103), 3)) (by decide) ?_
    exact lg_sub (ls := [some (vm_r o0), some (vm_r o1), none, some (vm_i ((v3 + 20))), none, none, none]) ⟨rfl, ⟨rfl, ⟨rfl, trivial⟩⟩⟩ h
  · replace h := h.2 c
    refine lg_iload_n (k := 3) rfl rfl (by decide +kernel : decode method_3_code 34 = .ok (.iload_n 3, 1)) ?_
    refine lg_iload (k := 5) rfl (by decide +kernel : decode method_3_code 35 = .ok (.iload 5, 2)) ?_
    obtain ⟨h1, h⟩ := h
    refine lg_iadd h1 (by decide +kernel : decode method_3_code 37 = .ok (.iadd, 1)) ?_
    refine lg_aload_n (k := 1) rfl rfl (by decide +kernel : decode method_3_code 38 = .ok (.aload_n 1, 1)) ?_
    refine lg_Ln (vm_hw_in (i := 411) (by decide +kernel)) (by decide +kernel : decode method_3_code 39 = .ok (.invokevirtual 18, 3)) (Nat.le_of_ble_eq_true rfl) h (fun z8 h => ?_)
    refine lg_icmp_ge (t := 56) (by decide +kernel : decode method_3_code 42 = .ok (.if_icmp .ge 14, 3)) (by decide) ⟨fun c => ?_, fun c => ?_⟩
    · replace h := h.1 c
      refine lg_bipush (n := 32) (by decide) (by decide) (by decide +kernel : decode method_3_code 56 = .ok (.bipush 32, 2)) ?_
      exact h
    · replace h := h.2 c
      refine lg_aload_n (k := 1) rfl rfl (by decide +kernel : decode method_3_code 45 = .ok (.aload_n 1, 1)) ?_
      refine lg_iload_n (k := 3) rfl rfl (by decide +kernel : decode method_3_code 46 = .ok (.iload_n 3, 1)) ?_
      refine lg_iload (k := 5) rfl (by decide +kernel : decode method_3_code 47 = .ok (.iload 5, 2)) ?_
      obtain ⟨h1, h⟩ := h
      refine lg_iadd h1 (by decide +kernel : decode method_3_code 49 = .ok (.iadd, 1)) ?_
      refine lg_Ch (vm_hw_in (i := 421) (by decide +kernel)) (by decide +kernel : decode method_3_code 50 = .ok (.invokevirtual 23, 3)) (Nat.le_of_ble_eq_true rfl) h (fun z9 h => ?_)
      refine lg_goto (t := 58) (by decide +kernel : decode method_3_code 53 = .ok (.goto 5, 3)) (by decide) ?_
      exact h
set_option maxHeartbeats 4000000 in
theorem rL_write_58 {S : lwS} {Qp : Option vm_V → lwS → Prop} {o0 : Nat} {o1 : Nat} {v3 : Int} {o4 : Nat} {v5 : Int} {x0 : Int} (h : ((0 : Int) ≤ v5 ∧ (0 : Int) < 4) ∧ (((0 : Int) ≤ v5 ∧ (0 : Int) < 4) ∧ (lLd o4 ((v5 / 4)) S (fun z1 => lSt o4 ((v5 / 4)) ((vm_or ((vm_shl z1 8)) x0)) S (fun S2 => (vm_32 (v5 + 1)) ∧ (lG lK_write 27 [some (vm_r o0), some (vm_r o1), none, some (vm_i v3), some (vm_r o4), some (vm_i ((v5 + 1))), none] [] S2 Qp)))))) : lG lK_write 58 [some (vm_r o0), some (vm_r o1), none, some (vm_i v3), some (vm_r o4), some (vm_i v5), none] [vm_i x0] S Qp := by
  refine lg_istore (k := 6) (l1 := [some (vm_r o0), some (vm_r o1), none, some (vm_i v3), some (vm_r o4), some (vm_i v5), some (vm_i x0)]) rfl rfl (by decide +kernel : decode method_3_code 58 = .ok (.istore 6, 2)) ?_
  refine lg_aload (k := 4) rfl (by decide +kernel : decode method_3_code 60 = .ok (.aload 4, 2)) ?_
  refine lg_iload (k := 5) rfl (by decide +kernel : decode method_3_code 62 = .ok (.iload 5, 2)) ?_
  refine lg_iconst (n := 4) (by decide) (by decide +kernel : decode method_3_code 64 = .ok (.iconst 4, 1)) ?_
  obtain ⟨h1, h⟩ := h
  refine lg_idiv h1 (by decide +kernel : decode method_3_code 65 = .ok (.idiv, 1)) ?_
  refine lg_aload (k := 4) rfl (by decide +kernel : decode method_3_code 66 = .ok (.aload 4, 2)) ?_
  refine lg_iload (k := 5) rfl (by decide +kernel : decode method_3_code 68 = .ok (.iload 5, 2)) ?_
  refine lg_iconst (n := 4) (by decide) (by decide +kernel : decode method_3_code 70 = .ok (.iconst 4, 1)) ?_
  obtain ⟨h1, h⟩ := h
  refine lg_idiv h1 (by decide +kernel : decode method_3_code 71 = .ok (.idiv, 1)) ?_
  refine lg_Ld (by decide +kernel : decode method_3_code 72 = .ok (.iaload, 1)) h (fun z1 h => ?_)
  refine lg_bipush (n := 8) (by decide) (by decide) (by decide +kernel : decode method_3_code 73 = .ok (.bipush 8, 2)) ?_
  refine lg_ishl (by decide +kernel : decode method_3_code 75 = .ok (.ishl, 1)) ?_
  refine lg_iload (k := 6) rfl (by decide +kernel : decode method_3_code 76 = .ok (.iload 6, 2)) ?_
  refine lg_ior (by decide +kernel : decode method_3_code 78 = .ok (.ior, 1)) ?_
  refine lg_St (by decide +kernel : decode method_3_code 79 = .ok (.iastore, 1)) h (fun S2 h => ?_)
  obtain ⟨h1, h⟩ := h
  refine lg_iinc (k := 5) (l1 := [some (vm_r o0), some (vm_r o1), none, some (vm_i v3), some (vm_r o4), some (vm_i ((v5 + 1))), some (vm_i x0)]) rfl rfl rfl h1 (by decide +kernel : decode method_3_code 80 = .ok (.iinc 5 1, 3)) ?_
  refine lg_goto (t := 27) (by decide +kernel : decode method_3_code 83 = .ok (.goto (-56), 3)) (by decide) ?_
  exact lg_sub (ls := [some (vm_r o0), some (vm_r o1), none, some (vm_i v3), some (vm_r o4), some (vm_i ((v5 + 1))), none]) ⟨rfl, ⟨rfl, ⟨rfl, ⟨rfl, ⟨rfl, trivial⟩⟩⟩⟩⟩ h
set_option maxHeartbeats 4000000 in
theorem rL_loads_0 {S : lwS} {Qp : Option vm_V → lwS → Prop} {o0 : Nat} {o1 : Nat} (h : lCv lK_write [vm_r o0, vm_r o1] S (fun S1 => lNn 103 o0 [] S1 (fun z3 S2 => lNn 115 o0 [9] S2 (fun z5 S4 => (¬ z3 = z5 → (Qp (some (vm_i 0)) S4)) ∧ (¬ (¬ z3 = z5) → (lNn 104 o0 [] S4 (fun z7 S6 => (¬ z7 = ((-2)) → (Qp (some (vm_i 0)) S6)) ∧ (¬ (¬ z7 = ((-2))) → (lNn 156 o0 [] S6 (fun z9 S8 => (¬ z9 = 0 → (Qp (some (vm_i 0)) S8)) ∧ (¬ (¬ z9 = 0) → (Qp (some (vm_i 1)) S8)))))))))))) : lG lK_loads 0 [some (vm_r o0), some (vm_r o1)] [] S Qp := by
  refine lg_aload_n (k := 0) rfl rfl (by decide +kernel : decode method_4_code 0 = .ok (.aload_n 0, 1)) ?_
  refine lg_aload_n (k := 1) rfl rfl (by decide +kernel : decode method_4_code 1 = .ok (.aload_n 1, 1)) ?_
  refine lg_Cv [vm_r o0, vm_r o1] lOK_write rfl (show 1 < 2 by decide) (vm_hw_in (i := 400) (by decide +kernel)) (by decide +kernel : decode method_4_code 2 = .ok (.invokestatic 31, 3)) (Nat.le_of_ble_eq_true rfl) (Nat.le_of_ble_eq_true rfl) h (fun S1 h => ?_)
  refine lg_aload_n (k := 0) rfl rfl (by decide +kernel : decode method_4_code 5 = .ok (.aload_n 0, 1)) ?_
  refine lg_N 103 [] (show lCls 103 0 = true by decide +kernel) (Nat.le_of_ble_eq_true rfl) (vm_hw_in (i := 471) (by decide +kernel)) (by decide +kernel : decode method_4_code 6 = .ok (.invokevirtual 37, 3)) h (fun z3 S2 h => ?_)
  refine lg_aload_n (k := 0) rfl rfl (by decide +kernel : decode method_4_code 9 = .ok (.aload_n 0, 1)) ?_
  refine lg_bipush (n := 9) (by decide) (by decide) (by decide +kernel : decode method_4_code 10 = .ok (.bipush 9, 2)) ?_
  refine lg_N 115 [9] (show lCls 115 1 = true by decide +kernel) (Nat.le_of_ble_eq_true rfl) (vm_hw_in (i := 604) (by decide +kernel)) (by decide +kernel : decode method_4_code 12 = .ok (.invokevirtual 40, 3)) h (fun z5 S4 h => ?_)
  refine lg_icmp_ne (t := 38) (by decide +kernel : decode method_4_code 15 = .ok (.if_icmp .ne 23, 3)) (by decide) ⟨fun c => ?_, fun c => ?_⟩
  · replace h := h.1 c
    refine lg_iconst (n := 0) (by decide) (by decide +kernel : decode method_4_code 38 = .ok (.iconst 0, 1)) ?_
    exact lg_ret (Or.inl ⟨0, (by decide +kernel : decode method_4_code 39 = .ok (.ireturn, 1)), Or.inr ⟨rfl, by decide⟩, rfl, rfl⟩) h
  · replace h := h.2 c
    refine lg_aload_n (k := 0) rfl rfl (by decide +kernel : decode method_4_code 18 = .ok (.aload_n 0, 1)) ?_
    refine lg_N 104 [] (show lCls 104 0 = true by decide +kernel) (Nat.le_of_ble_eq_true rfl) (vm_hw_in (i := 740) (by decide +kernel)) (by decide +kernel : decode method_4_code 19 = .ok (.invokevirtual 43, 3)) h (fun z7 S6 h => ?_)
    refine lg_bipush (n := (-2)) (by decide) (by decide) (by decide +kernel : decode method_4_code 22 = .ok (.bipush (-2), 2)) ?_
    refine lg_icmp_ne (t := 38) (by decide +kernel : decode method_4_code 24 = .ok (.if_icmp .ne 14, 3)) (by decide) ⟨fun c => ?_, fun c => ?_⟩
    · replace h := h.1 c
      refine lg_iconst (n := 0) (by decide) (by decide +kernel : decode method_4_code 38 = .ok (.iconst 0, 1)) ?_
      exact lg_ret (Or.inl ⟨0, (by decide +kernel : decode method_4_code 39 = .ok (.ireturn, 1)), Or.inr ⟨rfl, by decide⟩, rfl, rfl⟩) h
    · replace h := h.2 c
      refine lg_aload_n (k := 0) rfl rfl (by decide +kernel : decode method_4_code 27 = .ok (.aload_n 0, 1)) ?_
      refine lg_N 156 [] (show lCls 156 0 = true by decide +kernel) (Nat.le_of_ble_eq_true rfl) (vm_hw_in (i := 403) (by decide +kernel)) (by decide +kernel : decode method_4_code 28 = .ok (.invokevirtual 8, 3)) h (fun z9 S8 h => ?_)
      refine lg_if_ne (t := 38) (by decide +kernel : decode method_4_code 31 = .ok (.ifCond .ne 7, 3)) (by decide) ⟨fun c => ?_, fun c => ?_⟩
      · replace h := h.1 c
        refine lg_iconst (n := 0) (by decide) (by decide +kernel : decode method_4_code 38 = .ok (.iconst 0, 1)) ?_
        exact lg_ret (Or.inl ⟨0, (by decide +kernel : decode method_4_code 39 = .ok (.ireturn, 1)), Or.inr ⟨rfl, by decide⟩, rfl, rfl⟩) h
      · replace h := h.2 c
        refine lg_iconst (n := 1) (by decide) (by decide +kernel : decode method_4_code 34 = .ok (.iconst 1, 1)) ?_
        refine lg_goto (t := 39) (by decide +kernel : decode method_4_code 35 = .ok (.goto 4, 3)) (by decide) ?_
        exact lg_ret (Or.inl ⟨1, (by decide +kernel : decode method_4_code 39 = .ok (.ireturn, 1)), Or.inr ⟨rfl, by decide⟩, rfl, rfl⟩) h
set_option maxHeartbeats 4000000 in
theorem rL_says_0 {S : lwS} {Qp : Option vm_V → lwS → Prop} {o0 : Nat} {o1 : Nat} (h : lCv lK_write [vm_r o0, vm_r o1] S (fun S1 => lNn 105 o0 [] S1 (fun z3 S2 => lNn 115 o0 [11] S2 (fun z5 S4 => (¬ z3 = z5 → (Qp (some (vm_i 0)) S4)) ∧ (¬ (¬ z3 = z5) → (lNn 104 o0 [] S4 (fun z7 S6 => (¬ z7 = ((-2)) → (Qp (some (vm_i 0)) S6)) ∧ (¬ (¬ z7 = ((-2))) → (lNn 156 o0 [] S6 (fun z9 S8 => (¬ z9 = 0 → (Qp (some (vm_i 0)) S8)) ∧ (¬ (¬ z9 = 0) → (Qp (some (vm_i 1)) S8)))))))))))) : lG lK_says 0 [some (vm_r o0), some (vm_r o1)] [] S Qp := by
  refine lg_aload_n (k := 0) rfl rfl (by decide +kernel : decode method_5_code 0 = .ok (.aload_n 0, 1)) ?_
  refine lg_aload_n (k := 1) rfl rfl (by decide +kernel : decode method_5_code 1 = .ok (.aload_n 1, 1)) ?_
  refine lg_Cv [vm_r o0, vm_r o1] lOK_write rfl (show 1 < 2 by decide) (vm_hw_in (i := 400) (by decide +kernel)) (by decide +kernel : decode method_5_code 2 = .ok (.invokestatic 31, 3)) (Nat.le_of_ble_eq_true rfl) (Nat.le_of_ble_eq_true rfl) h (fun S1 h => ?_)
  refine lg_aload_n (k := 0) rfl rfl (by decide +kernel : decode method_5_code 5 = .ok (.aload_n 0, 1)) ?_
  refine lg_N 105 [] (show lCls 105 0 = true by decide +kernel) (Nat.le_of_ble_eq_true rfl) (vm_hw_in (i := 748) (by decide +kernel)) (by decide +kernel : decode method_5_code 6 = .ok (.invokevirtual 46, 3)) h (fun z3 S2 h => ?_)
  refine lg_aload_n (k := 0) rfl rfl (by decide +kernel : decode method_5_code 9 = .ok (.aload_n 0, 1)) ?_
  refine lg_bipush (n := 11) (by decide) (by decide) (by decide +kernel : decode method_5_code 10 = .ok (.bipush 11, 2)) ?_
  refine lg_N 115 [11] (show lCls 115 1 = true by decide +kernel) (Nat.le_of_ble_eq_true rfl) (vm_hw_in (i := 604) (by decide +kernel)) (by decide +kernel : decode method_5_code 12 = .ok (.invokevirtual 40, 3)) h (fun z5 S4 h => ?_)
  refine lg_icmp_ne (t := 38) (by decide +kernel : decode method_5_code 15 = .ok (.if_icmp .ne 23, 3)) (by decide) ⟨fun c => ?_, fun c => ?_⟩
  · replace h := h.1 c
    refine lg_iconst (n := 0) (by decide) (by decide +kernel : decode method_5_code 38 = .ok (.iconst 0, 1)) ?_
    exact lg_ret (Or.inl ⟨0, (by decide +kernel : decode method_5_code 39 = .ok (.ireturn, 1)), Or.inr ⟨rfl, by decide⟩, rfl, rfl⟩) h
  · replace h := h.2 c
    refine lg_aload_n (k := 0) rfl rfl (by decide +kernel : decode method_5_code 18 = .ok (.aload_n 0, 1)) ?_
    refine lg_N 104 [] (show lCls 104 0 = true by decide +kernel) (Nat.le_of_ble_eq_true rfl) (vm_hw_in (i := 740) (by decide +kernel)) (by decide +kernel : decode method_5_code 19 = .ok (.invokevirtual 43, 3)) h (fun z7 S6 h => ?_)
    refine lg_bipush (n := (-2)) (by decide) (by decide) (by decide +kernel : decode method_5_code 22 = .ok (.bipush (-2), 2)) ?_
    refine lg_icmp_ne (t := 38) (by decide +kernel : decode method_5_code 24 = .ok (.if_icmp .ne 14, 3)) (by decide) ⟨fun c => ?_, fun c => ?_⟩
    · replace h := h.1 c
      refine lg_iconst (n := 0) (by decide) (by decide +kernel : decode method_5_code 38 = .ok (.iconst 0, 1)) ?_
      exact lg_ret (Or.inl ⟨0, (by decide +kernel : decode method_5_code 39 = .ok (.ireturn, 1)), Or.inr ⟨rfl, by decide⟩, rfl, rfl⟩) h
    · replace h := h.2 c
      refine lg_aload_n (k := 0) rfl rfl (by decide +kernel : decode method_5_code 27 = .ok (.aload_n 0, 1)) ?_
      refine lg_N 156 [] (show lCls 156 0 = true by decide +kernel) (Nat.le_of_ble_eq_true rfl) (vm_hw_in (i := 403) (by decide +kernel)) (by decide +kernel : decode method_5_code 28 = .ok (.invokevirtual 8, 3)) h (fun z9 S8 h => ?_)
      refine lg_if_ne (t := 38) (by decide +kernel : decode method_5_code 31 = .ok (.ifCond .ne 7, 3)) (by decide) ⟨fun c => ?_, fun c => ?_⟩
      · replace h := h.1 c
        refine lg_iconst (n := 0) (by decide) (by decide +kernel : decode method_5_code 38 = .ok (.iconst 0, 1)) ?_
        exact lg_ret (Or.inl ⟨0, (by decide +kernel : decode method_5_code 39 = .ok (.ireturn, 1)), Or.inr ⟨rfl, by decide⟩, rfl, rfl⟩) h
      · replace h := h.2 c
        refine lg_iconst (n := 1) (by decide) (by decide +kernel : decode method_5_code 34 = .ok (.iconst 1, 1)) ?_
        refine lg_goto (t := 39) (by decide +kernel : decode method_5_code 35 = .ok (.goto 4, 3)) (by decide) ?_
        exact lg_ret (Or.inl ⟨1, (by decide +kernel : decode method_5_code 39 = .ok (.ireturn, 1)), Or.inr ⟨rfl, by decide⟩, rfl, rfl⟩) h
set_option maxHeartbeats 4000000 in
theorem rL_side_0 {S : lwS} {Qp : Option vm_V → lwS → Prop} {o0 : Nat} {o1 : Nat} (h : lG lK_side 2 [some (vm_r o0), some (vm_r o1), some (vm_i 0), none] [] S Qp) : lG lK_side 0 [some (vm_r o0), some (vm_r o1), none, none] [] S Qp := by
  refine lg_iconst (n := 0) (by decide) (by decide +kernel : decode method_6_code 0 = .ok (.iconst 0, 1)) ?_
  refine lg_istore_n (k := 2) (l1 := [some (vm_r o0), some (vm_r o1), some (vm_i 0), none]) rfl rfl rfl (by decide +kernel : decode method_6_code 1 = .ok (.istore_n 2, 1)) ?_
  exact h
set_option maxHeartbeats 4000000 in
theorem rL_side_2 {S : lwS} {Qp : Option vm_V → lwS → Prop} {o0 : Nat} {o1 : Nat} {v2 : Int} (h : (6 ≤ v2 → (Qp none S)) ∧ (¬ (6 ≤ v2) → (lCi lK_draw [vm_r o1] S (fun z2 S1 => ((0 : Int) ≤ z2 ∧ (0 : Int) < 12) ∧ (lAc o0 32 S1 (fun S3 => (((z2 % 12)) ≤ 9 → (lNb S3 (fun r5 S4 => lI0 r5 S4 (fun S6 => lAs r5 30 S6 (fun S7 => lAi r5 ((z2 % 12)) S7 (fun S8 => lTo r5 S8 (fun r10 S9 => lG lK_side 52 [some (vm_r o0), some (vm_r o1), some (vm_i v2), none] [vm_r r10, vm_r o0] S9 Qp))))))) ∧ (¬ (((z2 % 12)) ≤ 9) → (lG lK_side 52 [some (vm_r o0), some (vm_r o1), some (vm_i v2), none] [vm_r 29, vm_r o0] S3 Qp)))))))) : lG lK_side 2 [some (vm_r o0), some (vm_r o1), some (vm_i v2), none] [] S Qp := by
  refine lg_iload_n (k := 2) rfl rfl (by decide +kernel : decode method_6_code 2 = .ok (.iload_n 2, 1)) ?_
  refine lg_bipush (n := 6) (by decide) (by decide) (by decide +kernel : decode method_6_code 3 = .ok (.bipush 6, 2)) ?_
  refine lg_icmp_ge (t := 62) (by decide +kernel : decode method_6_code 5 = .ok (.if_icmp .ge 57, 3)) (by decide) ⟨fun c => ?_, fun c => ?_⟩
  · replace h := h.1 c
    exact lg_ret (Or.inr (Or.inr ⟨(by decide +kernel : decode method_6_code 62 = .ok (.return_, 1)), rfl, rfl, rfl⟩)) h
  · replace h := h.2 c
    refine lg_aload_n (k := 1) rfl rfl (by decide +kernel : decode method_6_code 8 = .ok (.aload_n 1, 1)) ?_
    refine lg_Ci [vm_r o1] lOK_draw rfl (show 0 < 1 by decide) (vm_hw_in (i := 776) (by decide +kernel)) (by decide +kernel : decode method_6_code 9 = .ok (.invokestatic 49, 3)) (Nat.le_of_ble_eq_true rfl) (Nat.le_of_ble_eq_true rfl) h (fun z2 S1 h => ?_)
    refine lg_bipush (n := 12) (by decide) (by decide) (by decide +kernel : decode method_6_code 12 = .ok (.bipush 12, 2)) ?_
    obtain ⟨h1, h⟩ := h
    refine lg_irem h1 (by decide +kernel : decode method_6_code 14 = .ok (.irem, 1)) ?_
    refine lg_istore_n (k := 3) (l1 := [some (vm_r o0), some (vm_r o1), some (vm_i v2), some (vm_i ((z2 % 12)))]) rfl rfl rfl (by decide +kernel : decode method_6_code 15 = .ok (.istore_n 3, 1)) ?_
    refine lg_aload_n (k := 0) rfl rfl (by decide +kernel : decode method_6_code 16 = .ok (.aload_n 0, 1)) ?_
    refine lg_bipush (n := 32) (by decide) (by decide) (by decide +kernel : decode method_6_code 17 = .ok (.bipush 32, 2)) ?_
    refine lg_Ac (vm_hw_in (i := 937) (by decide +kernel)) (by decide +kernel : decode method_6_code 19 = .ok (.invokevirtual 53, 3)) (Nat.le_of_ble_eq_true rfl) h (fun S3 h => ?_)
    refine lg_iload_n (k := 3) rfl rfl (by decide +kernel : decode method_6_code 22 = .ok (.iload_n 3, 1)) ?_
    refine lg_bipush (n := 9) (by decide) (by decide) (by decide +kernel : decode method_6_code 23 = .ok (.bipush 9, 2)) ?_
    refine lg_icmp_le (t := 33) (by decide +kernel : decode method_6_code 25 = .ok (.if_icmp .le 8, 3)) (by decide) ⟨fun c => ?_, fun c => ?_⟩
    · replace h := h.1 c
      refine lg_Nb (vm_hw_in (i := 780) (by decide +kernel)) (by decide +kernel : decode method_6_code 33 = .ok (.new 54, 3)) h (fun r5 S4 h => ?_)
      refine lg_dup rfl (by decide +kernel : decode method_6_code 36 = .ok (.dup, 1)) ?_
      refine lg_I0 (vm_hw_in (i := 964) (by decide +kernel)) (by decide +kernel : decode method_6_code 37 = .ok (.invokespecial 60, 3)) (Nat.le_of_ble_eq_true rfl) h (fun S6 h => ?_)
      refine lg_ldcs (k9 := 30) (by decide) (by decide +kernel) (by decide +kernel : decode method_6_code 40 = .ok (.ldc 61, 2)) ?_
      refine lg_As (vm_hw_in (i := 951) (by decide +kernel)) (by decide +kernel : decode method_6_code 42 = .ok (.invokevirtual 63, 3)) (Nat.le_of_ble_eq_true rfl) h (fun S7 h => ?_)
      refine lg_iload_n (k := 3) rfl rfl (by decide +kernel : decode method_6_code 45 = .ok (.iload_n 3, 1)) ?_
      refine lg_Ai (vm_hw_in (i := 912) (by decide +kernel)) (by decide +kernel : decode method_6_code 46 = .ok (.invokevirtual 66, 3)) (Nat.le_of_ble_eq_true rfl) h (fun S8 h => ?_)
      refine lg_To (vm_hw_in (i := 971) (by decide +kernel)) (by decide +kernel : decode method_6_code 49 = .ok (.invokevirtual 69, 3)) (Nat.le_of_ble_eq_true rfl) h (fun r10 S9 h => ?_)
      exact lg_sub (ls := [some (vm_r o0), some (vm_r o1), some (vm_i v2), none]) ⟨rfl, ⟨rfl, ⟨rfl, trivial⟩⟩⟩ h
    · replace h := h.2 c
      refine lg_ldcs (k9 := 29) (by decide) (by decide +kernel) (by decide +kernel : decode method_6_code 28 = .ok (.ldc 58, 2)) ?_
      refine lg_goto (t := 52) (by decide +kernel : decode method_6_code 30 = .ok (.goto 22, 3)) (by decide) ?_
      exact lg_sub (ls := [some (vm_r o0), some (vm_r o1), some (vm_i v2), none]) ⟨rfl, ⟨rfl, ⟨rfl, trivial⟩⟩⟩ h
set_option maxHeartbeats 4000000 in
theorem rL_side_52 {S : lwS} {Qp : Option vm_V → lwS → Prop} {o0 : Nat} {o1 : Nat} {v2 : Int} {x0 : Nat} {x1 : Nat} (h : lAs x1 x0 S (fun S1 => (vm_32 (v2 + 1)) ∧ (lG lK_side 2 [some (vm_r o0), some (vm_r o1), some (vm_i ((v2 + 1))), none] [] S1 Qp))) : lG lK_side 52 [some (vm_r o0), some (vm_r o1), some (vm_i v2), none] [vm_r x0, vm_r x1] S Qp := by
  refine lg_As (vm_hw_in (i := 951) (by decide +kernel)) (by decide +kernel : decode method_6_code 52 = .ok (.invokevirtual 63, 3)) (Nat.le_of_ble_eq_true rfl) h (fun S1 h => ?_)
  refine lg_pop rfl (by decide +kernel : decode method_6_code 55 = .ok (.pop, 1)) ?_
  obtain ⟨h1, h⟩ := h
  refine lg_iinc (k := 2) (l1 := [some (vm_r o0), some (vm_r o1), some (vm_i ((v2 + 1))), none]) rfl rfl rfl h1 (by decide +kernel : decode method_6_code 56 = .ok (.iinc 2 1, 3)) ?_
  refine lg_goto (t := 2) (by decide +kernel : decode method_6_code 59 = .ok (.goto (-57), 3)) (by decide) ?_
  exact h
