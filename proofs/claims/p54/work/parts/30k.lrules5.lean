/-! ===== rules of the law (printed): bests, undone, law ===== -/
set_option maxHeartbeats 4000000 in
theorem rL_bests_0 {S : lwS} {Qp : Option vm_V → lwS → Prop} {o0 : Nat} {o1 : Nat} (h : lCr lK_told [vm_r o0] S (fun r2 S1 => lNn 139 o0 [] S1 (fun z4 S3 => lNn 140 o0 [] S3 (fun z6 S5 => lCi lK_draw [vm_r o1] S5 (fun z8 S7 => ((0 : Int) ≤ z8 ∧ (0 : Int) < 4) ∧ ((vm_32 (1 + ((z8 % 4)))) ∧ (lNn 141 o0 [(1 + ((z8 % 4)))] S7 (fun z10 S9 => lNn 146 o0 [] S9 (fun z12 S11 => lNn 143 o0 [] S11 (fun z14 S13 => lCr lK_told [vm_r o0] S13 (fun r16 S15 => lEq r16 r2 S15 (lG lK_bests 60 [some (vm_r o0), none, some (vm_r r2), some (vm_i z4), some (vm_i z6), some (vm_i ((1 + ((z8 % 4))))), some (vm_i z10), some (vm_i z12), some (vm_i z14), some (vm_i 1), some (vm_i 9), none] [] S15 Qp)))))))))))) : lG lK_bests 0 [some (vm_r o0), some (vm_r o1), none, none, none, none, none, none, none, none, none, none] [] S Qp := by
  refine lg_aload_n (k := 0) rfl rfl (by decide +kernel : decode method_14_code 0 = .ok (.aload_n 0, 1)) ?_
  refine lg_Cr [vm_r o0] lOK_told rfl (show 2 < 3 by decide) (vm_hw_in (i := 1246) (by decide +kernel)) (by decide +kernel : decode method_14_code 1 = .ok (.invokestatic 225, 3)) (Nat.le_of_ble_eq_true rfl) (Nat.le_of_ble_eq_true rfl) h (fun r2 S1 h => ?_)
  refine lg_astore_n (k := 2) (l1 := [some (vm_r o0), some (vm_r o1), some (vm_r r2), none, none, none, none, none, none, none, none, none]) rfl rfl rfl (by decide +kernel : decode method_14_code 4 = .ok (.astore_n 2, 1)) ?_
  refine lg_aload_n (k := 0) rfl rfl (by decide +kernel : decode method_14_code 5 = .ok (.aload_n 0, 1)) ?_
  refine lg_N 139 [] (show lCls 139 0 = true by decide +kernel) (Nat.le_of_ble_eq_true rfl) (vm_hw_in (i := 1332) (by decide +kernel)) (by decide +kernel : decode method_14_code 6 = .ok (.invokevirtual 229, 3)) h (fun z4 S3 h => ?_)
  refine lg_istore_n (k := 3) (l1 := [some (vm_r o0), some (vm_r o1), some (vm_r r2), some (vm_i z4), none, none, none, none, none, none, none, none]) rfl rfl rfl (by decide +kernel : decode method_14_code 9 = .ok (.istore_n 3, 1)) ?_
  refine lg_aload_n (k := 0) rfl rfl (by decide +kernel : decode method_14_code 10 = .ok (.aload_n 0, 1)) ?_
  refine lg_N 140 [] (show lCls 140 0 = true by decide +kernel) (Nat.le_of_ble_eq_true rfl) (vm_hw_in (i := 1340) (by decide +kernel)) (by decide +kernel : decode method_14_code 11 = .ok (.invokevirtual 232, 3)) h (fun z6 S5 h => ?_)
  refine lg_istore (k := 4) (l1 := [some (vm_r o0), some (vm_r o1), some (vm_r r2), some (vm_i z4), some (vm_i z6), none, none, none, none, none, none, none]) rfl rfl (by decide +kernel : decode method_14_code 14 = .ok (.istore 4, 2)) ?_
  refine lg_iconst (n := 1) (by decide) (by decide +kernel : decode method_14_code 16 = .ok (.iconst 1, 1)) ?_
  refine lg_aload_n (k := 1) rfl rfl (by decide +kernel : decode method_14_code 17 = .ok (.aload_n 1, 1)) ?_
  refine lg_Ci [vm_r o1] lOK_draw rfl (show 0 < 3 by decide) (vm_hw_in (i := 776) (by decide +kernel)) (by decide +kernel : decode method_14_code 18 = .ok (.invokestatic 49, 3)) (Nat.le_of_ble_eq_true rfl) (Nat.le_of_ble_eq_true rfl) h (fun z8 S7 h => ?_)
  refine lg_iconst (n := 4) (by decide) (by decide +kernel : decode method_14_code 21 = .ok (.iconst 4, 1)) ?_
  obtain ⟨h1, h⟩ := h
  refine lg_irem h1 (by decide +kernel : decode method_14_code 22 = .ok (.irem, 1)) ?_
  obtain ⟨h1, h⟩ := h
  refine lg_iadd h1 (by decide +kernel : decode method_14_code 23 = .ok (.iadd, 1)) ?_
  refine lg_istore (k := 5) (l1 := [some (vm_r o0), some (vm_r o1), some (vm_r r2), some (vm_i z4), some (vm_i z6), some (vm_i ((1 + ((z8 % 4))))), none, none, none, none, none, none]) rfl rfl (by decide +kernel : decode method_14_code 24 = .ok (.istore 5, 2)) ?_
  refine lg_aload_n (k := 0) rfl rfl (by decide +kernel : decode method_14_code 26 = .ok (.aload_n 0, 1)) ?_
  refine lg_iload (k := 5) rfl (by decide +kernel : decode method_14_code 27 = .ok (.iload 5, 2)) ?_
  refine lg_N 141 [(1 + ((z8 % 4)))] (show lCls 141 1 = true by decide +kernel) (Nat.le_of_ble_eq_true rfl) (vm_hw_in (i := 1344) (by decide +kernel)) (by decide +kernel : decode method_14_code 29 = .ok (.invokevirtual 235, 3)) h (fun z10 S9 h => ?_)
  refine lg_istore (k := 6) (l1 := [some (vm_r o0), some (vm_r o1), some (vm_r r2), some (vm_i z4), some (vm_i z6), some (vm_i ((1 + ((z8 % 4))))), some (vm_i z10), none, none, none, none, none]) rfl rfl (by decide +kernel : decode method_14_code 32 = .ok (.istore 6, 2)) ?_
  refine lg_aload_n (k := 0) rfl rfl (by decide +kernel : decode method_14_code 34 = .ok (.aload_n 0, 1)) ?_
  refine lg_N 146 [] (show lCls 146 0 = true by decide +kernel) (Nat.le_of_ble_eq_true rfl) (vm_hw_in (i := 1352) (by decide +kernel)) (by decide +kernel : decode method_14_code 35 = .ok (.invokevirtual 238, 3)) h (fun z12 S11 h => ?_)
  refine lg_istore (k := 7) (l1 := [some (vm_r o0), some (vm_r o1), some (vm_r r2), some (vm_i z4), some (vm_i z6), some (vm_i ((1 + ((z8 % 4))))), some (vm_i z10), some (vm_i z12), none, none, none, none]) rfl rfl (by decide +kernel : decode method_14_code 38 = .ok (.istore 7, 2)) ?_
  refine lg_aload_n (k := 0) rfl rfl (by decide +kernel : decode method_14_code 40 = .ok (.aload_n 0, 1)) ?_
  refine lg_N 143 [] (show lCls 143 0 = true by decide +kernel) (Nat.le_of_ble_eq_true rfl) (vm_hw_in (i := 1222) (by decide +kernel)) (by decide +kernel : decode method_14_code 41 = .ok (.invokevirtual 206, 3)) h (fun z14 S13 h => ?_)
  refine lg_istore (k := 8) (l1 := [some (vm_r o0), some (vm_r o1), some (vm_r r2), some (vm_i z4), some (vm_i z6), some (vm_i ((1 + ((z8 % 4))))), some (vm_i z10), some (vm_i z12), some (vm_i z14), none, none, none]) rfl rfl (by decide +kernel : decode method_14_code 44 = .ok (.istore 8, 2)) ?_
  refine lg_aload_n (k := 0) rfl rfl (by decide +kernel : decode method_14_code 46 = .ok (.aload_n 0, 1)) ?_
  refine lg_Cr [vm_r o0] lOK_told rfl (show 2 < 3 by decide) (vm_hw_in (i := 1246) (by decide +kernel)) (by decide +kernel : decode method_14_code 47 = .ok (.invokestatic 225, 3)) (Nat.le_of_ble_eq_true rfl) (Nat.le_of_ble_eq_true rfl) h (fun r16 S15 h => ?_)
  refine lg_aload_n (k := 2) rfl rfl (by decide +kernel : decode method_14_code 50 = .ok (.aload_n 2, 1)) ?_
  refine lg_Eq (vm_hw_in (i := 1366) (by decide +kernel)) (by decide +kernel : decode method_14_code 51 = .ok (.invokevirtual 241, 3)) (Nat.le_of_ble_eq_true rfl) h (fun h => ?_)
  refine lg_istore (k := 9) (l1 := [some (vm_r o0), some (vm_r o1), some (vm_r r2), some (vm_i z4), some (vm_i z6), some (vm_i ((1 + ((z8 % 4))))), some (vm_i z10), some (vm_i z12), some (vm_i z14), some (vm_i 1), none, none]) rfl rfl (by decide +kernel : decode method_14_code 54 = .ok (.istore 9, 2)) ?_
  refine lg_bipush (n := 9) (by decide) (by decide) (by decide +kernel : decode method_14_code 56 = .ok (.bipush 9, 2)) ?_
  refine lg_istore (k := 10) (l1 := [some (vm_r o0), some (vm_r o1), some (vm_r r2), some (vm_i z4), some (vm_i z6), some (vm_i ((1 + ((z8 % 4))))), some (vm_i z10), some (vm_i z12), some (vm_i z14), some (vm_i 1), some (vm_i 9), none]) rfl rfl (by decide +kernel : decode method_14_code 58 = .ok (.istore 10, 2)) ?_
  exact lg_sub (ls := [some (vm_r o0), none, some (vm_r r2), some (vm_i z4), some (vm_i z6), some (vm_i ((1 + ((z8 % 4))))), some (vm_i z10), some (vm_i z12), some (vm_i z14), some (vm_i 1), some (vm_i 9), none]) ⟨rfl, ⟨rfl, ⟨rfl, ⟨rfl, ⟨rfl, ⟨rfl, ⟨rfl, ⟨rfl, ⟨rfl, ⟨rfl, trivial⟩⟩⟩⟩⟩⟩⟩⟩⟩⟩ h
set_option maxHeartbeats 4000000 in
theorem rL_bests_60 {S : lwS} {Qp : Option vm_V → lwS → Prop} {o0 : Nat} {o2 : Nat} {v3 : Int} {v4 : Int} {v5 : Int} {v6 : Int} {v7 : Int} {v8 : Int} {v9 : Int} {v10 : Int} (h : (v10 ≤ 0 → (lG lK_bests 130 [some (vm_r o0), none, some (vm_r o2), none, some (vm_i v4), some (vm_i v5), some (vm_i v6), some (vm_i v7), some (vm_i v8), some (vm_i v9), none, none] [] S Qp)) ∧ (¬ (v10 ≤ 0) → ((v10 < v3 → (lG lK_bests 130 [some (vm_r o0), none, some (vm_r o2), none, some (vm_i v4), some (vm_i v5), some (vm_i v6), some (vm_i v7), some (vm_i v8), some (vm_i v9), none, none] [] S Qp)) ∧ (¬ (v10 < v3) → ((v9 = 0 → (lG lK_bests 130 [some (vm_r o0), none, some (vm_r o2), none, some (vm_i v4), some (vm_i v5), some (vm_i v6), some (vm_i v7), some (vm_i v8), some (vm_i v9), none, none] [] S Qp)) ∧ (¬ (v9 = 0) → (lNn 106 o0 [5, v10] S (fun z2 S1 => lNn 138 o0 [] S1 (fun z4 S3 => (¬ v10 = v3 → (lG lK_bests 100 [some (vm_r o0), none, some (vm_r o2), some (vm_i v3), some (vm_i v4), some (vm_i v5), some (vm_i v6), some (vm_i v7), some (vm_i v8), none, some (vm_i v10), some (vm_i z2)] [vm_i 0, vm_i z4] S3 Qp)) ∧ (¬ (¬ v10 = v3) → (lG lK_bests 100 [some (vm_r o0), none, some (vm_r o2), some (vm_i v3), some (vm_i v4), some (vm_i v5), some (vm_i v6), some (vm_i v7), some (vm_i v8), none, some (vm_i v10), some (vm_i z2)] [vm_i 1, vm_i z4] S3 Qp))))))))))) : lG lK_bests 60 [some (vm_r o0), none, some (vm_r o2), some (vm_i v3), some (vm_i v4), some (vm_i v5), some (vm_i v6), some (vm_i v7), some (vm_i v8), some (vm_i v9), some (vm_i v10), none] [] S Qp := by
  refine lg_iload (k := 10) rfl (by decide +kernel : decode method_14_code 60 = .ok (.iload 10, 2)) ?_
  refine lg_if_le (t := 130) (by decide +kernel : decode method_14_code 62 = .ok (.ifCond .le 68, 3)) (by decide) ⟨fun c => ?_, fun c => ?_⟩
  · replace h := h.1 c
    exact lg_sub (ls := [some (vm_r o0), none, some (vm_r o2), none, some (vm_i v4), some (vm_i v5), some (vm_i v6), some (vm_i v7), some (vm_i v8), some (vm_i v9), none, none]) ⟨rfl, ⟨rfl, ⟨rfl, ⟨rfl, ⟨rfl, ⟨rfl, ⟨rfl, ⟨rfl, trivial⟩⟩⟩⟩⟩⟩⟩⟩ h
  · replace h := h.2 c
    refine lg_iload (k := 10) rfl (by decide +kernel : decode method_14_code 65 = .ok (.iload 10, 2)) ?_
    refine lg_iload_n (k := 3) rfl rfl (by decide +kernel : decode method_14_code 67 = .ok (.iload_n 3, 1)) ?_
    refine lg_icmp_lt (t := 130) (by decide +kernel : decode method_14_code 68 = .ok (.if_icmp .lt 62, 3)) (by decide) ⟨fun c => ?_, fun c => ?_⟩
    · replace h := h.1 c
      exact lg_sub (ls := [some (vm_r o0), none, some (vm_r o2), none, some (vm_i v4), some (vm_i v5), some (vm_i v6), some (vm_i v7), some (vm_i v8), some (vm_i v9), none, none]) ⟨rfl, ⟨rfl, ⟨rfl, ⟨rfl, ⟨rfl, ⟨rfl, ⟨rfl, ⟨rfl, trivial⟩⟩⟩⟩⟩⟩⟩⟩ h
    · replace h := h.2 c
      refine lg_iload (k := 9) rfl (by decide +kernel : decode method_14_code 71 = .ok (.iload 9, 2)) ?_
      refine lg_if_eq (t := 130) (by decide +kernel : decode method_14_code 73 = .ok (.ifCond .eq 57, 3)) (by decide) ⟨fun c => ?_, fun c => ?_⟩
      · replace h := h.1 c
        exact lg_sub (ls := [some (vm_r o0), none, some (vm_r o2), none, some (vm_i v4), some (vm_i v5), some (vm_i v6), some (vm_i v7), some (vm_i v8), some (vm_i v9), none, none]) ⟨rfl, ⟨rfl, ⟨rfl, ⟨rfl, ⟨rfl, ⟨rfl, ⟨rfl, ⟨rfl, trivial⟩⟩⟩⟩⟩⟩⟩⟩ h
      · replace h := h.2 c
        refine lg_aload_n (k := 0) rfl rfl (by decide +kernel : decode method_14_code 76 = .ok (.aload_n 0, 1)) ?_
        refine lg_iconst (n := 5) (by decide) (by decide +kernel : decode method_14_code 77 = .ok (.iconst 5, 1)) ?_
        refine lg_iload (k := 10) rfl (by decide +kernel : decode method_14_code 78 = .ok (.iload 10, 2)) ?_
        refine lg_N 106 [5, v10] (show lCls 106 2 = true by decide +kernel) (Nat.le_of_ble_eq_true rfl) (vm_hw_in (i := 1041) (by decide +kernel)) (by decide +kernel : decode method_14_code 80 = .ok (.invokevirtual 130, 3)) h (fun z2 S1 h => ?_)
        refine lg_istore (k := 11) (l1 := [some (vm_r o0), none, some (vm_r o2), some (vm_i v3), some (vm_i v4), some (vm_i v5), some (vm_i v6), some (vm_i v7), some (vm_i v8), some (vm_i v9), some (vm_i v10), some (vm_i z2)]) rfl rfl (by decide +kernel : decode method_14_code 83 = .ok (.istore 11, 2)) ?_
        refine lg_aload_n (k := 0) rfl rfl (by decide +kernel : decode method_14_code 85 = .ok (.aload_n 0, 1)) ?_
        refine lg_N 138 [] (show lCls 138 0 = true by decide +kernel) (Nat.le_of_ble_eq_true rfl) (vm_hw_in (i := 1209) (by decide +kernel)) (by decide +kernel : decode method_14_code 86 = .ok (.invokevirtual 202, 3)) h (fun z4 S3 h => ?_)
        refine lg_iload (k := 10) rfl (by decide +kernel : decode method_14_code 89 = .ok (.iload 10, 2)) ?_
        refine lg_iload_n (k := 3) rfl rfl (by decide +kernel : decode method_14_code 91 = .ok (.iload_n 3, 1)) ?_
        refine lg_icmp_ne (t := 99) (by decide +kernel : decode method_14_code 92 = .ok (.if_icmp .ne 7, 3)) (by decide) ⟨fun c => ?_, fun c => ?_⟩
        · replace h := h.1 c
          refine lg_iconst (n := 0) (by decide) (by decide +kernel : decode method_14_code 99 = .ok (.iconst 0, 1)) ?_
          exact lg_sub (ls := [some (vm_r o0), none, some (vm_r o2), some (vm_i v3), some (vm_i v4), some (vm_i v5), some (vm_i v6), some (vm_i v7), some (vm_i v8), none, some (vm_i v10), some (vm_i z2)]) ⟨rfl, ⟨rfl, ⟨rfl, ⟨rfl, ⟨rfl, ⟨rfl, ⟨rfl, ⟨rfl, ⟨rfl, ⟨rfl, trivial⟩⟩⟩⟩⟩⟩⟩⟩⟩⟩ h
        · replace h := h.2 c
          refine lg_iconst (n := 1) (by decide) (by decide +kernel : decode method_14_code 95 = .ok (.iconst 1, 1)) ?_
          refine lg_goto (t := 100) (by decide +kernel : decode method_14_code 96 = .ok (.goto 4, 3)) (by decide) ?_
          exact lg_sub (ls := [some (vm_r o0), none, some (vm_r o2), some (vm_i v3), some (vm_i v4), some (vm_i v5), some (vm_i v6), some (vm_i v7), some (vm_i v8), none, some (vm_i v10), some (vm_i z2)]) ⟨rfl, ⟨rfl, ⟨rfl, ⟨rfl, ⟨rfl, ⟨rfl, ⟨rfl, ⟨rfl, ⟨rfl, ⟨rfl, trivial⟩⟩⟩⟩⟩⟩⟩⟩⟩⟩ h
set_option maxHeartbeats 4000000 in
theorem rL_bests_130 {S : lwS} {Qp : Option vm_V → lwS → Prop} {o0 : Nat} {o2 : Nat} {v4 : Int} {v5 : Int} {v6 : Int} {v7 : Int} {v8 : Int} {v9 : Int} (h : lNn 115 o0 [6] S (fun z2 S1 => lG lK_bests 138 [some (vm_r o0), none, some (vm_r o2), none, some (vm_i v4), some (vm_i v5), some (vm_i v6), some (vm_i v7), some (vm_i v8), some (vm_i v9), some (vm_i z2), none] [] S1 Qp)) : lG lK_bests 130 [some (vm_r o0), none, some (vm_r o2), none, some (vm_i v4), some (vm_i v5), some (vm_i v6), some (vm_i v7), some (vm_i v8), some (vm_i v9), none, none] [] S Qp := by
  refine lg_aload_n (k := 0) rfl rfl (by decide +kernel : decode method_14_code 130 = .ok (.aload_n 0, 1)) ?_
  refine lg_bipush (n := 6) (by decide) (by decide) (by decide +kernel : decode method_14_code 131 = .ok (.bipush 6, 2)) ?_
  refine lg_N 115 [6] (show lCls 115 1 = true by decide +kernel) (Nat.le_of_ble_eq_true rfl) (vm_hw_in (i := 604) (by decide +kernel)) (by decide +kernel : decode method_14_code 133 = .ok (.invokevirtual 40, 3)) h (fun z2 S1 h => ?_)
  refine lg_istore (k := 10) (l1 := [some (vm_r o0), none, some (vm_r o2), none, some (vm_i v4), some (vm_i v5), some (vm_i v6), some (vm_i v7), some (vm_i v8), some (vm_i v9), some (vm_i z2), none]) rfl rfl (by decide +kernel : decode method_14_code 136 = .ok (.istore 10, 2)) ?_
  exact h
set_option maxHeartbeats 4000000 in
theorem rL_bests_100 {S : lwS} {Qp : Option vm_V → lwS → Prop} {o0 : Nat} {o2 : Nat} {v3 : Int} {v4 : Int} {v5 : Int} {v6 : Int} {v7 : Int} {v8 : Int} {v10 : Int} {v11 : Int} {x0 : Int} {x1 : Int} (h : (¬ x1 = x0 → (lG lK_bests 122 [some (vm_r o0), none, some (vm_r o2), some (vm_i v3), some (vm_i v4), some (vm_i v5), some (vm_i v6), some (vm_i v7), some (vm_i v8), none, some (vm_i v10), none] [vm_i 0] S Qp)) ∧ (¬ (¬ x1 = x0) → ((v11 = ((-2)) → (lG lK_bests 122 [some (vm_r o0), none, some (vm_r o2), some (vm_i v3), some (vm_i v4), some (vm_i v5), some (vm_i v6), some (vm_i v7), some (vm_i v8), none, some (vm_i v10), none] [vm_i 1] S Qp)) ∧ (¬ (v11 = ((-2))) → (lNn 113 o0 [] S (fun z2 S1 => (z2 < 0 → (lG lK_bests 122 [some (vm_r o0), none, some (vm_r o2), some (vm_i v3), some (vm_i v4), some (vm_i v5), some (vm_i v6), some (vm_i v7), some (vm_i v8), none, some (vm_i v10), none] [vm_i 0] S1 Qp)) ∧ (¬ (z2 < 0) → (lG lK_bests 122 [some (vm_r o0), none, some (vm_r o2), some (vm_i v3), some (vm_i v4), some (vm_i v5), some (vm_i v6), some (vm_i v7), some (vm_i v8), none, some (vm_i v10), none] [vm_i 1] S1 Qp)))))))) : lG lK_bests 100 [some (vm_r o0), none, some (vm_r o2), some (vm_i v3), some (vm_i v4), some (vm_i v5), some (vm_i v6), some (vm_i v7), some (vm_i v8), none, some (vm_i v10), some (vm_i v11)] [vm_i x0, vm_i x1] S Qp := by
  refine lg_icmp_ne (t := 121) (by decide +kernel : decode method_14_code 100 = .ok (.if_icmp .ne 21, 3)) (by decide) ⟨fun c => ?_, fun c => ?_⟩
  · replace h := h.1 c
    refine lg_iconst (n := 0) (by decide) (by decide +kernel : decode method_14_code 121 = .ok (.iconst 0, 1)) ?_
    exact lg_sub (ls := [some (vm_r o0), none, some (vm_r o2), some (vm_i v3), some (vm_i v4), some (vm_i v5), some (vm_i v6), some (vm_i v7), some (vm_i v8), none, some (vm_i v10), none]) ⟨rfl, ⟨rfl, ⟨rfl, ⟨rfl, ⟨rfl, ⟨rfl, ⟨rfl, ⟨rfl, ⟨rfl, trivial⟩⟩⟩⟩⟩⟩⟩⟩⟩ h
  · replace h := h.2 c
    refine lg_iload (k := 11) rfl (by decide +kernel : decode method_14_code 103 = .ok (.iload 11, 2)) ?_
    refine lg_bipush (n := (-2)) (by decide) (by decide) (by decide +kernel : decode method_14_code 105 = .ok (.bipush (-2), 2)) ?_
    refine lg_icmp_eq (t := 117) (by decide +kernel : decode method_14_code 107 = .ok (.if_icmp .eq 10, 3)) (by decide) ⟨fun c => ?_, fun c => ?_⟩
    · replace h := h.1 c
      refine lg_iconst (n := 1) (by decide) (by decide +kernel : decode method_14_code 117 = .ok (.iconst 1, 1)) ?_
      refine lg_goto (t := 122) (by decide +kernel : decode method_14_code 118 = .ok (.goto 4, 3)) (by decide) ?_
      exact lg_sub (ls := [some (vm_r o0), none, some (vm_r o2), some (vm_i v3), some (vm_i v4), some (vm_i v5), some (vm_i v6), some (vm_i v7), some (vm_i v8), none, some (vm_i v10), none]) ⟨rfl, ⟨rfl, ⟨rfl, ⟨rfl, ⟨rfl, ⟨rfl, ⟨rfl, ⟨rfl, ⟨rfl, trivial⟩⟩⟩⟩⟩⟩⟩⟩⟩ h
    · replace h := h.2 c
      refine lg_aload_n (k := 0) rfl rfl (by decide +kernel : decode method_14_code 110 = .ok (.aload_n 0, 1)) ?_
      refine lg_N 113 [] (show lCls 113 0 = true by decide +kernel) (Nat.le_of_ble_eq_true rfl) (vm_hw_in (i := 1109) (by decide +kernel)) (by decide +kernel : decode method_14_code 111 = .ok (.invokevirtual 168, 3)) h (fun z2 S1 h => ?_)
      refine lg_if_lt (t := 121) (by decide +kernel : decode method_14_code 114 = .ok (.ifCond .lt 7, 3)) (by decide) ⟨fun c => ?_, fun c => ?_⟩
      · replace h := h.1 c
        refine lg_iconst (n := 0) (by decide) (by decide +kernel : decode method_14_code 121 = .ok (.iconst 0, 1)) ?_
        exact lg_sub (ls := [some (vm_r o0), none, some (vm_r o2), some (vm_i v3), some (vm_i v4), some (vm_i v5), some (vm_i v6), some (vm_i v7), some (vm_i v8), none, some (vm_i v10), none]) ⟨rfl, ⟨rfl, ⟨rfl, ⟨rfl, ⟨rfl, ⟨rfl, ⟨rfl, ⟨rfl, ⟨rfl, trivial⟩⟩⟩⟩⟩⟩⟩⟩⟩ h
      · replace h := h.2 c
        refine lg_iconst (n := 1) (by decide) (by decide +kernel : decode method_14_code 117 = .ok (.iconst 1, 1)) ?_
        refine lg_goto (t := 122) (by decide +kernel : decode method_14_code 118 = .ok (.goto 4, 3)) (by decide) ?_
        exact lg_sub (ls := [some (vm_r o0), none, some (vm_r o2), some (vm_i v3), some (vm_i v4), some (vm_i v5), some (vm_i v6), some (vm_i v7), some (vm_i v8), none, some (vm_i v10), none]) ⟨rfl, ⟨rfl, ⟨rfl, ⟨rfl, ⟨rfl, ⟨rfl, ⟨rfl, ⟨rfl, ⟨rfl, trivial⟩⟩⟩⟩⟩⟩⟩⟩⟩ h
set_option maxHeartbeats 4000000 in
theorem rL_bests_138 {S : lwS} {Qp : Option vm_V → lwS → Prop} {o0 : Nat} {o2 : Nat} {v4 : Int} {v5 : Int} {v6 : Int} {v7 : Int} {v8 : Int} {v9 : Int} {v10 : Int} (h : (v10 < 0 → (lG lK_bests 210 [some (vm_r o0), none, some (vm_r o2), none, none, some (vm_i v5), some (vm_i v6), some (vm_i v7), some (vm_i v8), some (vm_i v9), none, none] [] S Qp)) ∧ (¬ (v10 < 0) → ((v10 < v4 → (lG lK_bests 210 [some (vm_r o0), none, some (vm_r o2), none, none, some (vm_i v5), some (vm_i v6), some (vm_i v7), some (vm_i v8), some (vm_i v9), none, none] [] S Qp)) ∧ (¬ (v10 < v4) → ((v9 = 0 → (lG lK_bests 210 [some (vm_r o0), none, some (vm_r o2), none, none, some (vm_i v5), some (vm_i v6), some (vm_i v7), some (vm_i v8), some (vm_i v9), none, none] [] S Qp)) ∧ (¬ (v9 = 0) → (lNn 106 o0 [3, v10] S (fun z2 S1 => lNn 138 o0 [] S1 (fun z4 S3 => (¬ v10 = v4 → (lG lK_bests 180 [some (vm_r o0), none, some (vm_r o2), none, some (vm_i v4), some (vm_i v5), some (vm_i v6), some (vm_i v7), some (vm_i v8), none, some (vm_i v10), some (vm_i z2)] [vm_i 0, vm_i z4] S3 Qp)) ∧ (¬ (¬ v10 = v4) → (lG lK_bests 180 [some (vm_r o0), none, some (vm_r o2), none, some (vm_i v4), some (vm_i v5), some (vm_i v6), some (vm_i v7), some (vm_i v8), none, some (vm_i v10), some (vm_i z2)] [vm_i 1, vm_i z4] S3 Qp))))))))))) : lG lK_bests 138 [some (vm_r o0), none, some (vm_r o2), none, some (vm_i v4), some (vm_i v5), some (vm_i v6), some (vm_i v7), some (vm_i v8), some (vm_i v9), some (vm_i v10), none] [] S Qp := by
  refine lg_iload (k := 10) rfl (by decide +kernel : decode method_14_code 138 = .ok (.iload 10, 2)) ?_
  refine lg_if_lt (t := 210) (by decide +kernel : decode method_14_code 140 = .ok (.ifCond .lt 70, 3)) (by decide) ⟨fun c => ?_, fun c => ?_⟩
  · replace h := h.1 c
    exact lg_sub (ls := [some (vm_r o0), none, some (vm_r o2), none, none, some (vm_i v5), some (vm_i v6), some (vm_i v7), some (vm_i v8), some (vm_i v9), none, none]) ⟨rfl, ⟨rfl, ⟨rfl, ⟨rfl, ⟨rfl, ⟨rfl, ⟨rfl, trivial⟩⟩⟩⟩⟩⟩⟩ h
  · replace h := h.2 c
    refine lg_iload (k := 10) rfl (by decide +kernel : decode method_14_code 143 = .ok (.iload 10, 2)) ?_
    refine lg_iload (k := 4) rfl (by decide +kernel : decode method_14_code 145 = .ok (.iload 4, 2)) ?_
    refine lg_icmp_lt (t := 210) (by decide +kernel : decode method_14_code 147 = .ok (.if_icmp .lt 63, 3)) (by decide) ⟨fun c => ?_, fun c => ?_⟩
    · replace h := h.1 c
      exact lg_sub (ls := [some (vm_r o0), none, some (vm_r o2), none, none, some (vm_i v5), some (vm_i v6), some (vm_i v7), some (vm_i v8), some (vm_i v9), none, none]) ⟨rfl, ⟨rfl, ⟨rfl, ⟨rfl, ⟨rfl, ⟨rfl, ⟨rfl, trivial⟩⟩⟩⟩⟩⟩⟩ h
    · replace h := h.2 c
      refine lg_iload (k := 9) rfl (by decide +kernel : decode method_14_code 150 = .ok (.iload 9, 2)) ?_
      refine lg_if_eq (t := 210) (by decide +kernel : decode method_14_code 152 = .ok (.ifCond .eq 58, 3)) (by decide) ⟨fun c => ?_, fun c => ?_⟩
      · replace h := h.1 c
        exact lg_sub (ls := [some (vm_r o0), none, some (vm_r o2), none, none, some (vm_i v5), some (vm_i v6), some (vm_i v7), some (vm_i v8), some (vm_i v9), none, none]) ⟨rfl, ⟨rfl, ⟨rfl, ⟨rfl, ⟨rfl, ⟨rfl, ⟨rfl, trivial⟩⟩⟩⟩⟩⟩⟩ h
      · replace h := h.2 c
        refine lg_aload_n (k := 0) rfl rfl (by decide +kernel : decode method_14_code 155 = .ok (.aload_n 0, 1)) ?_
        refine lg_iconst (n := 3) (by decide) (by decide +kernel : decode method_14_code 156 = .ok (.iconst 3, 1)) ?_
        refine lg_iload (k := 10) rfl (by decide +kernel : decode method_14_code 157 = .ok (.iload 10, 2)) ?_
        refine lg_N 106 [3, v10] (show lCls 106 2 = true by decide +kernel) (Nat.le_of_ble_eq_true rfl) (vm_hw_in (i := 1041) (by decide +kernel)) (by decide +kernel : decode method_14_code 159 = .ok (.invokevirtual 130, 3)) h (fun z2 S1 h => ?_)
        refine lg_istore (k := 11) (l1 := [some (vm_r o0), none, some (vm_r o2), none, some (vm_i v4), some (vm_i v5), some (vm_i v6), some (vm_i v7), some (vm_i v8), some (vm_i v9), some (vm_i v10), some (vm_i z2)]) rfl rfl (by decide +kernel : decode method_14_code 162 = .ok (.istore 11, 2)) ?_
        refine lg_aload_n (k := 0) rfl rfl (by decide +kernel : decode method_14_code 164 = .ok (.aload_n 0, 1)) ?_
        refine lg_N 138 [] (show lCls 138 0 = true by decide +kernel) (Nat.le_of_ble_eq_true rfl) (vm_hw_in (i := 1209) (by decide +kernel)) (by decide +kernel : decode method_14_code 165 = .ok (.invokevirtual 202, 3)) h (fun z4 S3 h => ?_)
        refine lg_iload (k := 10) rfl (by decide +kernel : decode method_14_code 168 = .ok (.iload 10, 2)) ?_
        refine lg_iload (k := 4) rfl (by decide +kernel : decode method_14_code 170 = .ok (.iload 4, 2)) ?_
        refine lg_icmp_ne (t := 179) (by decide +kernel : decode method_14_code 172 = .ok (.if_icmp .ne 7, 3)) (by decide) ⟨fun c => ?_, fun c => ?_⟩
        · replace h := h.1 c
          refine lg_iconst (n := 0) (by decide) (by decide +kernel : decode method_14_code 179 = .ok (.iconst 0, 1)) ?_
          exact lg_sub (ls := [some (vm_r o0), none, some (vm_r o2), none, some (vm_i v4), some (vm_i v5), some (vm_i v6), some (vm_i v7), some (vm_i v8), none, some (vm_i v10), some (vm_i z2)]) ⟨rfl, ⟨rfl, ⟨rfl, ⟨rfl, ⟨rfl, ⟨rfl, ⟨rfl, ⟨rfl, ⟨rfl, trivial⟩⟩⟩⟩⟩⟩⟩⟩⟩ h
        · replace h := h.2 c
          refine lg_iconst (n := 1) (by decide) (by decide +kernel : decode method_14_code 175 = .ok (.iconst 1, 1)) ?_
          refine lg_goto (t := 180) (by decide +kernel : decode method_14_code 176 = .ok (.goto 4, 3)) (by decide) ?_
          exact lg_sub (ls := [some (vm_r o0), none, some (vm_r o2), none, some (vm_i v4), some (vm_i v5), some (vm_i v6), some (vm_i v7), some (vm_i v8), none, some (vm_i v10), some (vm_i z2)]) ⟨rfl, ⟨rfl, ⟨rfl, ⟨rfl, ⟨rfl, ⟨rfl, ⟨rfl, ⟨rfl, ⟨rfl, trivial⟩⟩⟩⟩⟩⟩⟩⟩⟩ h
set_option maxHeartbeats 4000000 in
theorem rL_bests_122 {S : lwS} {Qp : Option vm_V → lwS → Prop} {o0 : Nat} {o2 : Nat} {v3 : Int} {v4 : Int} {v5 : Int} {v6 : Int} {v7 : Int} {v8 : Int} {v10 : Int} {x0 : Int} (h : (vm_32 (v10 + (-1))) ∧ (lG lK_bests 60 [some (vm_r o0), none, some (vm_r o2), some (vm_i v3), some (vm_i v4), some (vm_i v5), some (vm_i v6), some (vm_i v7), some (vm_i v8), some (vm_i x0), some (vm_i ((v10 + (-1)))), none] [] S Qp)) : lG lK_bests 122 [some (vm_r o0), none, some (vm_r o2), some (vm_i v3), some (vm_i v4), some (vm_i v5), some (vm_i v6), some (vm_i v7), some (vm_i v8), none, some (vm_i v10), none] [vm_i x0] S Qp := by
  refine lg_istore (k := 9) (l1 := [some (vm_r o0), none, some (vm_r o2), some (vm_i v3), some (vm_i v4), some (vm_i v5), some (vm_i v6), some (vm_i v7), some (vm_i v8), some (vm_i x0), some (vm_i v10), none]) rfl rfl (by decide +kernel : decode method_14_code 122 = .ok (.istore 9, 2)) ?_
  obtain ⟨h1, h⟩ := h
  refine lg_iinc (k := 10) (l1 := [some (vm_r o0), none, some (vm_r o2), some (vm_i v3), some (vm_i v4), some (vm_i v5), some (vm_i v6), some (vm_i v7), some (vm_i v8), some (vm_i x0), some (vm_i ((v10 + (-1)))), none]) rfl rfl rfl h1 (by decide +kernel : decode method_14_code 124 = .ok (.iinc 10 (-1), 3)) ?_
  refine lg_goto (t := 60) (by decide +kernel : decode method_14_code 127 = .ok (.goto (-67), 3)) (by decide) ?_
  exact h
set_option maxHeartbeats 4000000 in
theorem rL_bests_210 {S : lwS} {Qp : Option vm_V → lwS → Prop} {o0 : Nat} {o2 : Nat} {v5 : Int} {v6 : Int} {v7 : Int} {v8 : Int} {v9 : Int} (h : (v6 ≤ 0 → (lG lK_bests 303 [some (vm_r o0), none, some (vm_r o2), none, none, none, none, some (vm_i v7), some (vm_i v8), some (vm_i v9), none, none] [] S Qp)) ∧ (¬ (v6 ≤ 0) → ((v9 = 0 → (lG lK_bests 303 [some (vm_r o0), none, some (vm_r o2), none, none, none, none, some (vm_i v7), some (vm_i v8), some (vm_i v9), none, none] [] S Qp)) ∧ (¬ (v9 = 0) → (lNn 108 o0 [0] S (fun z2 S1 => lNn 106 o0 [0, v6] S1 (fun z4 S3 => lNn 115 o0 [12] S3 (fun z6 S5 => (v5 < z6 → (lG lK_bests 261 [some (vm_r o0), none, some (vm_r o2), none, none, none, none, some (vm_i v7), some (vm_i v8), none, some (vm_i z2), some (vm_i z4)] [vm_i 0] S5 Qp)) ∧ (¬ (v5 < z6) → (lNn 115 o0 [12] S5 (fun z8 S7 => (z8 ≤ 0 → (lG lK_bests 261 [some (vm_r o0), none, some (vm_r o2), none, none, none, none, some (vm_i v7), some (vm_i v8), none, some (vm_i z2), some (vm_i z4)] [vm_i 0] S7 Qp)) ∧ (¬ (z8 ≤ 0) → (lG lK_bests 261 [some (vm_r o0), none, some (vm_r o2), none, none, none, none, some (vm_i v7), some (vm_i v8), none, some (vm_i z2), some (vm_i z4)] [vm_i 1] S7 Qp))))))))))))) : lG lK_bests 210 [some (vm_r o0), none, some (vm_r o2), none, none, some (vm_i v5), some (vm_i v6), some (vm_i v7), some (vm_i v8), some (vm_i v9), none, none] [] S Qp := by
  refine lg_iload (k := 6) rfl (by decide +kernel : decode method_14_code 210 = .ok (.iload 6, 2)) ?_
  refine lg_if_le (t := 303) (by decide +kernel : decode method_14_code 212 = .ok (.ifCond .le 91, 3)) (by decide) ⟨fun c => ?_, fun c => ?_⟩
  · replace h := h.1 c
    exact lg_sub (ls := [some (vm_r o0), none, some (vm_r o2), none, none, none, none, some (vm_i v7), some (vm_i v8), some (vm_i v9), none, none]) ⟨rfl, ⟨rfl, ⟨rfl, ⟨rfl, ⟨rfl, trivial⟩⟩⟩⟩⟩ h
  · replace h := h.2 c
    refine lg_iload (k := 9) rfl (by decide +kernel : decode method_14_code 215 = .ok (.iload 9, 2)) ?_
    refine lg_if_eq (t := 303) (by decide +kernel : decode method_14_code 217 = .ok (.ifCond .eq 86, 3)) (by decide) ⟨fun c => ?_, fun c => ?_⟩
    · replace h := h.1 c
      exact lg_sub (ls := [some (vm_r o0), none, some (vm_r o2), none, none, none, none, some (vm_i v7), some (vm_i v8), some (vm_i v9), none, none]) ⟨rfl, ⟨rfl, ⟨rfl, ⟨rfl, ⟨rfl, trivial⟩⟩⟩⟩⟩ h
    · replace h := h.2 c
      refine lg_aload_n (k := 0) rfl rfl (by decide +kernel : decode method_14_code 220 = .ok (.aload_n 0, 1)) ?_
      refine lg_iconst (n := 0) (by decide) (by decide +kernel : decode method_14_code 221 = .ok (.iconst 0, 1)) ?_
      refine lg_N 108 [0] (show lCls 108 1 = true by decide +kernel) (Nat.le_of_ble_eq_true rfl) (vm_hw_in (i := 1053) (by decide +kernel)) (by decide +kernel : decode method_14_code 222 = .ok (.invokevirtual 137, 3)) h (fun z2 S1 h => ?_)
      refine lg_istore (k := 10) (l1 := [some (vm_r o0), none, some (vm_r o2), none, none, some (vm_i v5), some (vm_i v6), some (vm_i v7), some (vm_i v8), some (vm_i v9), some (vm_i z2), none]) rfl rfl (by decide +kernel : decode method_14_code 225 = .ok (.istore 10, 2)) ?_
      refine lg_aload_n (k := 0) rfl rfl (by decide +kernel : decode method_14_code 227 = .ok (.aload_n 0, 1)) ?_
      refine lg_iconst (n := 0) (by decide) (by decide +kernel : decode method_14_code 228 = .ok (.iconst 0, 1)) ?_
      refine lg_iload (k := 6) rfl (by decide +kernel : decode method_14_code 229 = .ok (.iload 6, 2)) ?_
      refine lg_N 106 [0, v6] (show lCls 106 2 = true by decide +kernel) (Nat.le_of_ble_eq_true rfl) (vm_hw_in (i := 1041) (by decide +kernel)) (by decide +kernel : decode method_14_code 231 = .ok (.invokevirtual 130, 3)) h (fun z4 S3 h => ?_)
      refine lg_istore (k := 11) (l1 := [some (vm_r o0), none, some (vm_r o2), none, none, some (vm_i v5), some (vm_i v6), some (vm_i v7), some (vm_i v8), some (vm_i v9), some (vm_i z2), some (vm_i z4)]) rfl rfl (by decide +kernel : decode method_14_code 234 = .ok (.istore 11, 2)) ?_
      refine lg_aload_n (k := 0) rfl rfl (by decide +kernel : decode method_14_code 236 = .ok (.aload_n 0, 1)) ?_
      refine lg_bipush (n := 12) (by decide) (by decide) (by decide +kernel : decode method_14_code 237 = .ok (.bipush 12, 2)) ?_
      refine lg_N 115 [12] (show lCls 115 1 = true by decide +kernel) (Nat.le_of_ble_eq_true rfl) (vm_hw_in (i := 604) (by decide +kernel)) (by decide +kernel : decode method_14_code 239 = .ok (.invokevirtual 40, 3)) h (fun z6 S5 h => ?_)
      refine lg_iload (k := 5) rfl (by decide +kernel : decode method_14_code 242 = .ok (.iload 5, 2)) ?_
      refine lg_icmp_gt (t := 260) (by decide +kernel : decode method_14_code 244 = .ok (.if_icmp .gt 16, 3)) (by decide) ⟨fun c => ?_, fun c => ?_⟩
      · replace h := h.1 c
        refine lg_iconst (n := 0) (by decide) (by decide +kernel : decode method_14_code 260 = .ok (.iconst 0, 1)) ?_
        exact lg_sub (ls := [some (vm_r o0), none, some (vm_r o2), none, none, none, none, some (vm_i v7), some (vm_i v8), none, some (vm_i z2), some (vm_i z4)]) ⟨rfl, ⟨rfl, ⟨rfl, ⟨rfl, ⟨rfl, ⟨rfl, trivial⟩⟩⟩⟩⟩⟩ h
      · replace h := h.2 c
        refine lg_aload_n (k := 0) rfl rfl (by decide +kernel : decode method_14_code 247 = .ok (.aload_n 0, 1)) ?_
        refine lg_bipush (n := 12) (by decide) (by decide) (by decide +kernel : decode method_14_code 248 = .ok (.bipush 12, 2)) ?_
        refine lg_N 115 [12] (show lCls 115 1 = true by decide +kernel) (Nat.le_of_ble_eq_true rfl) (vm_hw_in (i := 604) (by decide +kernel)) (by decide +kernel : decode method_14_code 250 = .ok (.invokevirtual 40, 3)) h (fun z8 S7 h => ?_)
        refine lg_if_le (t := 260) (by decide +kernel : decode method_14_code 253 = .ok (.ifCond .le 7, 3)) (by decide) ⟨fun c => ?_, fun c => ?_⟩
        · replace h := h.1 c
          refine lg_iconst (n := 0) (by decide) (by decide +kernel : decode method_14_code 260 = .ok (.iconst 0, 1)) ?_
          exact lg_sub (ls := [some (vm_r o0), none, some (vm_r o2), none, none, none, none, some (vm_i v7), some (vm_i v8), none, some (vm_i z2), some (vm_i z4)]) ⟨rfl, ⟨rfl, ⟨rfl, ⟨rfl, ⟨rfl, ⟨rfl, trivial⟩⟩⟩⟩⟩⟩ h
        · replace h := h.2 c
          refine lg_iconst (n := 1) (by decide) (by decide +kernel : decode method_14_code 256 = .ok (.iconst 1, 1)) ?_
          refine lg_goto (t := 261) (by decide +kernel : decode method_14_code 257 = .ok (.goto 4, 3)) (by decide) ?_
          exact lg_sub (ls := [some (vm_r o0), none, some (vm_r o2), none, none, none, none, some (vm_i v7), some (vm_i v8), none, some (vm_i z2), some (vm_i z4)]) ⟨rfl, ⟨rfl, ⟨rfl, ⟨rfl, ⟨rfl, ⟨rfl, trivial⟩⟩⟩⟩⟩⟩ h
set_option maxHeartbeats 4000000 in
theorem rL_bests_180 {S : lwS} {Qp : Option vm_V → lwS → Prop} {o0 : Nat} {o2 : Nat} {v4 : Int} {v5 : Int} {v6 : Int} {v7 : Int} {v8 : Int} {v10 : Int} {v11 : Int} {x0 : Int} {x1 : Int} (h : (¬ x1 = x0 → (lG lK_bests 202 [some (vm_r o0), none, some (vm_r o2), none, some (vm_i v4), some (vm_i v5), some (vm_i v6), some (vm_i v7), some (vm_i v8), none, some (vm_i v10), none] [vm_i 0] S Qp)) ∧ (¬ (¬ x1 = x0) → ((v11 = ((-2)) → (lG lK_bests 202 [some (vm_r o0), none, some (vm_r o2), none, some (vm_i v4), some (vm_i v5), some (vm_i v6), some (vm_i v7), some (vm_i v8), none, some (vm_i v10), none] [vm_i 1] S Qp)) ∧ (¬ (v11 = ((-2))) → (lNn 113 o0 [] S (fun z2 S1 => (z2 < 0 → (lG lK_bests 202 [some (vm_r o0), none, some (vm_r o2), none, some (vm_i v4), some (vm_i v5), some (vm_i v6), some (vm_i v7), some (vm_i v8), none, some (vm_i v10), none] [vm_i 0] S1 Qp)) ∧ (¬ (z2 < 0) → (lG lK_bests 202 [some (vm_r o0), none, some (vm_r o2), none, some (vm_i v4), some (vm_i v5), some (vm_i v6), some (vm_i v7), some (vm_i v8), none, some (vm_i v10), none] [vm_i 1] S1 Qp)))))))) : lG lK_bests 180 [some (vm_r o0), none, some (vm_r o2), none, some (vm_i v4), some (vm_i v5), some (vm_i v6), some (vm_i v7), some (vm_i v8), none, some (vm_i v10), some (vm_i v11)] [vm_i x0, vm_i x1] S Qp := by
  refine lg_icmp_ne (t := 201) (by decide +kernel : decode method_14_code 180 = .ok (.if_icmp .ne 21, 3)) (by decide) ⟨fun c => ?_, fun c => ?_⟩
  · replace h := h.1 c
    refine lg_iconst (n := 0) (by decide) (by decide +kernel : decode method_14_code 201 = .ok (.iconst 0, 1)) ?_
    exact lg_sub (ls := [some (vm_r o0), none, some (vm_r o2), none, some (vm_i v4), some (vm_i v5), some (vm_i v6), some (vm_i v7), some (vm_i v8), none, some (vm_i v10), none]) ⟨rfl, ⟨rfl, ⟨rfl, ⟨rfl, ⟨rfl, ⟨rfl, ⟨rfl, ⟨rfl, trivial⟩⟩⟩⟩⟩⟩⟩⟩ h
  · replace h := h.2 c
    refine lg_iload (k := 11) rfl (by decide +kernel : decode method_14_code 183 = .ok (.iload 11, 2)) ?_
    refine lg_bipush (n := (-2)) (by decide) (by decide) (by decide +kernel : decode method_14_code 185 = .ok (.bipush (-2), 2)) ?_
    refine lg_icmp_eq (t := 197) (by decide +kernel : decode method_14_code 187 = .ok (.if_icmp .eq 10, 3)) (by decide) ⟨fun c => ?_, fun c => ?_⟩
    · replace h := h.1 c
      refine lg_iconst (n := 1) (by decide) (by decide +kernel : decode method_14_code 197 = .ok (.iconst 1, 1)) ?_
      refine lg_goto (t := 202) (by decide +kernel : decode method_14_code 198 = .ok (.goto 4, 3)) (by decide) ?_
      exact lg_sub (ls := [some (vm_r o0), none, some (vm_r o2), none, some (vm_i v4), some (vm_i v5), some (vm_i v6), some (vm_i v7), some (vm_i v8), none, some (vm_i v10), none]) ⟨rfl, ⟨rfl, ⟨rfl, ⟨rfl, ⟨rfl, ⟨rfl, ⟨rfl, ⟨rfl, trivial⟩⟩⟩⟩⟩⟩⟩⟩ h
    · replace h := h.2 c
      refine lg_aload_n (k := 0) rfl rfl (by decide +kernel : decode method_14_code 190 = .ok (.aload_n 0, 1)) ?_
      refine lg_N 113 [] (show lCls 113 0 = true by decide +kernel) (Nat.le_of_ble_eq_true rfl) (vm_hw_in (i := 1109) (by decide +kernel)) (by decide +kernel : decode method_14_code 191 = .ok (.invokevirtual 168, 3)) h (fun z2 S1 h => ?_)
      refine lg_if_lt (t := 201) (by decide +kernel : decode method_14_code 194 = .ok (.ifCond .lt 7, 3)) (by decide) ⟨fun c => ?_, fun c => ?_⟩
      · replace h := h.1 c
        refine lg_iconst (n := 0) (by decide) (by decide +kernel : decode method_14_code 201 = .ok (.iconst 0, 1)) ?_
        exact lg_sub (ls := [some (vm_r o0), none, some (vm_r o2), none, some (vm_i v4), some (vm_i v5), some (vm_i v6), some (vm_i v7), some (vm_i v8), none, some (vm_i v10), none]) ⟨rfl, ⟨rfl, ⟨rfl, ⟨rfl, ⟨rfl, ⟨rfl, ⟨rfl, ⟨rfl, trivial⟩⟩⟩⟩⟩⟩⟩⟩ h
      · replace h := h.2 c
        refine lg_iconst (n := 1) (by decide) (by decide +kernel : decode method_14_code 197 = .ok (.iconst 1, 1)) ?_
        refine lg_goto (t := 202) (by decide +kernel : decode method_14_code 198 = .ok (.goto 4, 3)) (by decide) ?_
        exact lg_sub (ls := [some (vm_r o0), none, some (vm_r o2), none, some (vm_i v4), some (vm_i v5), some (vm_i v6), some (vm_i v7), some (vm_i v8), none, some (vm_i v10), none]) ⟨rfl, ⟨rfl, ⟨rfl, ⟨rfl, ⟨rfl, ⟨rfl, ⟨rfl, ⟨rfl, trivial⟩⟩⟩⟩⟩⟩⟩⟩ h
set_option maxHeartbeats 4000000 in
theorem rL_bests_303 {S : lwS} {Qp : Option vm_V → lwS → Prop} {o0 : Nat} {o2 : Nat} {v7 : Int} {v8 : Int} {v9 : Int} (h : (v7 < 0 → (lG lK_bests 395 [some (vm_r o0), none, some (vm_r o2), none, none, none, none, some (vm_i v7), some (vm_i v8), some (vm_i v9), none, none] [] S Qp)) ∧ (¬ (v7 < 0) → ((v9 = 0 → (lG lK_bests 395 [some (vm_r o0), none, some (vm_r o2), none, none, none, none, some (vm_i v7), some (vm_i v8), some (vm_i v9), none, none] [] S Qp)) ∧ (¬ (v9 = 0) → (((0 : Int) ≤ v7 ∧ (0 : Int) < 100) ∧ (((0 : Int) ≤ v7 ∧ (0 : Int) < 100) ∧ (lNn 110 o0 [(v7 / 100), (v7 % 100)] S (fun z2 S1 => (z2 < 0 → (lG lK_bests 393 [some (vm_r o0), none, some (vm_r o2), none, none, none, none, some (vm_i v7), some (vm_i v8), none, none, none] [vm_i 0] S1 Qp)) ∧ (¬ (z2 < 0) → (lNn 143 o0 [] S1 (fun z4 S3 => (z4 < 0 → (lG lK_bests 393 [some (vm_r o0), none, some (vm_r o2), none, none, none, none, some (vm_i v7), some (vm_i v8), none, none, none] [vm_i 0] S3 Qp)) ∧ (¬ (z4 < 0) → (lNn 143 o0 [] S3 (fun z6 S5 => (v8 ≤ z6 → (lG lK_bests 393 [some (vm_r o0), none, some (vm_r o2), none, none, none, none, some (vm_i v7), some (vm_i v8), none, none, none] [vm_i 0] S5 Qp)) ∧ (¬ (v8 ≤ z6) → (((0 : Int) ≤ v7 ∧ (0 : Int) < 100) ∧ (((0 : Int) ≤ v7 ∧ (0 : Int) < 100) ∧ (lNn 110 o0 [(v7 % 100), (v7 / 100)] S5 (fun z8 S7 => (z8 < 0 → (lG lK_bests 393 [some (vm_r o0), none, some (vm_r o2), none, none, none, none, some (vm_i v7), some (vm_i v8), none, none, none] [vm_i 0] S7 Qp)) ∧ (¬ (z8 < 0) → (lCr lK_told [vm_r o0] S7 (fun r10 S9 => lEq r10 o2 S9 (lNn 113 o0 [] S9 (fun z12 S11 => (z12 < 0 → (lG lK_bests 393 [some (vm_r o0), none, some (vm_r o2), none, none, none, none, some (vm_i v7), some (vm_i v8), none, none, none] [vm_i 0] S11 Qp)) ∧ (¬ (z12 < 0) → (lNn 113 o0 [] S11 (fun z14 S13 => (z14 < 0 → (lG lK_bests 393 [some (vm_r o0), none, some (vm_r o2), none, none, none, none, some (vm_i v7), some (vm_i v8), none, none, none] [vm_i 0] S13 Qp)) ∧ (¬ (z14 < 0) → (lG lK_bests 393 [some (vm_r o0), none, some (vm_r o2), none, none, none, none, some (vm_i v7), some (vm_i v8), none, none, none] [vm_i 1] S13 Qp))))))))))))))))))))))))))))) : lG lK_bests 303 [some (vm_r o0), none, some (vm_r o2), none, none, none, none, some (vm_i v7), some (vm_i v8), some (vm_i v9), none, none] [] S Qp := by
  refine lg_iload (k := 7) rfl (by decide +kernel : decode method_14_code 303 = .ok (.iload 7, 2)) ?_
  refine lg_if_lt (t := 395) (by decide +kernel : decode method_14_code 305 = .ok (.ifCond .lt 90, 3)) (by decide) ⟨fun c => ?_, fun c => ?_⟩
  · replace h := h.1 c
    exact h
  · replace h := h.2 c
    refine lg_iload (k := 9) rfl (by decide +kernel : decode method_14_code 308 = .ok (.iload 9, 2)) ?_
    refine lg_if_eq (t := 395) (by decide +kernel : decode method_14_code 310 = .ok (.ifCond .eq 85, 3)) (by decide) ⟨fun c => ?_, fun c => ?_⟩
    · replace h := h.1 c
      exact h
    · replace h := h.2 c
      refine lg_aload_n (k := 0) rfl rfl (by decide +kernel : decode method_14_code 313 = .ok (.aload_n 0, 1)) ?_
      refine lg_iload (k := 7) rfl (by decide +kernel : decode method_14_code 314 = .ok (.iload 7, 2)) ?_
      refine lg_bipush (n := 100) (by decide) (by decide) (by decide +kernel : decode method_14_code 316 = .ok (.bipush 100, 2)) ?_
      obtain ⟨h1, h⟩ := h
      refine lg_idiv h1 (by decide +kernel : decode method_14_code 318 = .ok (.idiv, 1)) ?_
      refine lg_iload (k := 7) rfl (by decide +kernel : decode method_14_code 319 = .ok (.iload 7, 2)) ?_
      refine lg_bipush (n := 100) (by decide) (by decide) (by decide +kernel : decode method_14_code 321 = .ok (.bipush 100, 2)) ?_
      obtain ⟨h1, h⟩ := h
      refine lg_irem h1 (by decide +kernel : decode method_14_code 323 = .ok (.irem, 1)) ?_
      refine lg_N 110 [(v7 / 100), (v7 % 100)] (show lCls 110 2 = true by decide +kernel) (Nat.le_of_ble_eq_true rfl) (vm_hw_in (i := 1061) (by decide +kernel)) (by decide +kernel : decode method_14_code 324 = .ok (.invokevirtual 144, 3)) h (fun z2 S1 h => ?_)
      refine lg_if_lt (t := 392) (by decide +kernel : decode method_14_code 327 = .ok (.ifCond .lt 65, 3)) (by decide) ⟨fun c => ?_, fun c => ?_⟩
      · replace h := h.1 c
        refine lg_iconst (n := 0) (by decide) (by decide +kernel : decode method_14_code 392 = .ok (.iconst 0, 1)) ?_
        exact lg_sub (ls := [some (vm_r o0), none, some (vm_r o2), none, none, none, none, some (vm_i v7), some (vm_i v8), none, none, none]) ⟨rfl, ⟨rfl, ⟨rfl, ⟨rfl, trivial⟩⟩⟩⟩ h
      · replace h := h.2 c
        refine lg_aload_n (k := 0) rfl rfl (by decide +kernel : decode method_14_code 330 = .ok (.aload_n 0, 1)) ?_
        refine lg_N 143 [] (show lCls 143 0 = true by decide +kernel) (Nat.le_of_ble_eq_true rfl) (vm_hw_in (i := 1222) (by decide +kernel)) (by decide +kernel : decode method_14_code 331 = .ok (.invokevirtual 206, 3)) h (fun z4 S3 h => ?_)
        refine lg_if_lt (t := 392) (by decide +kernel : decode method_14_code 334 = .ok (.ifCond .lt 58, 3)) (by decide) ⟨fun c => ?_, fun c => ?_⟩
        · replace h := h.1 c
          refine lg_iconst (n := 0) (by decide) (by decide +kernel : decode method_14_code 392 = .ok (.iconst 0, 1)) ?_
          exact lg_sub (ls := [some (vm_r o0), none, some (vm_r o2), none, none, none, none, some (vm_i v7), some (vm_i v8), none, none, none]) ⟨rfl, ⟨rfl, ⟨rfl, ⟨rfl, trivial⟩⟩⟩⟩ h
        · replace h := h.2 c
          refine lg_aload_n (k := 0) rfl rfl (by decide +kernel : decode method_14_code 337 = .ok (.aload_n 0, 1)) ?_
          refine lg_N 143 [] (show lCls 143 0 = true by decide +kernel) (Nat.le_of_ble_eq_true rfl) (vm_hw_in (i := 1222) (by decide +kernel)) (by decide +kernel : decode method_14_code 338 = .ok (.invokevirtual 206, 3)) h (fun z6 S5 h => ?_)
          refine lg_iload (k := 8) rfl (by decide +kernel : decode method_14_code 341 = .ok (.iload 8, 2)) ?_
          refine lg_icmp_ge (t := 392) (by decide +kernel : decode method_14_code 343 = .ok (.if_icmp .ge 49, 3)) (by decide) ⟨fun c => ?_, fun c => ?_⟩
          · replace h := h.1 c
            refine lg_iconst (n := 0) (by decide) (by decide +kernel : decode method_14_code 392 = .ok (.iconst 0, 1)) ?_
            exact lg_sub (ls := [some (vm_r o0), none, some (vm_r o2), none, none, none, none, some (vm_i v7), some (vm_i v8), none, none, none]) ⟨rfl, ⟨rfl, ⟨rfl, ⟨rfl, trivial⟩⟩⟩⟩ h
          · replace h := h.2 c
            refine lg_aload_n (k := 0) rfl rfl (by decide +kernel : decode method_14_code 346 = .ok (.aload_n 0, 1)) ?_
            refine lg_iload (k := 7) rfl (by decide +kernel : decode method_14_code 347 = .ok (.iload 7, 2)) ?_
            refine lg_bipush (n := 100) (by decide) (by decide) (by decide +kernel : decode method_14_code 349 = .ok (.bipush 100, 2)) ?_
            obtain ⟨h1, h⟩ := h
            refine lg_irem h1 (by decide +kernel : decode method_14_code 351 = .ok (.irem, 1)) ?_
            refine lg_iload (k := 7) rfl (by decide +kernel : decode method_14_code 352 = .ok (.iload 7, 2)) ?_
            refine lg_bipush (n := 100) (by decide) (by decide) (by decide +kernel : decode method_14_code 354 = .ok (.bipush 100, 2)) ?_
            obtain ⟨h1, h⟩ := h
            refine lg_idiv h1 (by decide +kernel : decode method_14_code 356 = .ok (.idiv, 1)) ?_
            refine lg_N 110 [(v7 % 100), (v7 / 100)] (show lCls 110 2 = true by decide +kernel) (Nat.le_of_ble_eq_true rfl) (vm_hw_in (i := 1061) (by decide +kernel)) (by decide +kernel : decode method_14_code 357 = .ok (.invokevirtual 144, 3)) h (fun z8 S7 h => ?_)
            refine lg_if_lt (t := 392) (by decide +kernel : decode method_14_code 360 = .ok (.ifCond .lt 32, 3)) (by decide) ⟨fun c => ?_, fun c => ?_⟩
            · replace h := h.1 c
              refine lg_iconst (n := 0) (by decide) (by decide +kernel : decode method_14_code 392 = .ok (.iconst 0, 1)) ?_
              exact lg_sub (ls := [some (vm_r o0), none, some (vm_r o2), none, none, none, none, some (vm_i v7), some (vm_i v8), none, none, none]) ⟨rfl, ⟨rfl, ⟨rfl, ⟨rfl, trivial⟩⟩⟩⟩ h
            · replace h := h.2 c
              refine lg_aload_n (k := 0) rfl rfl (by decide +kernel : decode method_14_code 363 = .ok (.aload_n 0, 1)) ?_
              refine lg_Cr [vm_r o0] lOK_told rfl (show 2 < 3 by decide) (vm_hw_in (i := 1246) (by decide +kernel)) (by decide +kernel : decode method_14_code 364 = .ok (.invokestatic 225, 3)) (Nat.le_of_ble_eq_true rfl) (Nat.le_of_ble_eq_true rfl) h (fun r10 S9 h => ?_)
              refine lg_aload_n (k := 2) rfl rfl (by decide +kernel : decode method_14_code 367 = .ok (.aload_n 2, 1)) ?_
              refine lg_Eq (vm_hw_in (i := 1366) (by decide +kernel)) (by decide +kernel : decode method_14_code 368 = .ok (.invokevirtual 241, 3)) (Nat.le_of_ble_eq_true rfl) h (fun h => ?_)
              refine lg_if_eq (t := 392) (by decide +kernel : decode method_14_code 371 = .ok (.ifCond .eq 21, 3)) (by decide) ⟨fun c => absurd c (by decide), fun c => ?_⟩
              refine lg_aload_n (k := 0) rfl rfl (by decide +kernel : decode method_14_code 374 = .ok (.aload_n 0, 1)) ?_
              refine lg_N 113 [] (show lCls 113 0 = true by decide +kernel) (Nat.le_of_ble_eq_true rfl) (vm_hw_in (i := 1109) (by decide +kernel)) (by decide +kernel : decode method_14_code 375 = .ok (.invokevirtual 168, 3)) h (fun z12 S11 h => ?_)
              refine lg_if_lt (t := 392) (by decide +kernel : decode method_14_code 378 = .ok (.ifCond .lt 14, 3)) (by decide) ⟨fun c => ?_, fun c => ?_⟩
              · replace h := h.1 c
                refine lg_iconst (n := 0) (by decide) (by decide +kernel : decode method_14_code 392 = .ok (.iconst 0, 1)) ?_
                exact lg_sub (ls := [some (vm_r o0), none, some (vm_r o2), none, none, none, none, some (vm_i v7), some (vm_i v8), none, none, none]) ⟨rfl, ⟨rfl, ⟨rfl, ⟨rfl, trivial⟩⟩⟩⟩ h
              · replace h := h.2 c
                refine lg_aload_n (k := 0) rfl rfl (by decide +kernel : decode method_14_code 381 = .ok (.aload_n 0, 1)) ?_
                refine lg_N 113 [] (show lCls 113 0 = true by decide +kernel) (Nat.le_of_ble_eq_true rfl) (vm_hw_in (i := 1109) (by decide +kernel)) (by decide +kernel : decode method_14_code 382 = .ok (.invokevirtual 168, 3)) h (fun z14 S13 h => ?_)
                refine lg_if_lt (t := 392) (by decide +kernel : decode method_14_code 385 = .ok (.ifCond .lt 7, 3)) (by decide) ⟨fun c => ?_, fun c => ?_⟩
                · replace h := h.1 c
                  refine lg_iconst (n := 0) (by decide) (by decide +kernel : decode method_14_code 392 = .ok (.iconst 0, 1)) ?_
                  exact lg_sub (ls := [some (vm_r o0), none, some (vm_r o2), none, none, none, none, some (vm_i v7), some (vm_i v8), none, none, none]) ⟨rfl, ⟨rfl, ⟨rfl, ⟨rfl, trivial⟩⟩⟩⟩ h
                · replace h := h.2 c
                  refine lg_iconst (n := 1) (by decide) (by decide +kernel : decode method_14_code 388 = .ok (.iconst 1, 1)) ?_
                  refine lg_goto (t := 393) (by decide +kernel : decode method_14_code 389 = .ok (.goto 4, 3)) (by decide) ?_
                  exact lg_sub (ls := [some (vm_r o0), none, some (vm_r o2), none, none, none, none, some (vm_i v7), some (vm_i v8), none, none, none]) ⟨rfl, ⟨rfl, ⟨rfl, ⟨rfl, trivial⟩⟩⟩⟩ h
set_option maxHeartbeats 4000000 in
theorem rL_bests_261 {S : lwS} {Qp : Option vm_V → lwS → Prop} {o0 : Nat} {o2 : Nat} {v7 : Int} {v8 : Int} {v10 : Int} {v11 : Int} {x0 : Int} (h : (x0 = 0 → (lG lK_bests 301 [some (vm_r o0), none, some (vm_r o2), none, none, none, none, some (vm_i v7), some (vm_i v8), none, none, none] [vm_i 0] S Qp)) ∧ (¬ (x0 = 0) → ((v11 = ((-2)) → (lG lK_bests 282 [some (vm_r o0), none, some (vm_r o2), none, none, none, none, some (vm_i v7), some (vm_i v8), none, some (vm_i v10), none] [] S Qp)) ∧ (¬ (v11 = ((-2))) → (lNn 113 o0 [] S (fun z2 S1 => (z2 < 0 → (lG lK_bests 301 [some (vm_r o0), none, some (vm_r o2), none, none, none, none, some (vm_i v7), some (vm_i v8), none, none, none] [vm_i 0] S1 Qp)) ∧ (¬ (z2 < 0) → (lG lK_bests 282 [some (vm_r o0), none, some (vm_r o2), none, none, none, none, some (vm_i v7), some (vm_i v8), none, some (vm_i v10), none] [] S1 Qp)))))))) : lG lK_bests 261 [some (vm_r o0), none, some (vm_r o2), none, none, none, none, some (vm_i v7), some (vm_i v8), none, some (vm_i v10), some (vm_i v11)] [vm_i x0] S Qp := by
  refine lg_istore (k := 9) (l1 := [some (vm_r o0), none, some (vm_r o2), none, none, none, none, some (vm_i v7), some (vm_i v8), some (vm_i x0), some (vm_i v10), some (vm_i v11)]) rfl rfl (by decide +kernel : decode method_14_code 261 = .ok (.istore 9, 2)) ?_
  refine lg_iload (k := 9) rfl (by decide +kernel : decode method_14_code 263 = .ok (.iload 9, 2)) ?_
  refine lg_if_eq (t := 300) (by decide +kernel : decode method_14_code 265 = .ok (.ifCond .eq 35, 3)) (by decide) ⟨fun c => ?_, fun c => ?_⟩
  · replace h := h.1 c
    refine lg_iconst (n := 0) (by decide) (by decide +kernel : decode method_14_code 300 = .ok (.iconst 0, 1)) ?_
    exact lg_sub (ls := [some (vm_r o0), none, some (vm_r o2), none, none, none, none, some (vm_i v7), some (vm_i v8), none, none, none]) ⟨rfl, ⟨rfl, ⟨rfl, ⟨rfl, trivial⟩⟩⟩⟩ h
  · replace h := h.2 c
    refine lg_iload (k := 11) rfl (by decide +kernel : decode method_14_code 268 = .ok (.iload 11, 2)) ?_
    refine lg_bipush (n := (-2)) (by decide) (by decide) (by decide +kernel : decode method_14_code 270 = .ok (.bipush (-2), 2)) ?_
    refine lg_icmp_eq (t := 282) (by decide +kernel : decode method_14_code 272 = .ok (.if_icmp .eq 10, 3)) (by decide) ⟨fun c => ?_, fun c => ?_⟩
    · replace h := h.1 c
      exact lg_sub (ls := [some (vm_r o0), none, some (vm_r o2), none, none, none, none, some (vm_i v7), some (vm_i v8), none, some (vm_i v10), none]) ⟨rfl, ⟨rfl, ⟨rfl, ⟨rfl, ⟨rfl, trivial⟩⟩⟩⟩⟩ h
    · replace h := h.2 c
      refine lg_aload_n (k := 0) rfl rfl (by decide +kernel : decode method_14_code 275 = .ok (.aload_n 0, 1)) ?_
      refine lg_N 113 [] (show lCls 113 0 = true by decide +kernel) (Nat.le_of_ble_eq_true rfl) (vm_hw_in (i := 1109) (by decide +kernel)) (by decide +kernel : decode method_14_code 276 = .ok (.invokevirtual 168, 3)) h (fun z2 S1 h => ?_)
      refine lg_if_lt (t := 300) (by decide +kernel : decode method_14_code 279 = .ok (.ifCond .lt 21, 3)) (by decide) ⟨fun c => ?_, fun c => ?_⟩
      · replace h := h.1 c
        refine lg_iconst (n := 0) (by decide) (by decide +kernel : decode method_14_code 300 = .ok (.iconst 0, 1)) ?_
        exact lg_sub (ls := [some (vm_r o0), none, some (vm_r o2), none, none, none, none, some (vm_i v7), some (vm_i v8), none, none, none]) ⟨rfl, ⟨rfl, ⟨rfl, ⟨rfl, trivial⟩⟩⟩⟩ h
      · replace h := h.2 c
        exact lg_sub (ls := [some (vm_r o0), none, some (vm_r o2), none, none, none, none, some (vm_i v7), some (vm_i v8), none, some (vm_i v10), none]) ⟨rfl, ⟨rfl, ⟨rfl, ⟨rfl, ⟨rfl, trivial⟩⟩⟩⟩⟩ h
set_option maxHeartbeats 4000000 in
theorem rL_bests_202 {S : lwS} {Qp : Option vm_V → lwS → Prop} {o0 : Nat} {o2 : Nat} {v4 : Int} {v5 : Int} {v6 : Int} {v7 : Int} {v8 : Int} {v10 : Int} {x0 : Int} (h : (vm_32 (v10 + (-1))) ∧ (lG lK_bests 138 [some (vm_r o0), none, some (vm_r o2), none, some (vm_i v4), some (vm_i v5), some (vm_i v6), some (vm_i v7), some (vm_i v8), some (vm_i x0), some (vm_i ((v10 + (-1)))), none] [] S Qp)) : lG lK_bests 202 [some (vm_r o0), none, some (vm_r o2), none, some (vm_i v4), some (vm_i v5), some (vm_i v6), some (vm_i v7), some (vm_i v8), none, some (vm_i v10), none] [vm_i x0] S Qp := by
  refine lg_istore (k := 9) (l1 := [some (vm_r o0), none, some (vm_r o2), none, some (vm_i v4), some (vm_i v5), some (vm_i v6), some (vm_i v7), some (vm_i v8), some (vm_i x0), some (vm_i v10), none]) rfl rfl (by decide +kernel : decode method_14_code 202 = .ok (.istore 9, 2)) ?_
  obtain ⟨h1, h⟩ := h
  refine lg_iinc (k := 10) (l1 := [some (vm_r o0), none, some (vm_r o2), none, some (vm_i v4), some (vm_i v5), some (vm_i v6), some (vm_i v7), some (vm_i v8), some (vm_i x0), some (vm_i ((v10 + (-1)))), none]) rfl rfl rfl h1 (by decide +kernel : decode method_14_code 204 = .ok (.iinc 10 (-1), 3)) ?_
  refine lg_goto (t := 138) (by decide +kernel : decode method_14_code 207 = .ok (.goto (-69), 3)) (by decide) ?_
  exact h
set_option maxHeartbeats 4000000 in
theorem rL_bests_395 {S : lwS} {Qp : Option vm_V → lwS → Prop} {o0 : Nat} {o2 : Nat} {v7 : Int} {v8 : Int} {v9 : Int} (h : lG lK_bests 398 [some (vm_r o0), none, some (vm_r o2), none, none, none, none, some (vm_i v7), some (vm_i v8), some (vm_i v9), some (vm_i 0), none] [] S Qp) : lG lK_bests 395 [some (vm_r o0), none, some (vm_r o2), none, none, none, none, some (vm_i v7), some (vm_i v8), some (vm_i v9), none, none] [] S Qp := by
  refine lg_iconst (n := 0) (by decide) (by decide +kernel : decode method_14_code 395 = .ok (.iconst 0, 1)) ?_
  refine lg_istore (k := 10) (l1 := [some (vm_r o0), none, some (vm_r o2), none, none, none, none, some (vm_i v7), some (vm_i v8), some (vm_i v9), some (vm_i 0), none]) rfl rfl (by decide +kernel : decode method_14_code 396 = .ok (.istore 10, 2)) ?_
  exact h
set_option maxHeartbeats 4000000 in
theorem rL_bests_393 {S : lwS} {Qp : Option vm_V → lwS → Prop} {o0 : Nat} {o2 : Nat} {v7 : Int} {v8 : Int} {x0 : Int} (h : lG lK_bests 395 [some (vm_r o0), none, some (vm_r o2), none, none, none, none, some (vm_i v7), some (vm_i v8), some (vm_i x0), none, none] [] S Qp) : lG lK_bests 393 [some (vm_r o0), none, some (vm_r o2), none, none, none, none, some (vm_i v7), some (vm_i v8), none, none, none] [vm_i x0] S Qp := by
  refine lg_istore (k := 9) (l1 := [some (vm_r o0), none, some (vm_r o2), none, none, none, none, some (vm_i v7), some (vm_i v8), some (vm_i x0), none, none]) rfl rfl (by decide +kernel : decode method_14_code 393 = .ok (.istore 9, 2)) ?_
  exact h
set_option maxHeartbeats 4000000 in
theorem rL_bests_301 {S : lwS} {Qp : Option vm_V → lwS → Prop} {o0 : Nat} {o2 : Nat} {v7 : Int} {v8 : Int} {x0 : Int} (h : lG lK_bests 303 [some (vm_r o0), none, some (vm_r o2), none, none, none, none, some (vm_i v7), some (vm_i v8), some (vm_i x0), none, none] [] S Qp) : lG lK_bests 301 [some (vm_r o0), none, some (vm_r o2), none, none, none, none, some (vm_i v7), some (vm_i v8), none, none, none] [vm_i x0] S Qp := by
  refine lg_istore (k := 9) (l1 := [some (vm_r o0), none, some (vm_r o2), none, none, none, none, some (vm_i v7), some (vm_i v8), some (vm_i x0), none, none]) rfl rfl (by decide +kernel : decode method_14_code 301 = .ok (.istore 9, 2)) ?_
  exact h
set_option maxHeartbeats 4000000 in
theorem rL_bests_282 {S : lwS} {Qp : Option vm_V → lwS → Prop} {o0 : Nat} {o2 : Nat} {v7 : Int} {v8 : Int} {v10 : Int} (h : (v10 = ((-2)) → (lG lK_bests 301 [some (vm_r o0), none, some (vm_r o2), none, none, none, none, some (vm_i v7), some (vm_i v8), none, none, none] [vm_i 1] S Qp)) ∧ (¬ (v10 = ((-2))) → (lNn 113 o0 [] S (fun z2 S1 => (z2 < 0 → (lG lK_bests 301 [some (vm_r o0), none, some (vm_r o2), none, none, none, none, some (vm_i v7), some (vm_i v8), none, none, none] [vm_i 0] S1 Qp)) ∧ (¬ (z2 < 0) → (lG lK_bests 301 [some (vm_r o0), none, some (vm_r o2), none, none, none, none, some (vm_i v7), some (vm_i v8), none, none, none] [vm_i 1] S1 Qp)))))) : lG lK_bests 282 [some (vm_r o0), none, some (vm_r o2), none, none, none, none, some (vm_i v7), some (vm_i v8), none, some (vm_i v10), none] [] S Qp := by
  refine lg_iload (k := 10) rfl (by decide +kernel : decode method_14_code 282 = .ok (.iload 10, 2)) ?_
  refine lg_bipush (n := (-2)) (by decide) (by decide) (by decide +kernel : decode method_14_code 284 = .ok (.bipush (-2), 2)) ?_
  refine lg_icmp_eq (t := 296) (by decide +kernel : decode method_14_code 286 = .ok (.if_icmp .eq 10, 3)) (by decide) ⟨fun c => ?_, fun c => ?_⟩
  · replace h := h.1 c
    refine lg_iconst (n := 1) (by decide) (by decide +kernel : decode method_14_code 296 = .ok (.iconst 1, 1)) ?_
    refine lg_goto (t := 301) (by decide +kernel : decode method_14_code 297 = .ok (.goto 4, 3)) (by decide) ?_
    exact lg_sub (ls := [some (vm_r o0), none, some (vm_r o2), none, none, none, none, some (vm_i v7), some (vm_i v8), none, none, none]) ⟨rfl, ⟨rfl, ⟨rfl, ⟨rfl, trivial⟩⟩⟩⟩ h
  · replace h := h.2 c
    refine lg_aload_n (k := 0) rfl rfl (by decide +kernel : decode method_14_code 289 = .ok (.aload_n 0, 1)) ?_
    refine lg_N 113 [] (show lCls 113 0 = true by decide +kernel) (Nat.le_of_ble_eq_true rfl) (vm_hw_in (i := 1109) (by decide +kernel)) (by decide +kernel : decode method_14_code 290 = .ok (.invokevirtual 168, 3)) h (fun z2 S1 h => ?_)
    refine lg_if_lt (t := 300) (by decide +kernel : decode method_14_code 293 = .ok (.ifCond .lt 7, 3)) (by decide) ⟨fun c => ?_, fun c => ?_⟩
    · replace h := h.1 c
      refine lg_iconst (n := 0) (by decide) (by decide +kernel : decode method_14_code 300 = .ok (.iconst 0, 1)) ?_
      exact lg_sub (ls := [some (vm_r o0), none, some (vm_r o2), none, none, none, none, some (vm_i v7), some (vm_i v8), none, none, none]) ⟨rfl, ⟨rfl, ⟨rfl, ⟨rfl, trivial⟩⟩⟩⟩ h
    · replace h := h.2 c
      refine lg_iconst (n := 1) (by decide) (by decide +kernel : decode method_14_code 296 = .ok (.iconst 1, 1)) ?_
      refine lg_goto (t := 301) (by decide +kernel : decode method_14_code 297 = .ok (.goto 4, 3)) (by decide) ?_
      exact lg_sub (ls := [some (vm_r o0), none, some (vm_r o2), none, none, none, none, some (vm_i v7), some (vm_i v8), none, none, none]) ⟨rfl, ⟨rfl, ⟨rfl, ⟨rfl, trivial⟩⟩⟩⟩ h
set_option maxHeartbeats 4000000 in
theorem rL_bests_398 {S : lwS} {Qp : Option vm_V → lwS → Prop} {o0 : Nat} {o2 : Nat} {v7 : Int} {v8 : Int} {v9 : Int} {v10 : Int} (h : (vm_32 (v10 + 1)) ∧ (lNn 115 o0 [11] S (fun z2 S1 => (z2 ≤ ((v10 + 1)) → (lG lK_bests 554 [some (vm_r o0), none, some (vm_r o2), none, none, none, none, none, none, some (vm_i v9), none, none] [] S1 Qp)) ∧ (¬ (z2 ≤ ((v10 + 1))) → ((v9 = 0 → (lG lK_bests 554 [some (vm_r o0), none, some (vm_r o2), none, none, none, none, none, none, some (vm_i v9), none, none] [] S1 Qp)) ∧ (¬ (v9 = 0) → ((v8 < 0 → (lG lK_bests 554 [some (vm_r o0), none, some (vm_r o2), none, none, none, none, none, none, some (vm_i v9), none, none] [] S1 Qp)) ∧ (¬ (v8 < 0) → ((vm_32 (v10 + 1)) ∧ (lNn 110 o0 [v10, (v10 + 1)] S1 (fun z4 S3 => (z4 < 0 → (lG lK_bests 439 [some (vm_r o0), none, some (vm_r o2), none, none, none, none, some (vm_i v7), some (vm_i v8), none, some (vm_i v10), none] [vm_i 0] S3 Qp)) ∧ (¬ (z4 < 0) → (lG lK_bests 439 [some (vm_r o0), none, some (vm_r o2), none, none, none, none, some (vm_i v7), some (vm_i v8), none, some (vm_i v10), none] [vm_i 1] S3 Qp))))))))))))) : lG lK_bests 398 [some (vm_r o0), none, some (vm_r o2), none, none, none, none, some (vm_i v7), some (vm_i v8), some (vm_i v9), some (vm_i v10), none] [] S Qp := by
  refine lg_iload (k := 10) rfl (by decide +kernel : decode method_14_code 398 = .ok (.iload 10, 2)) ?_
  refine lg_iconst (n := 1) (by decide) (by decide +kernel : decode method_14_code 400 = .ok (.iconst 1, 1)) ?_
  obtain ⟨h1, h⟩ := h
  refine lg_iadd h1 (by decide +kernel : decode method_14_code 401 = .ok (.iadd, 1)) ?_
  refine lg_aload_n (k := 0) rfl rfl (by decide +kernel : decode method_14_code 402 = .ok (.aload_n 0, 1)) ?_
  refine lg_bipush (n := 11) (by decide) (by decide) (by decide +kernel : decode method_14_code 403 = .ok (.bipush 11, 2)) ?_
  refine lg_N 115 [11] (show lCls 115 1 = true by decide +kernel) (Nat.le_of_ble_eq_true rfl) (vm_hw_in (i := 604) (by decide +kernel)) (by decide +kernel : decode method_14_code 405 = .ok (.invokevirtual 40, 3)) h (fun z2 S1 h => ?_)
  refine lg_icmp_ge (t := 554) (by decide +kernel : decode method_14_code 408 = .ok (.if_icmp .ge 146, 3)) (by decide) ⟨fun c => ?_, fun c => ?_⟩
  · replace h := h.1 c
    exact lg_sub (ls := [some (vm_r o0), none, some (vm_r o2), none, none, none, none, none, none, some (vm_i v9), none, none]) ⟨rfl, ⟨rfl, ⟨rfl, trivial⟩⟩⟩ h
  · replace h := h.2 c
    refine lg_iload (k := 9) rfl (by decide +kernel : decode method_14_code 411 = .ok (.iload 9, 2)) ?_
    refine lg_if_eq (t := 554) (by decide +kernel : decode method_14_code 413 = .ok (.ifCond .eq 141, 3)) (by decide) ⟨fun c => ?_, fun c => ?_⟩
    · replace h := h.1 c
      exact lg_sub (ls := [some (vm_r o0), none, some (vm_r o2), none, none, none, none, none, none, some (vm_i v9), none, none]) ⟨rfl, ⟨rfl, ⟨rfl, trivial⟩⟩⟩ h
    · replace h := h.2 c
      refine lg_iload (k := 8) rfl (by decide +kernel : decode method_14_code 416 = .ok (.iload 8, 2)) ?_
      refine lg_if_lt (t := 554) (by decide +kernel : decode method_14_code 418 = .ok (.ifCond .lt 136, 3)) (by decide) ⟨fun c => ?_, fun c => ?_⟩
      · replace h := h.1 c
        exact lg_sub (ls := [some (vm_r o0), none, some (vm_r o2), none, none, none, none, none, none, some (vm_i v9), none, none]) ⟨rfl, ⟨rfl, ⟨rfl, trivial⟩⟩⟩ h
      · replace h := h.2 c
        refine lg_aload_n (k := 0) rfl rfl (by decide +kernel : decode method_14_code 421 = .ok (.aload_n 0, 1)) ?_
        refine lg_iload (k := 10) rfl (by decide +kernel : decode method_14_code 422 = .ok (.iload 10, 2)) ?_
        refine lg_iload (k := 10) rfl (by decide +kernel : decode method_14_code 424 = .ok (.iload 10, 2)) ?_
        refine lg_iconst (n := 1) (by decide) (by decide +kernel : decode method_14_code 426 = .ok (.iconst 1, 1)) ?_
        obtain ⟨h1, h⟩ := h
        refine lg_iadd h1 (by decide +kernel : decode method_14_code 427 = .ok (.iadd, 1)) ?_
        refine lg_N 110 [v10, (v10 + 1)] (show lCls 110 2 = true by decide +kernel) (Nat.le_of_ble_eq_true rfl) (vm_hw_in (i := 1061) (by decide +kernel)) (by decide +kernel : decode method_14_code 428 = .ok (.invokevirtual 144, 3)) h (fun z4 S3 h => ?_)
        refine lg_if_lt (t := 438) (by decide +kernel : decode method_14_code 431 = .ok (.ifCond .lt 7, 3)) (by decide) ⟨fun c => ?_, fun c => ?_⟩
        · replace h := h.1 c
          refine lg_iconst (n := 0) (by decide) (by decide +kernel : decode method_14_code 438 = .ok (.iconst 0, 1)) ?_
          exact lg_sub (ls := [some (vm_r o0), none, some (vm_r o2), none, none, none, none, some (vm_i v7), some (vm_i v8), none, some (vm_i v10), none]) ⟨rfl, ⟨rfl, ⟨rfl, ⟨rfl, ⟨rfl, trivial⟩⟩⟩⟩⟩ h
        · replace h := h.2 c
          refine lg_iconst (n := 1) (by decide) (by decide +kernel : decode method_14_code 434 = .ok (.iconst 1, 1)) ?_
          refine lg_goto (t := 439) (by decide +kernel : decode method_14_code 435 = .ok (.goto 4, 3)) (by decide) ?_
          exact lg_sub (ls := [some (vm_r o0), none, some (vm_r o2), none, none, none, none, some (vm_i v7), some (vm_i v8), none, some (vm_i v10), none]) ⟨rfl, ⟨rfl, ⟨rfl, ⟨rfl, ⟨rfl, trivial⟩⟩⟩⟩⟩ h
set_option maxHeartbeats 4000000 in
theorem rL_bests_554 {S : lwS} {Qp : Option vm_V → lwS → Prop} {o0 : Nat} {o2 : Nat} {v9 : Int} (h : (v9 = 0 → (Qp (some (vm_i 0)) S)) ∧ (¬ (v9 = 0) → (lCr lK_told [vm_r o0] S (fun r2 S1 => lEq r2 o2 S1 (Qp (some (vm_i 1)) S1))))) : lG lK_bests 554 [some (vm_r o0), none, some (vm_r o2), none, none, none, none, none, none, some (vm_i v9), none, none] [] S Qp := by
  refine lg_iload (k := 9) rfl (by decide +kernel : decode method_14_code 554 = .ok (.iload 9, 2)) ?_
  refine lg_if_eq (t := 574) (by decide +kernel : decode method_14_code 556 = .ok (.ifCond .eq 18, 3)) (by decide) ⟨fun c => ?_, fun c => ?_⟩
  · replace h := h.1 c
    refine lg_iconst (n := 0) (by decide) (by decide +kernel : decode method_14_code 574 = .ok (.iconst 0, 1)) ?_
    exact lg_ret (Or.inl ⟨0, (by decide +kernel : decode method_14_code 575 = .ok (.ireturn, 1)), Or.inr ⟨rfl, by decide⟩, rfl, rfl⟩) h
  · replace h := h.2 c
    refine lg_aload_n (k := 0) rfl rfl (by decide +kernel : decode method_14_code 559 = .ok (.aload_n 0, 1)) ?_
    refine lg_Cr [vm_r o0] lOK_told rfl (show 2 < 3 by decide) (vm_hw_in (i := 1246) (by decide +kernel)) (by decide +kernel : decode method_14_code 560 = .ok (.invokestatic 225, 3)) (Nat.le_of_ble_eq_true rfl) (Nat.le_of_ble_eq_true rfl) h (fun r2 S1 h => ?_)
    refine lg_aload_n (k := 2) rfl rfl (by decide +kernel : decode method_14_code 563 = .ok (.aload_n 2, 1)) ?_
    refine lg_Eq (vm_hw_in (i := 1366) (by decide +kernel)) (by decide +kernel : decode method_14_code 564 = .ok (.invokevirtual 241, 3)) (Nat.le_of_ble_eq_true rfl) h (fun h => ?_)
    refine lg_if_eq (t := 574) (by decide +kernel : decode method_14_code 567 = .ok (.ifCond .eq 7, 3)) (by decide) ⟨fun c => absurd c (by decide), fun c => ?_⟩
    refine lg_iconst (n := 1) (by decide) (by decide +kernel : decode method_14_code 570 = .ok (.iconst 1, 1)) ?_
    refine lg_goto (t := 575) (by decide +kernel : decode method_14_code 571 = .ok (.goto 4, 3)) (by decide) ?_
    exact lg_ret (Or.inl ⟨1, (by decide +kernel : decode method_14_code 575 = .ok (.ireturn, 1)), Or.inr ⟨rfl, by decide⟩, rfl, rfl⟩) h
set_option maxHeartbeats 4000000 in
theorem rL_bests_439 {S : lwS} {Qp : Option vm_V → lwS → Prop} {o0 : Nat} {o2 : Nat} {v7 : Int} {v8 : Int} {v10 : Int} {x0 : Int} (h : lNn 143 o0 [] S (fun z2 S1 => (x0 = 0 → (lG lK_bests 464 [some (vm_r o0), none, some (vm_r o2), none, none, none, none, some (vm_i v7), some (vm_i v8), none, some (vm_i v10), some (vm_i z2)] [vm_i 0] S1 Qp)) ∧ (¬ (x0 = 0) → (lNn 113 o0 [] S1 (fun z4 S3 => (z4 < 0 → (lG lK_bests 464 [some (vm_r o0), none, some (vm_r o2), none, none, none, none, some (vm_i v7), some (vm_i v8), none, some (vm_i v10), some (vm_i z2)] [vm_i 0] S3 Qp)) ∧ (¬ (z4 < 0) → (lG lK_bests 464 [some (vm_r o0), none, some (vm_r o2), none, none, none, none, some (vm_i v7), some (vm_i v8), none, some (vm_i v10), some (vm_i z2)] [vm_i 1] S3 Qp))))))) : lG lK_bests 439 [some (vm_r o0), none, some (vm_r o2), none, none, none, none, some (vm_i v7), some (vm_i v8), none, some (vm_i v10), none] [vm_i x0] S Qp := by
  refine lg_istore (k := 9) (l1 := [some (vm_r o0), none, some (vm_r o2), none, none, none, none, some (vm_i v7), some (vm_i v8), some (vm_i x0), some (vm_i v10), none]) rfl rfl (by decide +kernel : decode method_14_code 439 = .ok (.istore 9, 2)) ?_
  refine lg_aload_n (k := 0) rfl rfl (by decide +kernel : decode method_14_code 441 = .ok (.aload_n 0, 1)) ?_
  refine lg_N 143 [] (show lCls 143 0 = true by decide +kernel) (Nat.le_of_ble_eq_true rfl) (vm_hw_in (i := 1222) (by decide +kernel)) (by decide +kernel : decode method_14_code 442 = .ok (.invokevirtual 206, 3)) h (fun z2 S1 h => ?_)
  refine lg_istore (k := 11) (l1 := [some (vm_r o0), none, some (vm_r o2), none, none, none, none, some (vm_i v7), some (vm_i v8), some (vm_i x0), some (vm_i v10), some (vm_i z2)]) rfl rfl (by decide +kernel : decode method_14_code 445 = .ok (.istore 11, 2)) ?_
  refine lg_iload (k := 9) rfl (by decide +kernel : decode method_14_code 447 = .ok (.iload 9, 2)) ?_
  refine lg_if_eq (t := 463) (by decide +kernel : decode method_14_code 449 = .ok (.ifCond .eq 14, 3)) (by decide) ⟨fun c => ?_, fun c => ?_⟩
  · replace h := h.1 c
    refine lg_iconst (n := 0) (by decide) (by decide +kernel : decode method_14_code 463 = .ok (.iconst 0, 1)) ?_
    exact lg_sub (ls := [some (vm_r o0), none, some (vm_r o2), none, none, none, none, some (vm_i v7), some (vm_i v8), none, some (vm_i v10), some (vm_i z2)]) ⟨rfl, ⟨rfl, ⟨rfl, ⟨rfl, ⟨rfl, ⟨rfl, trivial⟩⟩⟩⟩⟩⟩ h
  · replace h := h.2 c
    refine lg_aload_n (k := 0) rfl rfl (by decide +kernel : decode method_14_code 452 = .ok (.aload_n 0, 1)) ?_
    refine lg_N 113 [] (show lCls 113 0 = true by decide +kernel) (Nat.le_of_ble_eq_true rfl) (vm_hw_in (i := 1109) (by decide +kernel)) (by decide +kernel : decode method_14_code 453 = .ok (.invokevirtual 168, 3)) h (fun z4 S3 h => ?_)
    refine lg_if_lt (t := 463) (by decide +kernel : decode method_14_code 456 = .ok (.ifCond .lt 7, 3)) (by decide) ⟨fun c => ?_, fun c => ?_⟩
    · replace h := h.1 c
      refine lg_iconst (n := 0) (by decide) (by decide +kernel : decode method_14_code 463 = .ok (.iconst 0, 1)) ?_
      exact lg_sub (ls := [some (vm_r o0), none, some (vm_r o2), none, none, none, none, some (vm_i v7), some (vm_i v8), none, some (vm_i v10), some (vm_i z2)]) ⟨rfl, ⟨rfl, ⟨rfl, ⟨rfl, ⟨rfl, ⟨rfl, trivial⟩⟩⟩⟩⟩⟩ h
    · replace h := h.2 c
      refine lg_iconst (n := 1) (by decide) (by decide +kernel : decode method_14_code 459 = .ok (.iconst 1, 1)) ?_
      refine lg_goto (t := 464) (by decide +kernel : decode method_14_code 460 = .ok (.goto 4, 3)) (by decide) ?_
      exact lg_sub (ls := [some (vm_r o0), none, some (vm_r o2), none, none, none, none, some (vm_i v7), some (vm_i v8), none, some (vm_i v10), some (vm_i z2)]) ⟨rfl, ⟨rfl, ⟨rfl, ⟨rfl, ⟨rfl, ⟨rfl, trivial⟩⟩⟩⟩⟩⟩ h
set_option maxHeartbeats 4000000 in
theorem rL_bests_464 {S : lwS} {Qp : Option vm_V → lwS → Prop} {o0 : Nat} {o2 : Nat} {v7 : Int} {v8 : Int} {v10 : Int} {v11 : Int} {x0 : Int} (h : (v7 < 0 → (lG lK_bests 524 [some (vm_r o0), none, some (vm_r o2), none, none, none, none, some (vm_i v7), some (vm_i v8), some (vm_i x0), some (vm_i v10), some (vm_i v11)] [] S Qp)) ∧ (¬ (v7 < 0) → ((x0 = 0 → (lG lK_bests 524 [some (vm_r o0), none, some (vm_r o2), none, none, none, none, some (vm_i v7), some (vm_i v8), some (vm_i x0), some (vm_i v10), some (vm_i v11)] [] S Qp)) ∧ (¬ (x0 = 0) → (((0 : Int) ≤ v7 ∧ (0 : Int) < 100) ∧ (((0 : Int) ≤ v7 ∧ (0 : Int) < 100) ∧ (lNn 110 o0 [(v7 / 100), (v7 % 100)] S (fun z2 S1 => (z2 < 0 → (lG lK_bests 519 [some (vm_r o0), none, some (vm_r o2), none, none, none, none, some (vm_i v7), some (vm_i v8), none, some (vm_i v10), none] [vm_i 0] S1 Qp)) ∧ (¬ (z2 < 0) → ((v11 < 0 → (lG lK_bests 507 [some (vm_r o0), none, some (vm_r o2), none, none, none, none, some (vm_i v7), some (vm_i v8), none, some (vm_i v10), none] [] S1 Qp)) ∧ (¬ (v11 < 0) → (lNn 143 o0 [] S1 (fun z4 S3 => (v11 < z4 → (lG lK_bests 519 [some (vm_r o0), none, some (vm_r o2), none, none, none, none, some (vm_i v7), some (vm_i v8), none, some (vm_i v10), none] [vm_i 0] S3 Qp)) ∧ (¬ (v11 < z4) → (lG lK_bests 507 [some (vm_r o0), none, some (vm_r o2), none, none, none, none, some (vm_i v7), some (vm_i v8), none, some (vm_i v10), none] [] S3 Qp))))))))))))))) : lG lK_bests 464 [some (vm_r o0), none, some (vm_r o2), none, none, none, none, some (vm_i v7), some (vm_i v8), none, some (vm_i v10), some (vm_i v11)] [vm_i x0] S Qp := by
  refine lg_istore (k := 9) (l1 := [some (vm_r o0), none, some (vm_r o2), none, none, none, none, some (vm_i v7), some (vm_i v8), some (vm_i x0), some (vm_i v10), some (vm_i v11)]) rfl rfl (by decide +kernel : decode method_14_code 464 = .ok (.istore 9, 2)) ?_
  refine lg_iload (k := 7) rfl (by decide +kernel : decode method_14_code 466 = .ok (.iload 7, 2)) ?_
  refine lg_if_lt (t := 524) (by decide +kernel : decode method_14_code 468 = .ok (.ifCond .lt 56, 3)) (by decide) ⟨fun c => ?_, fun c => ?_⟩
  · replace h := h.1 c
    exact h
  · replace h := h.2 c
    refine lg_iload (k := 9) rfl (by decide +kernel : decode method_14_code 471 = .ok (.iload 9, 2)) ?_
    refine lg_if_eq (t := 524) (by decide +kernel : decode method_14_code 473 = .ok (.ifCond .eq 51, 3)) (by decide) ⟨fun c => ?_, fun c => ?_⟩
    · replace h := h.1 c
      exact h
    · replace h := h.2 c
      refine lg_aload_n (k := 0) rfl rfl (by decide +kernel : decode method_14_code 476 = .ok (.aload_n 0, 1)) ?_
      refine lg_iload (k := 7) rfl (by decide +kernel : decode method_14_code 477 = .ok (.iload 7, 2)) ?_
      refine lg_bipush (n := 100) (by decide) (by decide) (by decide +kernel : decode method_14_code 479 = .ok (.bipush 100, 2)) ?_
      obtain ⟨h1, h⟩ := h
      refine lg_idiv h1 (by decide +kernel : decode method_14_code 481 = .ok (.idiv, 1)) ?_
      refine lg_iload (k := 7) rfl (by decide +kernel : decode method_14_code 482 = .ok (.iload 7, 2)) ?_
      refine lg_bipush (n := 100) (by decide) (by decide) (by decide +kernel : decode method_14_code 484 = .ok (.bipush 100, 2)) ?_
      obtain ⟨h1, h⟩ := h
      refine lg_irem h1 (by decide +kernel : decode method_14_code 486 = .ok (.irem, 1)) ?_
      refine lg_N 110 [(v7 / 100), (v7 % 100)] (show lCls 110 2 = true by decide +kernel) (Nat.le_of_ble_eq_true rfl) (vm_hw_in (i := 1061) (by decide +kernel)) (by decide +kernel : decode method_14_code 487 = .ok (.invokevirtual 144, 3)) h (fun z2 S1 h => ?_)
      refine lg_if_lt (t := 518) (by decide +kernel : decode method_14_code 490 = .ok (.ifCond .lt 28, 3)) (by decide) ⟨fun c => ?_, fun c => ?_⟩
      · replace h := h.1 c
        refine lg_iconst (n := 0) (by decide) (by decide +kernel : decode method_14_code 518 = .ok (.iconst 0, 1)) ?_
        exact lg_sub (ls := [some (vm_r o0), none, some (vm_r o2), none, none, none, none, some (vm_i v7), some (vm_i v8), none, some (vm_i v10), none]) ⟨rfl, ⟨rfl, ⟨rfl, ⟨rfl, ⟨rfl, trivial⟩⟩⟩⟩⟩ h
      · replace h := h.2 c
        refine lg_iload (k := 11) rfl (by decide +kernel : decode method_14_code 493 = .ok (.iload 11, 2)) ?_
        refine lg_if_lt (t := 507) (by decide +kernel : decode method_14_code 495 = .ok (.ifCond .lt 12, 3)) (by decide) ⟨fun c => ?_, fun c => ?_⟩
        · replace h := h.1 c
          exact lg_sub (ls := [some (vm_r o0), none, some (vm_r o2), none, none, none, none, some (vm_i v7), some (vm_i v8), none, some (vm_i v10), none]) ⟨rfl, ⟨rfl, ⟨rfl, ⟨rfl, ⟨rfl, trivial⟩⟩⟩⟩⟩ h
        · replace h := h.2 c
          refine lg_iload (k := 11) rfl (by decide +kernel : decode method_14_code 498 = .ok (.iload 11, 2)) ?_
          refine lg_aload_n (k := 0) rfl rfl (by decide +kernel : decode method_14_code 500 = .ok (.aload_n 0, 1)) ?_
          refine lg_N 143 [] (show lCls 143 0 = true by decide +kernel) (Nat.le_of_ble_eq_true rfl) (vm_hw_in (i := 1222) (by decide +kernel)) (by decide +kernel : decode method_14_code 501 = .ok (.invokevirtual 206, 3)) h (fun z4 S3 h => ?_)
          refine lg_icmp_lt (t := 518) (by decide +kernel : decode method_14_code 504 = .ok (.if_icmp .lt 14, 3)) (by decide) ⟨fun c => ?_, fun c => ?_⟩
          · replace h := h.1 c
            refine lg_iconst (n := 0) (by decide) (by decide +kernel : decode method_14_code 518 = .ok (.iconst 0, 1)) ?_
            exact lg_sub (ls := [some (vm_r o0), none, some (vm_r o2), none, none, none, none, some (vm_i v7), some (vm_i v8), none, some (vm_i v10), none]) ⟨rfl, ⟨rfl, ⟨rfl, ⟨rfl, ⟨rfl, trivial⟩⟩⟩⟩⟩ h
          · replace h := h.2 c
            exact lg_sub (ls := [some (vm_r o0), none, some (vm_r o2), none, none, none, none, some (vm_i v7), some (vm_i v8), none, some (vm_i v10), none]) ⟨rfl, ⟨rfl, ⟨rfl, ⟨rfl, ⟨rfl, trivial⟩⟩⟩⟩⟩ h
set_option maxHeartbeats 4000000 in
theorem rL_bests_524 {S : lwS} {Qp : Option vm_V → lwS → Prop} {o0 : Nat} {o2 : Nat} {v7 : Int} {v8 : Int} {v9 : Int} {v10 : Int} {v11 : Int} (h : (v9 = 0 → (lG lK_bests 546 [some (vm_r o0), none, some (vm_r o2), none, none, none, none, some (vm_i v7), some (vm_i v8), none, some (vm_i v10), none] [vm_i 0] S Qp)) ∧ (¬ (v9 = 0) → ((v11 < 0 → (lG lK_bests 546 [some (vm_r o0), none, some (vm_r o2), none, none, none, none, some (vm_i v7), some (vm_i v8), none, some (vm_i v10), none] [vm_i 1] S Qp)) ∧ (¬ (v11 < 0) → ((v11 < v8 → (lG lK_bests 546 [some (vm_r o0), none, some (vm_r o2), none, none, none, none, some (vm_i v7), some (vm_i v8), none, some (vm_i v10), none] [vm_i 0] S Qp)) ∧ (¬ (v11 < v8) → (lG lK_bests 546 [some (vm_r o0), none, some (vm_r o2), none, none, none, none, some (vm_i v7), some (vm_i v8), none, some (vm_i v10), none] [vm_i 1] S Qp))))))) : lG lK_bests 524 [some (vm_r o0), none, some (vm_r o2), none, none, none, none, some (vm_i v7), some (vm_i v8), some (vm_i v9), some (vm_i v10), some (vm_i v11)] [] S Qp := by
  refine lg_iload (k := 9) rfl (by decide +kernel : decode method_14_code 524 = .ok (.iload 9, 2)) ?_
  refine lg_if_eq (t := 545) (by decide +kernel : decode method_14_code 526 = .ok (.ifCond .eq 19, 3)) (by decide) ⟨fun c => ?_, fun c => ?_⟩
  · replace h := h.1 c
    refine lg_iconst (n := 0) (by decide) (by decide +kernel : decode method_14_code 545 = .ok (.iconst 0, 1)) ?_
    exact lg_sub (ls := [some (vm_r o0), none, some (vm_r o2), none, none, none, none, some (vm_i v7), some (vm_i v8), none, some (vm_i v10), none]) ⟨rfl, ⟨rfl, ⟨rfl, ⟨rfl, ⟨rfl, trivial⟩⟩⟩⟩⟩ h
  · replace h := h.2 c
    refine lg_iload (k := 11) rfl (by decide +kernel : decode method_14_code 529 = .ok (.iload 11, 2)) ?_
    refine lg_if_lt (t := 541) (by decide +kernel : decode method_14_code 531 = .ok (.ifCond .lt 10, 3)) (by decide) ⟨fun c => ?_, fun c => ?_⟩
    · replace h := h.1 c
      refine lg_iconst (n := 1) (by decide) (by decide +kernel : decode method_14_code 541 = .ok (.iconst 1, 1)) ?_
      refine lg_goto (t := 546) (by decide +kernel : decode method_14_code 542 = .ok (.goto 4, 3)) (by decide) ?_
      exact lg_sub (ls := [some (vm_r o0), none, some (vm_r o2), none, none, none, none, some (vm_i v7), some (vm_i v8), none, some (vm_i v10), none]) ⟨rfl, ⟨rfl, ⟨rfl, ⟨rfl, ⟨rfl, trivial⟩⟩⟩⟩⟩ h
    · replace h := h.2 c
      refine lg_iload (k := 11) rfl (by decide +kernel : decode method_14_code 534 = .ok (.iload 11, 2)) ?_
      refine lg_iload (k := 8) rfl (by decide +kernel : decode method_14_code 536 = .ok (.iload 8, 2)) ?_
      refine lg_icmp_lt (t := 545) (by decide +kernel : decode method_14_code 538 = .ok (.if_icmp .lt 7, 3)) (by decide) ⟨fun c => ?_, fun c => ?_⟩
      · replace h := h.1 c
        refine lg_iconst (n := 0) (by decide) (by decide +kernel : decode method_14_code 545 = .ok (.iconst 0, 1)) ?_
        exact lg_sub (ls := [some (vm_r o0), none, some (vm_r o2), none, none, none, none, some (vm_i v7), some (vm_i v8), none, some (vm_i v10), none]) ⟨rfl, ⟨rfl, ⟨rfl, ⟨rfl, ⟨rfl, trivial⟩⟩⟩⟩⟩ h
      · replace h := h.2 c
        refine lg_iconst (n := 1) (by decide) (by decide +kernel : decode method_14_code 541 = .ok (.iconst 1, 1)) ?_
        refine lg_goto (t := 546) (by decide +kernel : decode method_14_code 542 = .ok (.goto 4, 3)) (by decide) ?_
        exact lg_sub (ls := [some (vm_r o0), none, some (vm_r o2), none, none, none, none, some (vm_i v7), some (vm_i v8), none, some (vm_i v10), none]) ⟨rfl, ⟨rfl, ⟨rfl, ⟨rfl, ⟨rfl, trivial⟩⟩⟩⟩⟩ h
set_option maxHeartbeats 4000000 in
theorem rL_bests_519 {S : lwS} {Qp : Option vm_V → lwS → Prop} {o0 : Nat} {o2 : Nat} {v7 : Int} {v8 : Int} {v10 : Int} {x0 : Int} (h : lG lK_bests 548 [some (vm_r o0), none, some (vm_r o2), none, none, none, none, some (vm_i v7), some (vm_i v8), some (vm_i x0), some (vm_i v10), none] [] S Qp) : lG lK_bests 519 [some (vm_r o0), none, some (vm_r o2), none, none, none, none, some (vm_i v7), some (vm_i v8), none, some (vm_i v10), none] [vm_i x0] S Qp := by
  refine lg_istore (k := 9) (l1 := [some (vm_r o0), none, some (vm_r o2), none, none, none, none, some (vm_i v7), some (vm_i v8), some (vm_i x0), some (vm_i v10), none]) rfl rfl (by decide +kernel : decode method_14_code 519 = .ok (.istore 9, 2)) ?_
  refine lg_goto (t := 548) (by decide +kernel : decode method_14_code 521 = .ok (.goto 27, 3)) (by decide) ?_
  exact h
set_option maxHeartbeats 4000000 in
theorem rL_bests_507 {S : lwS} {Qp : Option vm_V → lwS → Prop} {o0 : Nat} {o2 : Nat} {v7 : Int} {v8 : Int} {v10 : Int} (h : lNn 113 o0 [] S (fun z2 S1 => (z2 < 0 → (lG lK_bests 519 [some (vm_r o0), none, some (vm_r o2), none, none, none, none, some (vm_i v7), some (vm_i v8), none, some (vm_i v10), none] [vm_i 0] S1 Qp)) ∧ (¬ (z2 < 0) → (lG lK_bests 519 [some (vm_r o0), none, some (vm_r o2), none, none, none, none, some (vm_i v7), some (vm_i v8), none, some (vm_i v10), none] [vm_i 1] S1 Qp)))) : lG lK_bests 507 [some (vm_r o0), none, some (vm_r o2), none, none, none, none, some (vm_i v7), some (vm_i v8), none, some (vm_i v10), none] [] S Qp := by
  refine lg_aload_n (k := 0) rfl rfl (by decide +kernel : decode method_14_code 507 = .ok (.aload_n 0, 1)) ?_
  refine lg_N 113 [] (show lCls 113 0 = true by decide +kernel) (Nat.le_of_ble_eq_true rfl) (vm_hw_in (i := 1109) (by decide +kernel)) (by decide +kernel : decode method_14_code 508 = .ok (.invokevirtual 168, 3)) h (fun z2 S1 h => ?_)
  refine lg_if_lt (t := 518) (by decide +kernel : decode method_14_code 511 = .ok (.ifCond .lt 7, 3)) (by decide) ⟨fun c => ?_, fun c => ?_⟩
  · replace h := h.1 c
    refine lg_iconst (n := 0) (by decide) (by decide +kernel : decode method_14_code 518 = .ok (.iconst 0, 1)) ?_
    exact h
  · replace h := h.2 c
    refine lg_iconst (n := 1) (by decide) (by decide +kernel : decode method_14_code 514 = .ok (.iconst 1, 1)) ?_
    refine lg_goto (t := 519) (by decide +kernel : decode method_14_code 515 = .ok (.goto 4, 3)) (by decide) ?_
    exact h
set_option maxHeartbeats 4000000 in
theorem rL_bests_546 {S : lwS} {Qp : Option vm_V → lwS → Prop} {o0 : Nat} {o2 : Nat} {v7 : Int} {v8 : Int} {v10 : Int} {x0 : Int} (h : lG lK_bests 548 [some (vm_r o0), none, some (vm_r o2), none, none, none, none, some (vm_i v7), some (vm_i v8), some (vm_i x0), some (vm_i v10), none] [] S Qp) : lG lK_bests 546 [some (vm_r o0), none, some (vm_r o2), none, none, none, none, some (vm_i v7), some (vm_i v8), none, some (vm_i v10), none] [vm_i x0] S Qp := by
  refine lg_istore (k := 9) (l1 := [some (vm_r o0), none, some (vm_r o2), none, none, none, none, some (vm_i v7), some (vm_i v8), some (vm_i x0), some (vm_i v10), none]) rfl rfl (by decide +kernel : decode method_14_code 546 = .ok (.istore 9, 2)) ?_
  exact h
set_option maxHeartbeats 4000000 in
theorem rL_bests_548 {S : lwS} {Qp : Option vm_V → lwS → Prop} {o0 : Nat} {o2 : Nat} {v7 : Int} {v8 : Int} {v9 : Int} {v10 : Int} (h : (vm_32 (v10 + 1)) ∧ (lG lK_bests 398 [some (vm_r o0), none, some (vm_r o2), none, none, none, none, some (vm_i v7), some (vm_i v8), some (vm_i v9), some (vm_i ((v10 + 1))), none] [] S Qp)) : lG lK_bests 548 [some (vm_r o0), none, some (vm_r o2), none, none, none, none, some (vm_i v7), some (vm_i v8), some (vm_i v9), some (vm_i v10), none] [] S Qp := by
  obtain ⟨h1, h⟩ := h
  refine lg_iinc (k := 10) (l1 := [some (vm_r o0), none, some (vm_r o2), none, none, none, none, some (vm_i v7), some (vm_i v8), some (vm_i v9), some (vm_i ((v10 + 1))), none]) rfl rfl rfl h1 (by decide +kernel : decode method_14_code 548 = .ok (.iinc 10 1, 3)) ?_
  refine lg_goto (t := 398) (by decide +kernel : decode method_14_code 551 = .ok (.goto (-153), 3)) (by decide) ?_
  exact h
set_option maxHeartbeats 4000000 in
theorem rL_undone_0 {S : lwS} {Qp : Option vm_V → lwS → Prop} {o0 : Nat} {o1 : Nat} (h : lCr lK_told [vm_r o0] S (fun r2 S1 => lNn 111 o0 [0] S1 (fun z4 S3 => lG lK_undone 17 [some (vm_r o0), some (vm_r o1), some (vm_r r2), some (vm_i 0), some (vm_i z4), some (vm_i 0), none] [] S3 Qp))) : lG lK_undone 0 [some (vm_r o0), some (vm_r o1), none, none, none, none, none] [] S Qp := by
  refine lg_aload_n (k := 0) rfl rfl (by decide +kernel : decode method_15_code 0 = .ok (.aload_n 0, 1)) ?_
  refine lg_Cr [vm_r o0] lOK_told rfl (show 2 < 3 by decide) (vm_hw_in (i := 1246) (by decide +kernel)) (by decide +kernel : decode method_15_code 1 = .ok (.invokestatic 225, 3)) (Nat.le_of_ble_eq_true rfl) (Nat.le_of_ble_eq_true rfl) h (fun r2 S1 h => ?_)
  refine lg_astore_n (k := 2) (l1 := [some (vm_r o0), some (vm_r o1), some (vm_r r2), none, none, none, none]) rfl rfl rfl (by decide +kernel : decode method_15_code 4 = .ok (.astore_n 2, 1)) ?_
  refine lg_iconst (n := 0) (by decide) (by decide +kernel : decode method_15_code 5 = .ok (.iconst 0, 1)) ?_
  refine lg_istore_n (k := 3) (l1 := [some (vm_r o0), some (vm_r o1), some (vm_r r2), some (vm_i 0), none, none, none]) rfl rfl rfl (by decide +kernel : decode method_15_code 6 = .ok (.istore_n 3, 1)) ?_
  refine lg_aload_n (k := 0) rfl rfl (by decide +kernel : decode method_15_code 7 = .ok (.aload_n 0, 1)) ?_
  refine lg_iconst (n := 0) (by decide) (by decide +kernel : decode method_15_code 8 = .ok (.iconst 0, 1)) ?_
  refine lg_N 111 [0] (show lCls 111 1 = true by decide +kernel) (Nat.le_of_ble_eq_true rfl) (vm_hw_in (i := 1377) (by decide +kernel)) (by decide +kernel : decode method_15_code 9 = .ok (.invokevirtual 245, 3)) h (fun z4 S3 h => ?_)
  refine lg_istore (k := 4) (l1 := [some (vm_r o0), some (vm_r o1), some (vm_r r2), some (vm_i 0), some (vm_i z4), none, none]) rfl rfl (by decide +kernel : decode method_15_code 12 = .ok (.istore 4, 2)) ?_
  refine lg_iconst (n := 0) (by decide) (by decide +kernel : decode method_15_code 14 = .ok (.iconst 0, 1)) ?_
  refine lg_istore (k := 5) (l1 := [some (vm_r o0), some (vm_r o1), some (vm_r r2), some (vm_i 0), some (vm_i z4), some (vm_i 0), none]) rfl rfl (by decide +kernel : decode method_15_code 15 = .ok (.istore 5, 2)) ?_
  exact h
set_option maxHeartbeats 4000000 in
theorem rL_undone_17 {S : lwS} {Qp : Option vm_V → lwS → Prop} {o0 : Nat} {o1 : Nat} {o2 : Nat} {v3 : Int} {v4 : Int} {v5 : Int} (h : (7 ≤ v5 → (lNn 112 o0 [0] S (fun z2 S1 => (z2 < 0 → (lG lK_undone 60 [some (vm_r o0), none, some (vm_r o2), none, some (vm_i v4), none, none] [vm_i 0, vm_i v3] S1 Qp)) ∧ (¬ (z2 < 0) → (lG lK_undone 60 [some (vm_r o0), none, some (vm_r o2), none, some (vm_i v4), none, none] [vm_i 1, vm_i v3] S1 Qp))))) ∧ (¬ (7 ≤ v5) → (lCi lK_acts [vm_r o0, vm_r o1] S (fun z4 S3 => (z4 < 0 → (lG lK_undone 38 [some (vm_r o0), some (vm_r o1), some (vm_r o2), none, some (vm_i v4), some (vm_i v5), none] [vm_i 0, vm_i v3] S3 Qp)) ∧ (¬ (z4 < 0) → (lG lK_undone 38 [some (vm_r o0), some (vm_r o1), some (vm_r o2), none, some (vm_i v4), some (vm_i v5), none] [vm_i 1, vm_i v3] S3 Qp)))))) : lG lK_undone 17 [some (vm_r o0), some (vm_r o1), some (vm_r o2), some (vm_i v3), some (vm_i v4), some (vm_i v5), none] [] S Qp := by
  refine lg_iload (k := 5) rfl (by decide +kernel : decode method_15_code 17 = .ok (.iload 5, 2)) ?_
  refine lg_bipush (n := 7) (by decide) (by decide) (by decide +kernel : decode method_15_code 19 = .ok (.bipush 7, 2)) ?_
  refine lg_icmp_ge (t := 46) (by decide +kernel : decode method_15_code 21 = .ok (.if_icmp .ge 25, 3)) (by decide) ⟨fun c => ?_, fun c => ?_⟩
  · replace h := h.1 c
    refine lg_iload_n (k := 3) rfl rfl (by decide +kernel : decode method_15_code 46 = .ok (.iload_n 3, 1)) ?_
    refine lg_aload_n (k := 0) rfl rfl (by decide +kernel : decode method_15_code 47 = .ok (.aload_n 0, 1)) ?_
    refine lg_iconst (n := 0) (by decide) (by decide +kernel : decode method_15_code 48 = .ok (.iconst 0, 1)) ?_
    refine lg_N 112 [0] (show lCls 112 1 = true by decide +kernel) (Nat.le_of_ble_eq_true rfl) (vm_hw_in (i := 1381) (by decide +kernel)) (by decide +kernel : decode method_15_code 49 = .ok (.invokevirtual 252, 3)) h (fun z2 S1 h => ?_)
    refine lg_if_lt (t := 59) (by decide +kernel : decode method_15_code 52 = .ok (.ifCond .lt 7, 3)) (by decide) ⟨fun c => ?_, fun c => ?_⟩
    · replace h := h.1 c
      refine lg_iconst (n := 0) (by decide) (by decide +kernel : decode method_15_code 59 = .ok (.iconst 0, 1)) ?_
      exact lg_sub (ls := [some (vm_r o0), none, some (vm_r o2), none, some (vm_i v4), none, none]) ⟨rfl, ⟨rfl, ⟨rfl, trivial⟩⟩⟩ h
    · replace h := h.2 c
      refine lg_iconst (n := 1) (by decide) (by decide +kernel : decode method_15_code 55 = .ok (.iconst 1, 1)) ?_
      refine lg_goto (t := 60) (by decide +kernel : decode method_15_code 56 = .ok (.goto 4, 3)) (by decide) ?_
      exact lg_sub (ls := [some (vm_r o0), none, some (vm_r o2), none, some (vm_i v4), none, none]) ⟨rfl, ⟨rfl, ⟨rfl, trivial⟩⟩⟩ h
  · replace h := h.2 c
    refine lg_iload_n (k := 3) rfl rfl (by decide +kernel : decode method_15_code 24 = .ok (.iload_n 3, 1)) ?_
    refine lg_aload_n (k := 0) rfl rfl (by decide +kernel : decode method_15_code 25 = .ok (.aload_n 0, 1)) ?_
    refine lg_aload_n (k := 1) rfl rfl (by decide +kernel : decode method_15_code 26 = .ok (.aload_n 1, 1)) ?_
    refine lg_Ci [vm_r o0, vm_r o1] lOK_acts rfl (show 1 < 3 by decide) (vm_hw_in (i := 1037) (by decide +kernel)) (by decide +kernel : decode method_15_code 27 = .ok (.invokestatic 248, 3)) (Nat.le_of_ble_eq_true rfl) (Nat.le_of_ble_eq_true rfl) h (fun z4 S3 h => ?_)
    refine lg_if_lt (t := 37) (by decide +kernel : decode method_15_code 30 = .ok (.ifCond .lt 7, 3)) (by decide) ⟨fun c => ?_, fun c => ?_⟩
    · replace h := h.1 c
      refine lg_iconst (n := 0) (by decide) (by decide +kernel : decode method_15_code 37 = .ok (.iconst 0, 1)) ?_
      exact lg_sub (ls := [some (vm_r o0), some (vm_r o1), some (vm_r o2), none, some (vm_i v4), some (vm_i v5), none]) ⟨rfl, ⟨rfl, ⟨rfl, ⟨rfl, ⟨rfl, trivial⟩⟩⟩⟩⟩ h
    · replace h := h.2 c
      refine lg_iconst (n := 1) (by decide) (by decide +kernel : decode method_15_code 33 = .ok (.iconst 1, 1)) ?_
      refine lg_goto (t := 38) (by decide +kernel : decode method_15_code 34 = .ok (.goto 4, 3)) (by decide) ?_
      exact lg_sub (ls := [some (vm_r o0), some (vm_r o1), some (vm_r o2), none, some (vm_i v4), some (vm_i v5), none]) ⟨rfl, ⟨rfl, ⟨rfl, ⟨rfl, ⟨rfl, trivial⟩⟩⟩⟩⟩ h
set_option maxHeartbeats 4000000 in
theorem rL_undone_60 {S : lwS} {Qp : Option vm_V → lwS → Prop} {o0 : Nat} {o2 : Nat} {v4 : Int} {x0 : Int} {x1 : Int} (h : (vm_32 (x1 + x0)) ∧ (lCr lK_told [vm_r o0] S (fun r2 S1 => lEq r2 o2 S1 (lNn 115 o0 [11] S1 (fun z4 S3 => (¬ z4 = v4 → (lG lK_undone 267 [some (vm_r o0), none, some (vm_r o2), some (vm_i ((x1 + x0))), none, none, none] [vm_i 0] S3 Qp)) ∧ (¬ (¬ z4 = v4) → (lNn 106 o0 [6, 1] S3 (fun z6 S5 => (¬ z6 = ((-1)) → (lG lK_undone 267 [some (vm_r o0), none, some (vm_r o2), some (vm_i ((x1 + x0))), none, none, none] [vm_i 0] S5 Qp)) ∧ (¬ (¬ z6 = ((-1))) → (lNn 106 o0 [0, 9] S5 (fun z8 S7 => (¬ z8 = ((-1)) → (lG lK_undone 267 [some (vm_r o0), none, some (vm_r o2), some (vm_i ((x1 + x0))), none, none, none] [vm_i 0] S7 Qp)) ∧ (¬ (¬ z8 = ((-1))) → (lNn 115 o0 [0] S7 (fun z10 S9 => lNn 106 o0 [0, z10] S9 (fun z12 S11 => (¬ z12 = ((-2)) → (lG lK_undone 267 [some (vm_r o0), none, some (vm_r o2), some (vm_i ((x1 + x0))), none, none, none] [vm_i 0] S11 Qp)) ∧ (¬ (¬ z12 = ((-2))) → (lNn 107 o0 [0, 0, 10] S11 (fun z14 S13 => (¬ z14 = ((-1)) → (lG lK_undone 267 [some (vm_r o0), none, some (vm_r o2), some (vm_i ((x1 + x0))), none, none, none] [vm_i 0] S13 Qp)) ∧ (¬ (¬ z14 = ((-1))) → (lNn 107 o0 [26, 0, 0] S13 (fun z16 S15 => (¬ z16 = ((-1)) → (lG lK_undone 267 [some (vm_r o0), none, some (vm_r o2), some (vm_i ((x1 + x0))), none, none, none] [vm_i 0] S15 Qp)) ∧ (¬ (¬ z16 = ((-1))) → (lNn 108 o0 [2] S15 (fun z18 S17 => (¬ z18 = ((-1)) → (lG lK_undone 267 [some (vm_r o0), none, some (vm_r o2), some (vm_i ((x1 + x0))), none, none, none] [vm_i 0] S17 Qp)) ∧ (¬ (¬ z18 = ((-1))) → (lNn 115 o0 [7] S17 (fun z20 S19 => lNn 108 o0 [z20] S19 (fun z22 S21 => (¬ z22 = ((-2)) → (lG lK_undone 267 [some (vm_r o0), none, some (vm_r o2), some (vm_i ((x1 + x0))), none, none, none] [vm_i 0] S21 Qp)) ∧ (¬ (¬ z22 = ((-2))) → (lNn 115 o0 [8] S21 (fun z24 S23 => (¬ z24 = 1 → (lG lK_undone 185 [some (vm_r o0), none, some (vm_r o2), some (vm_i ((x1 + x0))), none, none, none] [vm_i 0, vm_r o0] S23 Qp)) ∧ (¬ (¬ z24 = 1) → (lG lK_undone 185 [some (vm_r o0), none, some (vm_r o2), some (vm_i ((x1 + x0))), none, none, none] [vm_i 1, vm_r o0] S23 Qp))))))))))))))))))))))))))))))))) : lG lK_undone 60 [some (vm_r o0), none, some (vm_r o2), none, some (vm_i v4), none, none] [vm_i x0, vm_i x1] S Qp := by
  obtain ⟨h1, h⟩ := h
  refine lg_iadd h1 (by decide +kernel : decode method_15_code 60 = .ok (.iadd, 1)) ?_
  refine lg_istore_n (k := 3) (l1 := [some (vm_r o0), none, some (vm_r o2), some (vm_i ((x1 + x0))), some (vm_i v4), none, none]) rfl rfl rfl (by decide +kernel : decode method_15_code 61 = .ok (.istore_n 3, 1)) ?_
  refine lg_aload_n (k := 0) rfl rfl (by decide +kernel : decode method_15_code 62 = .ok (.aload_n 0, 1)) ?_
  refine lg_Cr [vm_r o0] lOK_told rfl (show 2 < 3 by decide) (vm_hw_in (i := 1246) (by decide +kernel)) (by decide +kernel : decode method_15_code 63 = .ok (.invokestatic 225, 3)) (Nat.le_of_ble_eq_true rfl) (Nat.le_of_ble_eq_true rfl) h (fun r2 S1 h => ?_)
  refine lg_aload_n (k := 2) rfl rfl (by decide +kernel : decode method_15_code 66 = .ok (.aload_n 2, 1)) ?_
  refine lg_Eq (vm_hw_in (i := 1366) (by decide +kernel)) (by decide +kernel : decode method_15_code 67 = .ok (.invokevirtual 241, 3)) (Nat.le_of_ble_eq_true rfl) h (fun h => ?_)
  refine lg_if_eq (t := 266) (by decide +kernel : decode method_15_code 70 = .ok (.ifCond .eq 196, 3)) (by decide) ⟨fun c => absurd c (by decide), fun c => ?_⟩
  refine lg_aload_n (k := 0) rfl rfl (by decide +kernel : decode method_15_code 73 = .ok (.aload_n 0, 1)) ?_
  refine lg_bipush (n := 11) (by decide) (by decide) (by decide +kernel : decode method_15_code 74 = .ok (.bipush 11, 2)) ?_
  refine lg_N 115 [11] (show lCls 115 1 = true by decide +kernel) (Nat.le_of_ble_eq_true rfl) (vm_hw_in (i := 604) (by decide +kernel)) (by decide +kernel : decode method_15_code 76 = .ok (.invokevirtual 40, 3)) h (fun z4 S3 h => ?_)
  refine lg_iload (k := 4) rfl (by decide +kernel : decode method_15_code 79 = .ok (.iload 4, 2)) ?_
  refine lg_icmp_ne (t := 266) (by decide +kernel : decode method_15_code 81 = .ok (.if_icmp .ne 185, 3)) (by decide) ⟨fun c => ?_, fun c => ?_⟩
  · replace h := h.1 c
    refine lg_iconst (n := 0) (by decide) (by decide +kernel : decode method_15_code 266 = .ok (.iconst 0, 1)) ?_
    exact lg_sub (ls := [some (vm_r o0), none, some (vm_r o2), some (vm_i ((x1 + x0))), none, none, none]) ⟨rfl, ⟨rfl, ⟨rfl, trivial⟩⟩⟩ h
  · replace h := h.2 c
    refine lg_aload_n (k := 0) rfl rfl (by decide +kernel : decode method_15_code 84 = .ok (.aload_n 0, 1)) ?_
    refine lg_bipush (n := 6) (by decide) (by decide) (by decide +kernel : decode method_15_code 85 = .ok (.bipush 6, 2)) ?_
    refine lg_iconst (n := 1) (by decide) (by decide +kernel : decode method_15_code 87 = .ok (.iconst 1, 1)) ?_
    refine lg_N 106 [6, 1] (show lCls 106 2 = true by decide +kernel) (Nat.le_of_ble_eq_true rfl) (vm_hw_in (i := 1041) (by decide +kernel)) (by decide +kernel : decode method_15_code 88 = .ok (.invokevirtual 130, 3)) h (fun z6 S5 h => ?_)
    refine lg_iconst (n := (-1)) (by decide) (by decide +kernel : decode method_15_code 91 = .ok (.iconst (-1), 1)) ?_
    refine lg_icmp_ne (t := 266) (by decide +kernel : decode method_15_code 92 = .ok (.if_icmp .ne 174, 3)) (by decide) ⟨fun c => ?_, fun c => ?_⟩
    · replace h := h.1 c
      refine lg_iconst (n := 0) (by decide) (by decide +kernel : decode method_15_code 266 = .ok (.iconst 0, 1)) ?_
      exact lg_sub (ls := [some (vm_r o0), none, some (vm_r o2), some (vm_i ((x1 + x0))), none, none, none]) ⟨rfl, ⟨rfl, ⟨rfl, trivial⟩⟩⟩ h
    · replace h := h.2 c
      refine lg_aload_n (k := 0) rfl rfl (by decide +kernel : decode method_15_code 95 = .ok (.aload_n 0, 1)) ?_
      refine lg_iconst (n := 0) (by decide) (by decide +kernel : decode method_15_code 96 = .ok (.iconst 0, 1)) ?_
      refine lg_bipush (n := 9) (by decide) (by decide) (by decide +kernel : decode method_15_code 97 = .ok (.bipush 9, 2)) ?_
      refine lg_N 106 [0, 9] (show lCls 106 2 = true by decide +kernel) (Nat.le_of_ble_eq_true rfl) (vm_hw_in (i := 1041) (by decide +kernel)) (by decide +kernel : decode method_15_code 99 = .ok (.invokevirtual 130, 3)) h (fun z8 S7 h => ?_)
      refine lg_iconst (n := (-1)) (by decide) (by decide +kernel : decode method_15_code 102 = .ok (.iconst (-1), 1)) ?_
      refine lg_icmp_ne (t := 266) (by decide +kernel : decode method_15_code 103 = .ok (.if_icmp .ne 163, 3)) (by decide) ⟨fun c => ?_, fun c => ?_⟩
      · replace h := h.1 c
        refine lg_iconst (n := 0) (by decide) (by decide +kernel : decode method_15_code 266 = .ok (.iconst 0, 1)) ?_
        exact lg_sub (ls := [some (vm_r o0), none, some (vm_r o2), some (vm_i ((x1 + x0))), none, none, none]) ⟨rfl, ⟨rfl, ⟨rfl, trivial⟩⟩⟩ h
      · replace h := h.2 c
        refine lg_aload_n (k := 0) rfl rfl (by decide +kernel : decode method_15_code 106 = .ok (.aload_n 0, 1)) ?_
        refine lg_iconst (n := 0) (by decide) (by decide +kernel : decode method_15_code 107 = .ok (.iconst 0, 1)) ?_
        refine lg_aload_n (k := 0) rfl rfl (by decide +kernel : decode method_15_code 108 = .ok (.aload_n 0, 1)) ?_
        refine lg_iconst (n := 0) (by decide) (by decide +kernel : decode method_15_code 109 = .ok (.iconst 0, 1)) ?_
        refine lg_N 115 [0] (show lCls 115 1 = true by decide +kernel) (Nat.le_of_ble_eq_true rfl) (vm_hw_in (i := 604) (by decide +kernel)) (by decide +kernel : decode method_15_code 110 = .ok (.invokevirtual 40, 3)) h (fun z10 S9 h => ?_)
        refine lg_N 106 [0, z10] (show lCls 106 2 = true by decide +kernel) (Nat.le_of_ble_eq_true rfl) (vm_hw_in (i := 1041) (by decide +kernel)) (by decide +kernel : decode method_15_code 113 = .ok (.invokevirtual 130, 3)) h (fun z12 S11 h => ?_)
        refine lg_bipush (n := (-2)) (by decide) (by decide) (by decide +kernel : decode method_15_code 116 = .ok (.bipush (-2), 2)) ?_
        refine lg_icmp_ne (t := 266) (by decide +kernel : decode method_15_code 118 = .ok (.if_icmp .ne 148, 3)) (by decide) ⟨fun c => ?_, fun c => ?_⟩
        · replace h := h.1 c
          refine lg_iconst (n := 0) (by decide) (by decide +kernel : decode method_15_code 266 = .ok (.iconst 0, 1)) ?_
          exact lg_sub (ls := [some (vm_r o0), none, some (vm_r o2), some (vm_i ((x1 + x0))), none, none, none]) ⟨rfl, ⟨rfl, ⟨rfl, trivial⟩⟩⟩ h
        · replace h := h.2 c
          refine lg_aload_n (k := 0) rfl rfl (by decide +kernel : decode method_15_code 121 = .ok (.aload_n 0, 1)) ?_
          refine lg_iconst (n := 0) (by decide) (by decide +kernel : decode method_15_code 122 = .ok (.iconst 0, 1)) ?_
          refine lg_iconst (n := 0) (by decide) (by decide +kernel : decode method_15_code 123 = .ok (.iconst 0, 1)) ?_
          refine lg_bipush (n := 10) (by decide) (by decide) (by decide +kernel : decode method_15_code 124 = .ok (.bipush 10, 2)) ?_
          refine lg_N 107 [0, 0, 10] (show lCls 107 3 = true by decide +kernel) (Nat.le_of_ble_eq_true rfl) (vm_hw_in (i := 1047) (by decide +kernel)) (by decide +kernel : decode method_15_code 126 = .ok (.invokevirtual 133, 3)) h (fun z14 S13 h => ?_)
          refine lg_iconst (n := (-1)) (by decide) (by decide +kernel : decode method_15_code 129 = .ok (.iconst (-1), 1)) ?_
          refine lg_icmp_ne (t := 266) (by decide +kernel : decode method_15_code 130 = .ok (.if_icmp .ne 136, 3)) (by decide) ⟨fun c => ?_, fun c => ?_⟩
          · replace h := h.1 c
            refine lg_iconst (n := 0) (by decide) (by decide +kernel : decode method_15_code 266 = .ok (.iconst 0, 1)) ?_
            exact lg_sub (ls := [some (vm_r o0), none, some (vm_r o2), some (vm_i ((x1 + x0))), none, none, none]) ⟨rfl, ⟨rfl, ⟨rfl, trivial⟩⟩⟩ h
          · replace h := h.2 c
            refine lg_aload_n (k := 0) rfl rfl (by decide +kernel : decode method_15_code 133 = .ok (.aload_n 0, 1)) ?_
            refine lg_bipush (n := 26) (by decide) (by decide) (by decide +kernel : decode method_15_code 134 = .ok (.bipush 26, 2)) ?_
            refine lg_iconst (n := 0) (by decide) (by decide +kernel : decode method_15_code 136 = .ok (.iconst 0, 1)) ?_
            refine lg_iconst (n := 0) (by decide) (by decide +kernel : decode method_15_code 137 = .ok (.iconst 0, 1)) ?_
            refine lg_N 107 [26, 0, 0] (show lCls 107 3 = true by decide +kernel) (Nat.le_of_ble_eq_true rfl) (vm_hw_in (i := 1047) (by decide +kernel)) (by decide +kernel : decode method_15_code 138 = .ok (.invokevirtual 133, 3)) h (fun z16 S15 h => ?_)
            refine lg_iconst (n := (-1)) (by decide) (by decide +kernel : decode method_15_code 141 = .ok (.iconst (-1), 1)) ?_
            refine lg_icmp_ne (t := 266) (by decide +kernel : decode method_15_code 142 = .ok (.if_icmp .ne 124, 3)) (by decide) ⟨fun c => ?_, fun c => ?_⟩
            · replace h := h.1 c
              refine lg_iconst (n := 0) (by decide) (by decide +kernel : decode method_15_code 266 = .ok (.iconst 0, 1)) ?_
              exact lg_sub (ls := [some (vm_r o0), none, some (vm_r o2), some (vm_i ((x1 + x0))), none, none, none]) ⟨rfl, ⟨rfl, ⟨rfl, trivial⟩⟩⟩ h
            · replace h := h.2 c
              refine lg_aload_n (k := 0) rfl rfl (by decide +kernel : decode method_15_code 145 = .ok (.aload_n 0, 1)) ?_
              refine lg_iconst (n := 2) (by decide) (by decide +kernel : decode method_15_code 146 = .ok (.iconst 2, 1)) ?_
              refine lg_N 108 [2] (show lCls 108 1 = true by decide +kernel) (Nat.le_of_ble_eq_true rfl) (vm_hw_in (i := 1053) (by decide +kernel)) (by decide +kernel : decode method_15_code 147 = .ok (.invokevirtual 137, 3)) h (fun z18 S17 h => ?_)
              refine lg_iconst (n := (-1)) (by decide) (by decide +kernel : decode method_15_code 150 = .ok (.iconst (-1), 1)) ?_
              refine lg_icmp_ne (t := 266) (by decide +kernel : decode method_15_code 151 = .ok (.if_icmp .ne 115, 3)) (by decide) ⟨fun c => ?_, fun c => ?_⟩
              · replace h := h.1 c
                refine lg_iconst (n := 0) (by decide) (by decide +kernel : decode method_15_code 266 = .ok (.iconst 0, 1)) ?_
                exact lg_sub (ls := [some (vm_r o0), none, some (vm_r o2), some (vm_i ((x1 + x0))), none, none, none]) ⟨rfl, ⟨rfl, ⟨rfl, trivial⟩⟩⟩ h
              · replace h := h.2 c
                refine lg_aload_n (k := 0) rfl rfl (by decide +kernel : decode method_15_code 154 = .ok (.aload_n 0, 1)) ?_
                refine lg_aload_n (k := 0) rfl rfl (by decide +kernel : decode method_15_code 155 = .ok (.aload_n 0, 1)) ?_
                refine lg_bipush (n := 7) (by decide) (by decide) (by decide +kernel : decode method_15_code 156 = .ok (.bipush 7, 2)) ?_
                refine lg_N 115 [7] (show lCls 115 1 = true by decide +kernel) (Nat.le_of_ble_eq_true rfl) (vm_hw_in (i := 604) (by decide +kernel)) (by decide +kernel : decode method_15_code 158 = .ok (.invokevirtual 40, 3)) h (fun z20 S19 h => ?_)
                refine lg_N 108 [z20] (show lCls 108 1 = true by decide +kernel) (Nat.le_of_ble_eq_true rfl) (vm_hw_in (i := 1053) (by decide +kernel)) (by decide +kernel : decode method_15_code 161 = .ok (.invokevirtual 137, 3)) h (fun z22 S21 h => ?_)
                refine lg_bipush (n := (-2)) (by decide) (by decide) (by decide +kernel : decode method_15_code 164 = .ok (.bipush (-2), 2)) ?_
                refine lg_icmp_ne (t := 266) (by decide +kernel : decode method_15_code 166 = .ok (.if_icmp .ne 100, 3)) (by decide) ⟨fun c => ?_, fun c => ?_⟩
                · replace h := h.1 c
                  refine lg_iconst (n := 0) (by decide) (by decide +kernel : decode method_15_code 266 = .ok (.iconst 0, 1)) ?_
                  exact lg_sub (ls := [some (vm_r o0), none, some (vm_r o2), some (vm_i ((x1 + x0))), none, none, none]) ⟨rfl, ⟨rfl, ⟨rfl, trivial⟩⟩⟩ h
                · replace h := h.2 c
                  refine lg_aload_n (k := 0) rfl rfl (by decide +kernel : decode method_15_code 169 = .ok (.aload_n 0, 1)) ?_
                  refine lg_aload_n (k := 0) rfl rfl (by decide +kernel : decode method_15_code 170 = .ok (.aload_n 0, 1)) ?_
                  refine lg_bipush (n := 8) (by decide) (by decide) (by decide +kernel : decode method_15_code 171 = .ok (.bipush 8, 2)) ?_
                  refine lg_N 115 [8] (show lCls 115 1 = true by decide +kernel) (Nat.le_of_ble_eq_true rfl) (vm_hw_in (i := 604) (by decide +kernel)) (by decide +kernel : decode method_15_code 173 = .ok (.invokevirtual 40, 3)) h (fun z24 S23 h => ?_)
                  refine lg_iconst (n := 1) (by decide) (by decide +kernel : decode method_15_code 176 = .ok (.iconst 1, 1)) ?_
                  refine lg_icmp_ne (t := 184) (by decide +kernel : decode method_15_code 177 = .ok (.if_icmp .ne 7, 3)) (by decide) ⟨fun c => ?_, fun c => ?_⟩
                  · replace h := h.1 c
                    refine lg_iconst (n := 0) (by decide) (by decide +kernel : decode method_15_code 184 = .ok (.iconst 0, 1)) ?_
                    exact lg_sub (ls := [some (vm_r o0), none, some (vm_r o2), some (vm_i ((x1 + x0))), none, none, none]) ⟨rfl, ⟨rfl, ⟨rfl, trivial⟩⟩⟩ h
                  · replace h := h.2 c
                    refine lg_iconst (n := 1) (by decide) (by decide +kernel : decode method_15_code 180 = .ok (.iconst 1, 1)) ?_
                    refine lg_goto (t := 185) (by decide +kernel : decode method_15_code 181 = .ok (.goto 4, 3)) (by decide) ?_
                    exact lg_sub (ls := [some (vm_r o0), none, some (vm_r o2), some (vm_i ((x1 + x0))), none, none, none]) ⟨rfl, ⟨rfl, ⟨rfl, trivial⟩⟩⟩ h
set_option maxHeartbeats 4000000 in
theorem rL_undone_38 {S : lwS} {Qp : Option vm_V → lwS → Prop} {o0 : Nat} {o1 : Nat} {o2 : Nat} {v4 : Int} {v5 : Int} {x0 : Int} {x1 : Int} (h : (vm_32 (x1 + x0)) ∧ ((vm_32 (v5 + 1)) ∧ (lG lK_undone 17 [some (vm_r o0), some (vm_r o1), some (vm_r o2), some (vm_i ((x1 + x0))), some (vm_i v4), some (vm_i ((v5 + 1))), none] [] S Qp))) : lG lK_undone 38 [some (vm_r o0), some (vm_r o1), some (vm_r o2), none, some (vm_i v4), some (vm_i v5), none] [vm_i x0, vm_i x1] S Qp := by
  obtain ⟨h1, h⟩ := h
  refine lg_iadd h1 (by decide +kernel : decode method_15_code 38 = .ok (.iadd, 1)) ?_
  refine lg_istore_n (k := 3) (l1 := [some (vm_r o0), some (vm_r o1), some (vm_r o2), some (vm_i ((x1 + x0))), some (vm_i v4), some (vm_i v5), none]) rfl rfl rfl (by decide +kernel : decode method_15_code 39 = .ok (.istore_n 3, 1)) ?_
  obtain ⟨h1, h⟩ := h
  refine lg_iinc (k := 5) (l1 := [some (vm_r o0), some (vm_r o1), some (vm_r o2), some (vm_i ((x1 + x0))), some (vm_i v4), some (vm_i ((v5 + 1))), none]) rfl rfl rfl h1 (by decide +kernel : decode method_15_code 40 = .ok (.iinc 5 1, 3)) ?_
  refine lg_goto (t := 17) (by decide +kernel : decode method_15_code 43 = .ok (.goto (-26), 3)) (by decide) ?_
  exact h
set_option maxHeartbeats 4000000 in
theorem rL_undone_267 {S : lwS} {Qp : Option vm_V → lwS → Prop} {o0 : Nat} {o2 : Nat} {v3 : Int} {x0 : Int} (h : lG lK_undone 269 [some (vm_r o0), none, some (vm_r o2), some (vm_i v3), none, some (vm_i x0), none] [] S Qp) : lG lK_undone 267 [some (vm_r o0), none, some (vm_r o2), some (vm_i v3), none, none, none] [vm_i x0] S Qp := by
  refine lg_istore (k := 5) (l1 := [some (vm_r o0), none, some (vm_r o2), some (vm_i v3), none, some (vm_i x0), none]) rfl rfl (by decide +kernel : decode method_15_code 267 = .ok (.istore 5, 2)) ?_
  exact h
set_option maxHeartbeats 4000000 in
theorem rL_undone_185 {S : lwS} {Qp : Option vm_V → lwS → Prop} {o0 : Nat} {o2 : Nat} {v3 : Int} {x0 : Int} {x1 : Nat} (h : lNn 109 x1 [x0] S (fun z2 S1 => (¬ z2 = ((-2)) → (lG lK_undone 267 [some (vm_r o0), none, some (vm_r o2), some (vm_i v3), none, none, none] [vm_i 0] S1 Qp)) ∧ (¬ (¬ z2 = ((-2))) → (lNn 110 o0 [0, 0] S1 (fun z4 S3 => (¬ z4 = ((-1)) → (lG lK_undone 267 [some (vm_r o0), none, some (vm_r o2), some (vm_i v3), none, none, none] [vm_i 0] S3 Qp)) ∧ (¬ (¬ z4 = ((-1))) → (lNn 110 o0 [(-1), 0] S3 (fun z6 S5 => (¬ z6 = ((-1)) → (lG lK_undone 267 [some (vm_r o0), none, some (vm_r o2), some (vm_i v3), none, none, none] [vm_i 0] S5 Qp)) ∧ (¬ (¬ z6 = ((-1))) → (lNn 111 o0 [2] S5 (fun z8 S7 => (¬ z8 = ((-1)) → (lG lK_undone 267 [some (vm_r o0), none, some (vm_r o2), some (vm_i v3), none, none, none] [vm_i 0] S7 Qp)) ∧ (¬ (¬ z8 = ((-1))) → (lNn 112 o0 [(-1)] S7 (fun z10 S9 => (¬ z10 = ((-1)) → (lG lK_undone 267 [some (vm_r o0), none, some (vm_r o2), some (vm_i v3), none, none, none] [vm_i 0] S9 Qp)) ∧ (¬ (¬ z10 = ((-1))) → (lNn 128 o0 [12, 0] S9 (fun z12 S11 => (¬ z12 = ((-1)) → (lG lK_undone 267 [some (vm_r o0), none, some (vm_r o2), some (vm_i v3), none, none, none] [vm_i 0] S11 Qp)) ∧ (¬ (¬ z12 = ((-1))) → (lNn 130 o0 [(-1), 0] S11 (fun z14 S13 => (¬ z14 = ((-1)) → (lG lK_undone 267 [some (vm_r o0), none, some (vm_r o2), some (vm_i v3), none, none, none] [vm_i 0] S13 Qp)) ∧ (¬ (¬ z14 = ((-1))) → (lNn 141 o0 [13] S13 (fun z16 S15 => (¬ z16 = ((-1)) → (lG lK_undone 267 [some (vm_r o0), none, some (vm_r o2), some (vm_i v3), none, none, none] [vm_i 0] S15 Qp)) ∧ (¬ (¬ z16 = ((-1))) → (lG lK_undone 267 [some (vm_r o0), none, some (vm_r o2), some (vm_i v3), none, none, none] [vm_i 1] S15 Qp))))))))))))))))))))))))) : lG lK_undone 185 [some (vm_r o0), none, some (vm_r o2), some (vm_i v3), none, none, none] [vm_i x0, vm_r x1] S Qp := by
  refine lg_N 109 [x0] (show lCls 109 1 = true by decide +kernel) (Nat.le_of_ble_eq_true rfl) (vm_hw_in (i := 1057) (by decide +kernel)) (by decide +kernel : decode method_15_code 185 = .ok (.invokevirtual 140, 3)) h (fun z2 S1 h => ?_)
  refine lg_bipush (n := (-2)) (by decide) (by decide) (by decide +kernel : decode method_15_code 188 = .ok (.bipush (-2), 2)) ?_
  refine lg_icmp_ne (t := 266) (by decide +kernel : decode method_15_code 190 = .ok (.if_icmp .ne 76, 3)) (by decide) ⟨fun c => ?_, fun c => ?_⟩
  · replace h := h.1 c
    refine lg_iconst (n := 0) (by decide) (by decide +kernel : decode method_15_code 266 = .ok (.iconst 0, 1)) ?_
    exact h
  · replace h := h.2 c
    refine lg_aload_n (k := 0) rfl rfl (by decide +kernel : decode method_15_code 193 = .ok (.aload_n 0, 1)) ?_
    refine lg_iconst (n := 0) (by decide) (by decide +kernel : decode method_15_code 194 = .ok (.iconst 0, 1)) ?_
    refine lg_iconst (n := 0) (by decide) (by decide +kernel : decode method_15_code 195 = .ok (.iconst 0, 1)) ?_
    refine lg_N 110 [0, 0] (show lCls 110 2 = true by decide +kernel) (Nat.le_of_ble_eq_true rfl) (vm_hw_in (i := 1061) (by decide +kernel)) (by decide +kernel : decode method_15_code 196 = .ok (.invokevirtual 144, 3)) h (fun z4 S3 h => ?_)
    refine lg_iconst (n := (-1)) (by decide) (by decide +kernel : decode method_15_code 199 = .ok (.iconst (-1), 1)) ?_
    refine lg_icmp_ne (t := 266) (by decide +kernel : decode method_15_code 200 = .ok (.if_icmp .ne 66, 3)) (by decide) ⟨fun c => ?_, fun c => ?_⟩
    · replace h := h.1 c
      refine lg_iconst (n := 0) (by decide) (by decide +kernel : decode method_15_code 266 = .ok (.iconst 0, 1)) ?_
      exact h
    · replace h := h.2 c
      refine lg_aload_n (k := 0) rfl rfl (by decide +kernel : decode method_15_code 203 = .ok (.aload_n 0, 1)) ?_
      refine lg_iconst (n := (-1)) (by decide) (by decide +kernel : decode method_15_code 204 = .ok (.iconst (-1), 1)) ?_
      refine lg_iconst (n := 0) (by decide) (by decide +kernel : decode method_15_code 205 = .ok (.iconst 0, 1)) ?_
      refine lg_N 110 [(-1), 0] (show lCls 110 2 = true by decide +kernel) (Nat.le_of_ble_eq_true rfl) (vm_hw_in (i := 1061) (by decide +kernel)) (by decide +kernel : decode method_15_code 206 = .ok (.invokevirtual 144, 3)) h (fun z6 S5 h => ?_)
      refine lg_iconst (n := (-1)) (by decide) (by decide +kernel : decode method_15_code 209 = .ok (.iconst (-1), 1)) ?_
      refine lg_icmp_ne (t := 266) (by decide +kernel : decode method_15_code 210 = .ok (.if_icmp .ne 56, 3)) (by decide) ⟨fun c => ?_, fun c => ?_⟩
      · replace h := h.1 c
        refine lg_iconst (n := 0) (by decide) (by decide +kernel : decode method_15_code 266 = .ok (.iconst 0, 1)) ?_
        exact h
      · replace h := h.2 c
        refine lg_aload_n (k := 0) rfl rfl (by decide +kernel : decode method_15_code 213 = .ok (.aload_n 0, 1)) ?_
        refine lg_iconst (n := 2) (by decide) (by decide +kernel : decode method_15_code 214 = .ok (.iconst 2, 1)) ?_
        refine lg_N 111 [2] (show lCls 111 1 = true by decide +kernel) (Nat.le_of_ble_eq_true rfl) (vm_hw_in (i := 1377) (by decide +kernel)) (by decide +kernel : decode method_15_code 215 = .ok (.invokevirtual 245, 3)) h (fun z8 S7 h => ?_)
        refine lg_iconst (n := (-1)) (by decide) (by decide +kernel : decode method_15_code 218 = .ok (.iconst (-1), 1)) ?_
        refine lg_icmp_ne (t := 266) (by decide +kernel : decode method_15_code 219 = .ok (.if_icmp .ne 47, 3)) (by decide) ⟨fun c => ?_, fun c => ?_⟩
        · replace h := h.1 c
          refine lg_iconst (n := 0) (by decide) (by decide +kernel : decode method_15_code 266 = .ok (.iconst 0, 1)) ?_
          exact h
        · replace h := h.2 c
          refine lg_aload_n (k := 0) rfl rfl (by decide +kernel : decode method_15_code 222 = .ok (.aload_n 0, 1)) ?_
          refine lg_iconst (n := (-1)) (by decide) (by decide +kernel : decode method_15_code 223 = .ok (.iconst (-1), 1)) ?_
          refine lg_N 112 [(-1)] (show lCls 112 1 = true by decide +kernel) (Nat.le_of_ble_eq_true rfl) (vm_hw_in (i := 1381) (by decide +kernel)) (by decide +kernel : decode method_15_code 224 = .ok (.invokevirtual 252, 3)) h (fun z10 S9 h => ?_)
          refine lg_iconst (n := (-1)) (by decide) (by decide +kernel : decode method_15_code 227 = .ok (.iconst (-1), 1)) ?_
          refine lg_icmp_ne (t := 266) (by decide +kernel : decode method_15_code 228 = .ok (.if_icmp .ne 38, 3)) (by decide) ⟨fun c => ?_, fun c => ?_⟩
          · replace h := h.1 c
            refine lg_iconst (n := 0) (by decide) (by decide +kernel : decode method_15_code 266 = .ok (.iconst 0, 1)) ?_
            exact h
          · replace h := h.2 c
            refine lg_aload_n (k := 0) rfl rfl (by decide +kernel : decode method_15_code 231 = .ok (.aload_n 0, 1)) ?_
            refine lg_bipush (n := 12) (by decide) (by decide) (by decide +kernel : decode method_15_code 232 = .ok (.bipush 12, 2)) ?_
            refine lg_iconst (n := 0) (by decide) (by decide +kernel : decode method_15_code 234 = .ok (.iconst 0, 1)) ?_
            refine lg_N 128 [12, 0] (show lCls 128 2 = true by decide +kernel) (Nat.le_of_ble_eq_true rfl) (vm_hw_in (i := 1136) (by decide +kernel)) (by decide +kernel : decode method_15_code 235 = .ok (.invokevirtual 174, 3)) h (fun z12 S11 h => ?_)
            refine lg_iconst (n := (-1)) (by decide) (by decide +kernel : decode method_15_code 238 = .ok (.iconst (-1), 1)) ?_
            refine lg_icmp_ne (t := 266) (by decide +kernel : decode method_15_code 239 = .ok (.if_icmp .ne 27, 3)) (by decide) ⟨fun c => ?_, fun c => ?_⟩
            · replace h := h.1 c
              refine lg_iconst (n := 0) (by decide) (by decide +kernel : decode method_15_code 266 = .ok (.iconst 0, 1)) ?_
              exact h
            · replace h := h.2 c
              refine lg_aload_n (k := 0) rfl rfl (by decide +kernel : decode method_15_code 242 = .ok (.aload_n 0, 1)) ?_
              refine lg_iconst (n := (-1)) (by decide) (by decide +kernel : decode method_15_code 243 = .ok (.iconst (-1), 1)) ?_
              refine lg_iconst (n := 0) (by decide) (by decide +kernel : decode method_15_code 244 = .ok (.iconst 0, 1)) ?_
              refine lg_N 130 [(-1), 0] (show lCls 130 2 = true by decide +kernel) (Nat.le_of_ble_eq_true rfl) (vm_hw_in (i := 1151) (by decide +kernel)) (by decide +kernel : decode method_15_code 245 = .ok (.invokevirtual 177, 3)) h (fun z14 S13 h => ?_)
              refine lg_iconst (n := (-1)) (by decide) (by decide +kernel : decode method_15_code 248 = .ok (.iconst (-1), 1)) ?_
              refine lg_icmp_ne (t := 266) (by decide +kernel : decode method_15_code 249 = .ok (.if_icmp .ne 17, 3)) (by decide) ⟨fun c => ?_, fun c => ?_⟩
              · replace h := h.1 c
                refine lg_iconst (n := 0) (by decide) (by decide +kernel : decode method_15_code 266 = .ok (.iconst 0, 1)) ?_
                exact h
              · replace h := h.2 c
                refine lg_aload_n (k := 0) rfl rfl (by decide +kernel : decode method_15_code 252 = .ok (.aload_n 0, 1)) ?_
                refine lg_bipush (n := 13) (by decide) (by decide) (by decide +kernel : decode method_15_code 253 = .ok (.bipush 13, 2)) ?_
                refine lg_N 141 [13] (show lCls 141 1 = true by decide +kernel) (Nat.le_of_ble_eq_true rfl) (vm_hw_in (i := 1344) (by decide +kernel)) (by decide +kernel : decode method_15_code 255 = .ok (.invokevirtual 235, 3)) h (fun z16 S15 h => ?_)
                refine lg_iconst (n := (-1)) (by decide) (by decide +kernel : decode method_15_code 258 = .ok (.iconst (-1), 1)) ?_
                refine lg_icmp_ne (t := 266) (by decide +kernel : decode method_15_code 259 = .ok (.if_icmp .ne 7, 3)) (by decide) ⟨fun c => ?_, fun c => ?_⟩
                · replace h := h.1 c
                  refine lg_iconst (n := 0) (by decide) (by decide +kernel : decode method_15_code 266 = .ok (.iconst 0, 1)) ?_
                  exact h
                · replace h := h.2 c
                  refine lg_iconst (n := 1) (by decide) (by decide +kernel : decode method_15_code 262 = .ok (.iconst 1, 1)) ?_
                  refine lg_goto (t := 267) (by decide +kernel : decode method_15_code 263 = .ok (.goto 4, 3)) (by decide) ?_
                  exact h
set_option maxHeartbeats 4000000 in
theorem rL_undone_269 {S : lwS} {Qp : Option vm_V → lwS → Prop} {o0 : Nat} {o2 : Nat} {v3 : Int} {v5 : Int} (h : (v3 ≤ 0 → (lG lK_undone 298 [some (vm_r o0), none, some (vm_r o2), none, none, some (vm_i v5), none] [] S Qp)) ∧ (¬ (v3 ≤ 0) → ((v5 = 0 → (lG lK_undone 298 [some (vm_r o0), none, some (vm_r o2), none, none, some (vm_i v5), none] [] S Qp)) ∧ (¬ (v5 = 0) → (lNn 113 o0 [] S (fun z2 S1 => (z2 < 0 → (lG lK_undone 290 [some (vm_r o0), none, some (vm_r o2), some (vm_i v3), none, none, none] [vm_i 0] S1 Qp)) ∧ (¬ (z2 < 0) → (lG lK_undone 290 [some (vm_r o0), none, some (vm_r o2), some (vm_i v3), none, none, none] [vm_i 1] S1 Qp)))))))) : lG lK_undone 269 [some (vm_r o0), none, some (vm_r o2), some (vm_i v3), none, some (vm_i v5), none] [] S Qp := by
  refine lg_iload_n (k := 3) rfl rfl (by decide +kernel : decode method_15_code 269 = .ok (.iload_n 3, 1)) ?_
  refine lg_if_le (t := 298) (by decide +kernel : decode method_15_code 270 = .ok (.ifCond .le 28, 3)) (by decide) ⟨fun c => ?_, fun c => ?_⟩
  · replace h := h.1 c
    exact lg_sub (ls := [some (vm_r o0), none, some (vm_r o2), none, none, some (vm_i v5), none]) ⟨rfl, ⟨rfl, ⟨rfl, trivial⟩⟩⟩ h
  · replace h := h.2 c
    refine lg_iload (k := 5) rfl (by decide +kernel : decode method_15_code 273 = .ok (.iload 5, 2)) ?_
    refine lg_if_eq (t := 298) (by decide +kernel : decode method_15_code 275 = .ok (.ifCond .eq 23, 3)) (by decide) ⟨fun c => ?_, fun c => ?_⟩
    · replace h := h.1 c
      exact lg_sub (ls := [some (vm_r o0), none, some (vm_r o2), none, none, some (vm_i v5), none]) ⟨rfl, ⟨rfl, ⟨rfl, trivial⟩⟩⟩ h
    · replace h := h.2 c
      refine lg_aload_n (k := 0) rfl rfl (by decide +kernel : decode method_15_code 278 = .ok (.aload_n 0, 1)) ?_
      refine lg_N 113 [] (show lCls 113 0 = true by decide +kernel) (Nat.le_of_ble_eq_true rfl) (vm_hw_in (i := 1109) (by decide +kernel)) (by decide +kernel : decode method_15_code 279 = .ok (.invokevirtual 168, 3)) h (fun z2 S1 h => ?_)
      refine lg_if_lt (t := 289) (by decide +kernel : decode method_15_code 282 = .ok (.ifCond .lt 7, 3)) (by decide) ⟨fun c => ?_, fun c => ?_⟩
      · replace h := h.1 c
        refine lg_iconst (n := 0) (by decide) (by decide +kernel : decode method_15_code 289 = .ok (.iconst 0, 1)) ?_
        exact lg_sub (ls := [some (vm_r o0), none, some (vm_r o2), some (vm_i v3), none, none, none]) ⟨rfl, ⟨rfl, ⟨rfl, trivial⟩⟩⟩ h
      · replace h := h.2 c
        refine lg_iconst (n := 1) (by decide) (by decide +kernel : decode method_15_code 285 = .ok (.iconst 1, 1)) ?_
        refine lg_goto (t := 290) (by decide +kernel : decode method_15_code 286 = .ok (.goto 4, 3)) (by decide) ?_
        exact lg_sub (ls := [some (vm_r o0), none, some (vm_r o2), some (vm_i v3), none, none, none]) ⟨rfl, ⟨rfl, ⟨rfl, trivial⟩⟩⟩ h
set_option maxHeartbeats 4000000 in
theorem rL_undone_298 {S : lwS} {Qp : Option vm_V → lwS → Prop} {o0 : Nat} {o2 : Nat} {v5 : Int} (h : (v5 = 0 → (lG lK_undone 319 [some (vm_r o0), none, none, none, none, none, none] [vm_i 0] S Qp)) ∧ (¬ (v5 = 0) → (lCr lK_told [vm_r o0] S (fun r2 S1 => lEq r2 o2 S1 (lG lK_undone 319 [some (vm_r o0), none, none, none, none, none, none] [vm_i 1] S1 Qp))))) : lG lK_undone 298 [some (vm_r o0), none, some (vm_r o2), none, none, some (vm_i v5), none] [] S Qp := by
  refine lg_iload (k := 5) rfl (by decide +kernel : decode method_15_code 298 = .ok (.iload 5, 2)) ?_
  refine lg_if_eq (t := 318) (by decide +kernel : decode method_15_code 300 = .ok (.ifCond .eq 18, 3)) (by decide) ⟨fun c => ?_, fun c => ?_⟩
  · replace h := h.1 c
    refine lg_iconst (n := 0) (by decide) (by decide +kernel : decode method_15_code 318 = .ok (.iconst 0, 1)) ?_
    exact lg_sub (ls := [some (vm_r o0), none, none, none, none, none, none]) ⟨rfl, trivial⟩ h
  · replace h := h.2 c
    refine lg_aload_n (k := 0) rfl rfl (by decide +kernel : decode method_15_code 303 = .ok (.aload_n 0, 1)) ?_
    refine lg_Cr [vm_r o0] lOK_told rfl (show 2 < 3 by decide) (vm_hw_in (i := 1246) (by decide +kernel)) (by decide +kernel : decode method_15_code 304 = .ok (.invokestatic 225, 3)) (Nat.le_of_ble_eq_true rfl) (Nat.le_of_ble_eq_true rfl) h (fun r2 S1 h => ?_)
    refine lg_aload_n (k := 2) rfl rfl (by decide +kernel : decode method_15_code 307 = .ok (.aload_n 2, 1)) ?_
    refine lg_Eq (vm_hw_in (i := 1366) (by decide +kernel)) (by decide +kernel : decode method_15_code 308 = .ok (.invokevirtual 241, 3)) (Nat.le_of_ble_eq_true rfl) h (fun h => ?_)
    refine lg_if_eq (t := 318) (by decide +kernel : decode method_15_code 311 = .ok (.ifCond .eq 7, 3)) (by decide) ⟨fun c => absurd c (by decide), fun c => ?_⟩
    refine lg_iconst (n := 1) (by decide) (by decide +kernel : decode method_15_code 314 = .ok (.iconst 1, 1)) ?_
    refine lg_goto (t := 319) (by decide +kernel : decode method_15_code 315 = .ok (.goto 4, 3)) (by decide) ?_
    exact lg_sub (ls := [some (vm_r o0), none, none, none, none, none, none]) ⟨rfl, trivial⟩ h
set_option maxHeartbeats 4000000 in
theorem rL_undone_290 {S : lwS} {Qp : Option vm_V → lwS → Prop} {o0 : Nat} {o2 : Nat} {v3 : Int} {x0 : Int} (h : (vm_32 (v3 + (-1))) ∧ (lG lK_undone 269 [some (vm_r o0), none, some (vm_r o2), some (vm_i ((v3 + (-1)))), none, some (vm_i x0), none] [] S Qp)) : lG lK_undone 290 [some (vm_r o0), none, some (vm_r o2), some (vm_i v3), none, none, none] [vm_i x0] S Qp := by
  refine lg_istore (k := 5) (l1 := [some (vm_r o0), none, some (vm_r o2), some (vm_i v3), none, some (vm_i x0), none]) rfl rfl (by decide +kernel : decode method_15_code 290 = .ok (.istore 5, 2)) ?_
  obtain ⟨h1, h⟩ := h
  refine lg_iinc (k := 3) (l1 := [some (vm_r o0), none, some (vm_r o2), some (vm_i ((v3 + (-1)))), none, some (vm_i x0), none]) rfl rfl rfl h1 (by decide +kernel : decode method_15_code 292 = .ok (.iinc 3 (-1), 3)) ?_
  refine lg_goto (t := 269) (by decide +kernel : decode method_15_code 295 = .ok (.goto (-26), 3)) (by decide) ?_
  exact h
set_option maxHeartbeats 4000000 in
theorem rL_undone_319 {S : lwS} {Qp : Option vm_V → lwS → Prop} {o0 : Nat} {x0 : Int} (h : lNx S (fun r2 S1 => (x0 = 0 → (Qp (some (vm_i 0)) S1)) ∧ (¬ (x0 = 0) → (lCr lK_text [vm_r o0, vm_i 0] S1 (fun r4 S3 => lCi lK_loads [vm_r r2, vm_r r4] S3 (fun z6 S5 => (z6 = 0 → (Qp (some (vm_i 0)) S5)) ∧ (¬ (z6 = 0) → (lCr lK_text [vm_r r2, vm_i 0] S5 (fun r8 S7 => lCr lK_text [vm_r o0, vm_i 0] S7 (fun r10 S9 => lEq r8 r10 S9 (lNn 115 r2 [11] S9 (fun z12 S11 => (¬ z12 = 0 → (Qp (some (vm_i 0)) S11)) ∧ (¬ (¬ z12 = 0) → (lNn 115 r2 [10] S11 (fun z14 S13 => lNn 115 o0 [10] S13 (fun z16 S15 => (¬ z14 = z16 → (Qp (some (vm_i 0)) S15)) ∧ (¬ (¬ z14 = z16) → (Qp (some (vm_i 1)) S15)))))))))))))))))) : lG lK_undone 319 [some (vm_r o0), none, none, none, none, none, none] [vm_i x0] S Qp := by
  refine lg_istore (k := 5) (l1 := [some (vm_r o0), none, none, none, none, some (vm_i x0), none]) rfl rfl (by decide +kernel : decode method_15_code 319 = .ok (.istore 5, 2)) ?_
  refine lg_Nx (show 3 ≤ 3 by decide) (vm_hw_in (i := 60) (by decide +kernel)) (vm_hw_in (i := 62) (by decide +kernel)) (by decide +kernel : decode method_15_code 321 = .ok (.new 9, 3)) (by decide +kernel : decode method_15_code 324 = .ok (.dup, 1)) (by decide +kernel : decode method_15_code 325 = .ok (.invokespecial 255, 3)) (Nat.le_of_ble_eq_true rfl) h (fun r2 S1 h => ?_)
  refine lg_astore (k := 6) (l1 := [some (vm_r o0), none, none, none, none, some (vm_i x0), some (vm_r r2)]) rfl rfl (by decide +kernel : decode method_15_code 328 = .ok (.astore 6, 2)) ?_
  refine lg_iload (k := 5) rfl (by decide +kernel : decode method_15_code 330 = .ok (.iload 5, 2)) ?_
  refine lg_if_eq (t := 395) (by decide +kernel : decode method_15_code 332 = .ok (.ifCond .eq 63, 3)) (by decide) ⟨fun c => ?_, fun c => ?_⟩
  · replace h := h.1 c
    refine lg_iconst (n := 0) (by decide) (by decide +kernel : decode method_15_code 395 = .ok (.iconst 0, 1)) ?_
    exact lg_ret (Or.inl ⟨0, (by decide +kernel : decode method_15_code 396 = .ok (.ireturn, 1)), Or.inr ⟨rfl, by decide⟩, rfl, rfl⟩) h
  · replace h := h.2 c
    refine lg_aload (k := 6) rfl (by decide +kernel : decode method_15_code 335 = .ok (.aload 6, 2)) ?_
    refine lg_aload_n (k := 0) rfl rfl (by decide +kernel : decode method_15_code 337 = .ok (.aload_n 0, 1)) ?_
    refine lg_iconst (n := 0) (by decide) (by decide +kernel : decode method_15_code 338 = .ok (.iconst 0, 1)) ?_
    refine lg_Cr [vm_r o0, vm_i 0] lOK_text rfl (show 1 < 3 by decide) (vm_hw_in (i := 1249) (by decide +kernel)) (by decide +kernel : decode method_15_code 339 = .ok (.invokestatic 216, 3)) (Nat.le_of_ble_eq_true rfl) (Nat.le_of_ble_eq_true rfl) h (fun r4 S3 h => ?_)
    refine lg_Ci [vm_r r2, vm_r r4] lOK_loads rfl (show 2 < 3 by decide) (vm_hw_in (i := 397) (by decide +kernel)) (by decide +kernel : decode method_15_code 342 = .ok (.invokestatic 256, 3)) (Nat.le_of_ble_eq_true rfl) (Nat.le_of_ble_eq_true rfl) h (fun z6 S5 h => ?_)
    refine lg_if_eq (t := 395) (by decide +kernel : decode method_15_code 345 = .ok (.ifCond .eq 50, 3)) (by decide) ⟨fun c => ?_, fun c => ?_⟩
    · replace h := h.1 c
      refine lg_iconst (n := 0) (by decide) (by decide +kernel : decode method_15_code 395 = .ok (.iconst 0, 1)) ?_
      exact lg_ret (Or.inl ⟨0, (by decide +kernel : decode method_15_code 396 = .ok (.ireturn, 1)), Or.inr ⟨rfl, by decide⟩, rfl, rfl⟩) h
    · replace h := h.2 c
      refine lg_aload (k := 6) rfl (by decide +kernel : decode method_15_code 348 = .ok (.aload 6, 2)) ?_
      refine lg_iconst (n := 0) (by decide) (by decide +kernel : decode method_15_code 350 = .ok (.iconst 0, 1)) ?_
      refine lg_Cr [vm_r r2, vm_i 0] lOK_text rfl (show 1 < 3 by decide) (vm_hw_in (i := 1249) (by decide +kernel)) (by decide +kernel : decode method_15_code 351 = .ok (.invokestatic 216, 3)) (Nat.le_of_ble_eq_true rfl) (Nat.le_of_ble_eq_true rfl) h (fun r8 S7 h => ?_)
      refine lg_aload_n (k := 0) rfl rfl (by decide +kernel : decode method_15_code 354 = .ok (.aload_n 0, 1)) ?_
      refine lg_iconst (n := 0) (by decide) (by decide +kernel : decode method_15_code 355 = .ok (.iconst 0, 1)) ?_
      refine lg_Cr [vm_r o0, vm_i 0] lOK_text rfl (show 1 < 3 by decide) (vm_hw_in (i := 1249) (by decide +kernel)) (by decide +kernel : decode method_15_code 356 = .ok (.invokestatic 216, 3)) (Nat.le_of_ble_eq_true rfl) (Nat.le_of_ble_eq_true rfl) h (fun r10 S9 h => ?_)
      refine lg_Eq (vm_hw_in (i := 1366) (by decide +kernel)) (by decide +kernel : decode method_15_code 359 = .ok (.invokevirtual 241, 3)) (Nat.le_of_ble_eq_true rfl) h (fun h => ?_)
      refine lg_if_eq (t := 395) (by decide +kernel : decode method_15_code 362 = .ok (.ifCond .eq 33, 3)) (by decide) ⟨fun c => absurd c (by decide), fun c => ?_⟩
      refine lg_aload (k := 6) rfl (by decide +kernel : decode method_15_code 365 = .ok (.aload 6, 2)) ?_
      refine lg_bipush (n := 11) (by decide) (by decide) (by decide +kernel : decode method_15_code 367 = .ok (.bipush 11, 2)) ?_
      refine lg_N 115 [11] (show lCls 115 1 = true by decide +kernel) (Nat.le_of_ble_eq_true rfl) (vm_hw_in (i := 604) (by decide +kernel)) (by decide +kernel : decode method_15_code 369 = .ok (.invokevirtual 40, 3)) h (fun z12 S11 h => ?_)
      refine lg_if_ne (t := 395) (by decide +kernel : decode method_15_code 372 = .ok (.ifCond .ne 23, 3)) (by decide) ⟨fun c => ?_, fun c => ?_⟩
      · replace h := h.1 c
        refine lg_iconst (n := 0) (by decide) (by decide +kernel : decode method_15_code 395 = .ok (.iconst 0, 1)) ?_
        exact lg_ret (Or.inl ⟨0, (by decide +kernel : decode method_15_code 396 = .ok (.ireturn, 1)), Or.inr ⟨rfl, by decide⟩, rfl, rfl⟩) h
      · replace h := h.2 c
        refine lg_aload (k := 6) rfl (by decide +kernel : decode method_15_code 375 = .ok (.aload 6, 2)) ?_
        refine lg_bipush (n := 10) (by decide) (by decide) (by decide +kernel : decode method_15_code 377 = .ok (.bipush 10, 2)) ?_
        refine lg_N 115 [10] (show lCls 115 1 = true by decide +kernel) (Nat.le_of_ble_eq_true rfl) (vm_hw_in (i := 604) (by decide +kernel)) (by decide +kernel : decode method_15_code 379 = .ok (.invokevirtual 40, 3)) h (fun z14 S13 h => ?_)
        refine lg_aload_n (k := 0) rfl rfl (by decide +kernel : decode method_15_code 382 = .ok (.aload_n 0, 1)) ?_
        refine lg_bipush (n := 10) (by decide) (by decide) (by decide +kernel : decode method_15_code 383 = .ok (.bipush 10, 2)) ?_
        refine lg_N 115 [10] (show lCls 115 1 = true by decide +kernel) (Nat.le_of_ble_eq_true rfl) (vm_hw_in (i := 604) (by decide +kernel)) (by decide +kernel : decode method_15_code 385 = .ok (.invokevirtual 40, 3)) h (fun z16 S15 h => ?_)
        refine lg_icmp_ne (t := 395) (by decide +kernel : decode method_15_code 388 = .ok (.if_icmp .ne 7, 3)) (by decide) ⟨fun c => ?_, fun c => ?_⟩
        · replace h := h.1 c
          refine lg_iconst (n := 0) (by decide) (by decide +kernel : decode method_15_code 395 = .ok (.iconst 0, 1)) ?_
          exact lg_ret (Or.inl ⟨0, (by decide +kernel : decode method_15_code 396 = .ok (.ireturn, 1)), Or.inr ⟨rfl, by decide⟩, rfl, rfl⟩) h
        · replace h := h.2 c
          refine lg_iconst (n := 1) (by decide) (by decide +kernel : decode method_15_code 391 = .ok (.iconst 1, 1)) ?_
          refine lg_goto (t := 396) (by decide +kernel : decode method_15_code 392 = .ok (.goto 4, 3)) (by decide) ?_
          exact lg_ret (Or.inl ⟨1, (by decide +kernel : decode method_15_code 396 = .ok (.ireturn, 1)), Or.inr ⟨rfl, by decide⟩, rfl, rfl⟩) h
set_option maxHeartbeats 4000000 in
theorem rL_law_0 {S : lwS} {Qp : Option vm_V → lwS → Prop} {Ls : Nat} (hLs : Ls ≤ 3072)  (h : lNi 8 S (fun r1 S2 => lG (lK_law Ls) 9 [some (vm_r 99), some (vm_r r1), some (vm_i 1), some (vm_i 0), none, none, none] [] S2 Qp)) : lG (lK_law Ls) 0 [some (vm_r 99), none, none, none, none, none, none] [] S Qp := by
  refine lg_bipush (n := 8) (by decide) (by decide) (by decide +kernel : decode code 0 = .ok (.bipush 8, 2)) ?_
  refine lg_Ni (N := 8) (by decide +kernel : decode code 2 = .ok (.newarray .int, 2)) (by decide) h (fun r1 S2 h => ?_)
  refine lg_astore_n (k := 1) (l1 := [some (vm_r 99), some (vm_r r1), none, none, none, none, none]) rfl rfl rfl (by decide +kernel : decode code 4 = .ok (.astore_n 1, 1)) ?_
  refine lg_iconst (n := 1) (by decide) (by decide +kernel : decode code 5 = .ok (.iconst 1, 1)) ?_
  refine lg_istore_n (k := 2) (l1 := [some (vm_r 99), some (vm_r r1), some (vm_i 1), none, none, none, none]) rfl rfl rfl (by decide +kernel : decode code 6 = .ok (.istore_n 2, 1)) ?_
  refine lg_iconst (n := 0) (by decide) (by decide +kernel : decode code 7 = .ok (.iconst 0, 1)) ?_
  refine lg_istore_n (k := 3) (l1 := [some (vm_r 99), some (vm_r r1), some (vm_i 1), some (vm_i 0), none, none, none]) rfl rfl rfl (by decide +kernel : decode code 8 = .ok (.istore_n 3, 1)) ?_
  exact h
set_option maxHeartbeats 4000000 in
theorem rL_law_9 {S : lwS} {Qp : Option vm_V → lwS → Prop} {Ls : Nat} (hLs : Ls ≤ 3072) {o1 : Nat} {v2 : Int} {v3 : Int} (h : (2 ≤ v3 → (lG (lK_law Ls) 164 [none, none, some (vm_i v2), none, none, none, none] [] S Qp)) ∧ (¬ (2 ≤ v3) → ((v2 = 0 → (lG (lK_law Ls) 164 [none, none, some (vm_i v2), none, none, none, none] [] S Qp)) ∧ (¬ (v2 = 0) → ((((Ls : Int)) ≤ v3 → ((vm_32 (37 * v3)) ∧ (lG (lK_law Ls) 37 [some (vm_r 99), some (vm_r o1), none, some (vm_i v3), none, none, none] [vm_i ((37 * v3)), vm_i 7, vm_r o1] S Qp))) ∧ (¬ (((Ls : Int)) ≤ v3) → (((0 : Int) ≤ v3 ∧ v3 < (Ls : Int)) ∧ ∀ z1, vm_32 z1 → (lG (lK_law Ls) 37 [some (vm_r 99), some (vm_r o1), none, some (vm_i v3), none, none, none] [vm_i z1, vm_i 7, vm_r o1] S Qp)))))))) : lG (lK_law Ls) 9 [some (vm_r 99), some (vm_r o1), some (vm_i v2), some (vm_i v3), none, none, none] [] S Qp := by
  refine lg_iload_n (k := 3) rfl rfl (by decide +kernel : decode code 9 = .ok (.iload_n 3, 1)) ?_
  refine lg_iconst (n := 2) (by decide) (by decide +kernel : decode code 10 = .ok (.iconst 2, 1)) ?_
  refine lg_icmp_ge (t := 164) (by decide +kernel : decode code 11 = .ok (.if_icmp .ge 153, 3)) (by decide) ⟨fun c => ?_, fun c => ?_⟩
  · replace h := h.1 c
    exact lg_sub (ls := [none, none, some (vm_i v2), none, none, none, none]) ⟨rfl, trivial⟩ h
  · replace h := h.2 c
    refine lg_iload_n (k := 2) rfl rfl (by decide +kernel : decode code 14 = .ok (.iload_n 2, 1)) ?_
    refine lg_if_eq (t := 164) (by decide +kernel : decode code 15 = .ok (.ifCond .eq 149, 3)) (by decide) ⟨fun c => ?_, fun c => ?_⟩
    · replace h := h.1 c
      exact lg_sub (ls := [none, none, some (vm_i v2), none, none, none, none]) ⟨rfl, trivial⟩ h
    · replace h := h.2 c
      refine lg_aload_n (k := 1) rfl rfl (by decide +kernel : decode code 18 = .ok (.aload_n 1, 1)) ?_
      refine lg_bipush (n := 7) (by decide) (by decide) (by decide +kernel : decode code 19 = .ok (.bipush 7, 2)) ?_
      refine lg_iload_n (k := 3) rfl rfl (by decide +kernel : decode code 21 = .ok (.iload_n 3, 1)) ?_
      refine lg_aload_n (k := 0) rfl rfl (by decide +kernel : decode code 22 = .ok (.aload_n 0, 1)) ?_
      refine lg_slen rfl hLs (by decide +kernel : decode code 23 = .ok (.arraylength, 1)) ?_
      refine lg_icmp_ge (t := 33) (by decide +kernel : decode code 24 = .ok (.if_icmp .ge 9, 3)) (by decide) ⟨fun c => ?_, fun c => ?_⟩
      · replace h := h.1 c
        refine lg_bipush (n := 37) (by decide) (by decide) (by decide +kernel : decode code 33 = .ok (.bipush 37, 2)) ?_
        refine lg_iload_n (k := 3) rfl rfl (by decide +kernel : decode code 35 = .ok (.iload_n 3, 1)) ?_
        obtain ⟨h1, h⟩ := h
        refine lg_imul h1 (by decide +kernel : decode code 36 = .ok (.imul, 1)) ?_
        exact lg_sub (ls := [some (vm_r 99), some (vm_r o1), none, some (vm_i v3), none, none, none]) ⟨rfl, ⟨rfl, ⟨rfl, trivial⟩⟩⟩ h
      · replace h := h.2 c
        refine lg_aload_n (k := 0) rfl rfl (by decide +kernel : decode code 27 = .ok (.aload_n 0, 1)) ?_
        refine lg_iload_n (k := 3) rfl rfl (by decide +kernel : decode code 28 = .ok (.iload_n 3, 1)) ?_
        obtain ⟨h1, h⟩ := h
        refine lg_sld rfl hLs h1 (by decide +kernel : decode code 29 = .ok (.iaload, 1)) (fun z1 hz => ?_)
        replace h := h z1 hz
        refine lg_goto (t := 37) (by decide +kernel : decode code 30 = .ok (.goto 7, 3)) (by decide) ?_
        exact lg_sub (ls := [some (vm_r 99), some (vm_r o1), none, some (vm_i v3), none, none, none]) ⟨rfl, ⟨rfl, ⟨rfl, trivial⟩⟩⟩ h
set_option maxHeartbeats 4000000 in
theorem rL_law_164 {S : lwS} {Qp : Option vm_V → lwS → Prop} {Ls : Nat} (hLs : Ls ≤ 3072) {v2 : Int} (h : (v2 = 0 ∨ v2 = 1) ∧ Qp (some (vm_i v2)) S) : lG (lK_law Ls) 164 [none, none, some (vm_i v2), none, none, none, none] [] S Qp := by
  refine lg_iload_n (k := 2) rfl rfl (by decide +kernel : decode code 164 = .ok (.iload_n 2, 1)) ?_
  exact lg_ret (Or.inl ⟨_, (by decide +kernel : decode code 165 = .ok (.ireturn, 1)), Or.inr ⟨rfl, h.1⟩, rfl, rfl⟩) h.2
set_option maxHeartbeats 4000000 in
theorem rL_law_37 {S : lwS} {Qp : Option vm_V → lwS → Prop} {Ls : Nat} (hLs : Ls ≤ 3072) {o1 : Nat} {v3 : Int} {x0 : Int} {x1 : Int} {x2 : Nat} (h : lSt x2 x1 x0 S (fun S1 => lNx S1 (fun r3 S2 => lCr lK_setup [vm_r o1] S2 (fun r5 S4 => lCi lK_loads [vm_r r3, vm_r r5] S4 (fun z7 S6 => (z7 = 0 → (lG (lK_law Ls) 95 [some (vm_r 99), some (vm_r o1), none, some (vm_i v3), some (vm_r r3), none, none] [vm_i 0] S6 Qp)) ∧ (¬ (z7 = 0) → (lCi lK_pairs [vm_r r3, vm_r o1] S6 (fun z9 S8 => (z9 = 0 → (lG (lK_law Ls) 95 [some (vm_r 99), some (vm_r o1), none, some (vm_i v3), some (vm_r r3), none, none] [vm_i 0] S8 Qp)) ∧ (¬ (z9 = 0) → (lCr lK_words [vm_r r3, vm_r o1] S8 (fun r11 S10 => lCi lK_says [vm_r r3, vm_r r11] S10 (fun z13 S12 => (z13 = 0 → (lG (lK_law Ls) 95 [some (vm_r 99), some (vm_r o1), none, some (vm_i v3), some (vm_r r3), none, none] [vm_i 0] S12 Qp)) ∧ (¬ (z13 = 0) → (lCi lK_stands [vm_r r3] S12 (fun z15 S14 => (z15 = 0 → (lG (lK_law Ls) 95 [some (vm_r 99), some (vm_r o1), none, some (vm_i v3), some (vm_r r3), none, none] [vm_i 0] S14 Qp)) ∧ (¬ (z15 = 0) → (lG (lK_law Ls) 95 [some (vm_r 99), some (vm_r o1), none, some (vm_i v3), some (vm_r r3), none, none] [vm_i 1] S14 Qp))))))))))))))))) : lG (lK_law Ls) 37 [some (vm_r 99), some (vm_r o1), none, some (vm_i v3), none, none, none] [vm_i x0, vm_i x1, vm_r x2] S Qp := by
  refine lg_St (by decide +kernel : decode code 37 = .ok (.iastore, 1)) h (fun S1 h => ?_)
  refine lg_Nx (show 3 ≤ 4 by decide) (vm_hw_in (i := 60) (by decide +kernel)) (vm_hw_in (i := 62) (by decide +kernel)) (by decide +kernel : decode code 38 = .ok (.new 9, 3)) (by decide +kernel : decode code 41 = .ok (.dup, 1)) (by decide +kernel : decode code 42 = .ok (.invokespecial 255, 3)) (Nat.le_of_ble_eq_true rfl) h (fun r3 S2 h => ?_)
  refine lg_astore (k := 4) (l1 := [some (vm_r 99), some (vm_r o1), none, some (vm_i v3), some (vm_r r3), none, none]) rfl rfl (by decide +kernel : decode code 45 = .ok (.astore 4, 2)) ?_
  refine lg_aload (k := 4) rfl (by decide +kernel : decode code 47 = .ok (.aload 4, 2)) ?_
  refine lg_aload_n (k := 1) rfl rfl (by decide +kernel : decode code 49 = .ok (.aload_n 1, 1)) ?_
  refine lg_Cr [vm_r o1] lOK_setup rfl (show 2 < 4 by decide) (vm_hw_in (i := 773) (by decide +kernel)) (by decide +kernel : decode code 50 = .ok (.invokestatic 260, 3)) (Nat.le_of_ble_eq_true rfl) (Nat.le_of_ble_eq_true rfl) h (fun r5 S4 h => ?_)
  refine lg_Ci [vm_r r3, vm_r r5] lOK_loads rfl (show 2 < 4 by decide) (vm_hw_in (i := 397) (by decide +kernel)) (by decide +kernel : decode code 53 = .ok (.invokestatic 256, 3)) (Nat.le_of_ble_eq_true rfl) (Nat.le_of_ble_eq_true rfl) h (fun z7 S6 h => ?_)
  refine lg_if_eq (t := 94) (by decide +kernel : decode code 56 = .ok (.ifCond .eq 38, 3)) (by decide) ⟨fun c => ?_, fun c => ?_⟩
  · replace h := h.1 c
    refine lg_iconst (n := 0) (by decide) (by decide +kernel : decode code 94 = .ok (.iconst 0, 1)) ?_
    exact h
  · replace h := h.2 c
    refine lg_aload (k := 4) rfl (by decide +kernel : decode code 59 = .ok (.aload 4, 2)) ?_
    refine lg_aload_n (k := 1) rfl rfl (by decide +kernel : decode code 61 = .ok (.aload_n 1, 1)) ?_
    refine lg_Ci [vm_r r3, vm_r o1] lOK_pairs rfl (show 1 < 4 by decide) (vm_hw_in (i := 1073) (by decide +kernel)) (by decide +kernel : decode code 62 = .ok (.invokestatic 264, 3)) (Nat.le_of_ble_eq_true rfl) (Nat.le_of_ble_eq_true rfl) h (fun z9 S8 h => ?_)
    refine lg_if_eq (t := 94) (by decide +kernel : decode code 65 = .ok (.ifCond .eq 29, 3)) (by decide) ⟨fun c => ?_, fun c => ?_⟩
    · replace h := h.1 c
      refine lg_iconst (n := 0) (by decide) (by decide +kernel : decode code 94 = .ok (.iconst 0, 1)) ?_
      exact h
    · replace h := h.2 c
      refine lg_aload (k := 4) rfl (by decide +kernel : decode code 68 = .ok (.aload 4, 2)) ?_
      refine lg_aload (k := 4) rfl (by decide +kernel : decode code 70 = .ok (.aload 4, 2)) ?_
      refine lg_aload_n (k := 1) rfl rfl (by decide +kernel : decode code 72 = .ok (.aload_n 1, 1)) ?_
      refine lg_Cr [vm_r r3, vm_r o1] lOK_words rfl (show 2 < 4 by decide) (vm_hw_in (i := 1032) (by decide +kernel)) (by decide +kernel : decode code 73 = .ok (.invokestatic 268, 3)) (Nat.le_of_ble_eq_true rfl) (Nat.le_of_ble_eq_true rfl) h (fun r11 S10 h => ?_)
      refine lg_Ci [vm_r r3, vm_r r11] lOK_says rfl (show 2 < 4 by decide) (vm_hw_in (i := 745) (by decide +kernel)) (by decide +kernel : decode code 76 = .ok (.invokestatic 272, 3)) (Nat.le_of_ble_eq_true rfl) (Nat.le_of_ble_eq_true rfl) h (fun z13 S12 h => ?_)
      refine lg_if_eq (t := 94) (by decide +kernel : decode code 79 = .ok (.ifCond .eq 15, 3)) (by decide) ⟨fun c => ?_, fun c => ?_⟩
      · replace h := h.1 c
        refine lg_iconst (n := 0) (by decide) (by decide +kernel : decode code 94 = .ok (.iconst 0, 1)) ?_
        exact h
      · replace h := h.2 c
        refine lg_aload (k := 4) rfl (by decide +kernel : decode code 82 = .ok (.aload 4, 2)) ?_
        refine lg_Ci [vm_r r3] lOK_stands rfl (show 1 < 4 by decide) (vm_hw_in (i := 1133) (by decide +kernel)) (by decide +kernel : decode code 84 = .ok (.invokestatic 275, 3)) (Nat.le_of_ble_eq_true rfl) (Nat.le_of_ble_eq_true rfl) h (fun z15 S14 h => ?_)
        refine lg_if_eq (t := 94) (by decide +kernel : decode code 87 = .ok (.ifCond .eq 7, 3)) (by decide) ⟨fun c => ?_, fun c => ?_⟩
        · replace h := h.1 c
          refine lg_iconst (n := 0) (by decide) (by decide +kernel : decode code 94 = .ok (.iconst 0, 1)) ?_
          exact h
        · replace h := h.2 c
          refine lg_iconst (n := 1) (by decide) (by decide +kernel : decode code 90 = .ok (.iconst 1, 1)) ?_
          refine lg_goto (t := 95) (by decide +kernel : decode code 91 = .ok (.goto 4, 3)) (by decide) ?_
          exact h
set_option maxHeartbeats 4000000 in
theorem rL_law_95 {S : lwS} {Qp : Option vm_V → lwS → Prop} {Ls : Nat} (hLs : Ls ≤ 3072) {o1 : Nat} {v3 : Int} {o4 : Nat} {x0 : Int} (h : lG (lK_law Ls) 99 [some (vm_r 99), some (vm_r o1), some (vm_i x0), some (vm_i v3), some (vm_r o4), some (vm_i 0), none] [] S Qp) : lG (lK_law Ls) 95 [some (vm_r 99), some (vm_r o1), none, some (vm_i v3), some (vm_r o4), none, none] [vm_i x0] S Qp := by
  refine lg_istore_n (k := 2) (l1 := [some (vm_r 99), some (vm_r o1), some (vm_i x0), some (vm_i v3), some (vm_r o4), none, none]) rfl rfl rfl (by decide +kernel : decode code 95 = .ok (.istore_n 2, 1)) ?_
  refine lg_iconst (n := 0) (by decide) (by decide +kernel : decode code 96 = .ok (.iconst 0, 1)) ?_
  refine lg_istore (k := 5) (l1 := [some (vm_r 99), some (vm_r o1), some (vm_i x0), some (vm_i v3), some (vm_r o4), some (vm_i 0), none]) rfl rfl (by decide +kernel : decode code 97 = .ok (.istore 5, 2)) ?_
  exact h
set_option maxHeartbeats 4000000 in
theorem rL_law_99 {S : lwS} {Qp : Option vm_V → lwS → Prop} {Ls : Nat} (hLs : Ls ≤ 3072) {o1 : Nat} {v2 : Int} {v3 : Int} {o4 : Nat} {v5 : Int} (h : (8 ≤ v5 → (lG (lK_law Ls) 130 [some (vm_r 99), some (vm_r o1), some (vm_i v2), some (vm_i v3), some (vm_r o4), none, none] [] S Qp)) ∧ (¬ (8 ≤ v5) → ((v2 = 0 → (lG (lK_law Ls) 130 [some (vm_r 99), some (vm_r o1), some (vm_i v2), some (vm_i v3), some (vm_r o4), none, none] [] S Qp)) ∧ (¬ (v2 = 0) → (lCi lK_acts [vm_r o4, vm_r o1] S (fun z2 S1 => lCi lK_stands [vm_r o4] S1 (fun z4 S3 => (vm_32 (v5 + 1)) ∧ (lG (lK_law Ls) 99 [some (vm_r 99), some (vm_r o1), some (vm_i z4), some (vm_i v3), some (vm_r o4), some (vm_i ((v5 + 1))), none] [] S3 Qp)))))))) : lG (lK_law Ls) 99 [some (vm_r 99), some (vm_r o1), some (vm_i v2), some (vm_i v3), some (vm_r o4), some (vm_i v5), none] [] S Qp := by
  refine lg_iload (k := 5) rfl (by decide +kernel : decode code 99 = .ok (.iload 5, 2)) ?_
  refine lg_bipush (n := 8) (by decide) (by decide) (by decide +kernel : decode code 101 = .ok (.bipush 8, 2)) ?_
  refine lg_icmp_ge (t := 130) (by decide +kernel : decode code 103 = .ok (.if_icmp .ge 27, 3)) (by decide) ⟨fun c => ?_, fun c => ?_⟩
  · replace h := h.1 c
    exact lg_sub (ls := [some (vm_r 99), some (vm_r o1), some (vm_i v2), some (vm_i v3), some (vm_r o4), none, none]) ⟨rfl, ⟨rfl, ⟨rfl, ⟨rfl, ⟨rfl, trivial⟩⟩⟩⟩⟩ h
  · replace h := h.2 c
    refine lg_iload_n (k := 2) rfl rfl (by decide +kernel : decode code 106 = .ok (.iload_n 2, 1)) ?_
    refine lg_if_eq (t := 130) (by decide +kernel : decode code 107 = .ok (.ifCond .eq 23, 3)) (by decide) ⟨fun c => ?_, fun c => ?_⟩
    · replace h := h.1 c
      exact lg_sub (ls := [some (vm_r 99), some (vm_r o1), some (vm_i v2), some (vm_i v3), some (vm_r o4), none, none]) ⟨rfl, ⟨rfl, ⟨rfl, ⟨rfl, ⟨rfl, trivial⟩⟩⟩⟩⟩ h
    · replace h := h.2 c
      refine lg_aload (k := 4) rfl (by decide +kernel : decode code 110 = .ok (.aload 4, 2)) ?_
      refine lg_aload_n (k := 1) rfl rfl (by decide +kernel : decode code 112 = .ok (.aload_n 1, 1)) ?_
      refine lg_Ci [vm_r o4, vm_r o1] lOK_acts rfl (show 1 < 4 by decide) (vm_hw_in (i := 1037) (by decide +kernel)) (by decide +kernel : decode code 113 = .ok (.invokestatic 248, 3)) (Nat.le_of_ble_eq_true rfl) (Nat.le_of_ble_eq_true rfl) h (fun z2 S1 h => ?_)
      refine lg_istore (k := 6) (l1 := [some (vm_r 99), some (vm_r o1), some (vm_i v2), some (vm_i v3), some (vm_r o4), some (vm_i v5), some (vm_i z2)]) rfl rfl (by decide +kernel : decode code 116 = .ok (.istore 6, 2)) ?_
      refine lg_aload (k := 4) rfl (by decide +kernel : decode code 118 = .ok (.aload 4, 2)) ?_
      refine lg_Ci [vm_r o4] lOK_stands rfl (show 1 < 4 by decide) (vm_hw_in (i := 1133) (by decide +kernel)) (by decide +kernel : decode code 120 = .ok (.invokestatic 275, 3)) (Nat.le_of_ble_eq_true rfl) (Nat.le_of_ble_eq_true rfl) h (fun z4 S3 h => ?_)
      refine lg_istore_n (k := 2) (l1 := [some (vm_r 99), some (vm_r o1), some (vm_i z4), some (vm_i v3), some (vm_r o4), some (vm_i v5), some (vm_i z2)]) rfl rfl rfl (by decide +kernel : decode code 123 = .ok (.istore_n 2, 1)) ?_
      obtain ⟨h1, h⟩ := h
      refine lg_iinc (k := 5) (l1 := [some (vm_r 99), some (vm_r o1), some (vm_i z4), some (vm_i v3), some (vm_r o4), some (vm_i ((v5 + 1))), some (vm_i z2)]) rfl rfl rfl h1 (by decide +kernel : decode code 124 = .ok (.iinc 5 1, 3)) ?_
      refine lg_goto (t := 99) (by decide +kernel : decode code 127 = .ok (.goto (-28), 3)) (by decide) ?_
      exact lg_sub (ls := [some (vm_r 99), some (vm_r o1), some (vm_i z4), some (vm_i v3), some (vm_r o4), some (vm_i ((v5 + 1))), none]) ⟨rfl, ⟨rfl, ⟨rfl, ⟨rfl, ⟨rfl, ⟨rfl, trivial⟩⟩⟩⟩⟩⟩ h
set_option maxHeartbeats 4000000 in
theorem rL_law_130 {S : lwS} {Qp : Option vm_V → lwS → Prop} {Ls : Nat} (hLs : Ls ≤ 3072) {o1 : Nat} {v2 : Int} {v3 : Int} {o4 : Nat} (h : (v2 = 0 → (lG (lK_law Ls) 157 [some (vm_r 99), some (vm_r o1), none, some (vm_i v3), none, none, none] [vm_i 0] S Qp)) ∧ (¬ (v2 = 0) → (lCi lK_bests [vm_r o4, vm_r o1] S (fun z2 S1 => (z2 = 0 → (lG (lK_law Ls) 157 [some (vm_r 99), some (vm_r o1), none, some (vm_i v3), none, none, none] [vm_i 0] S1 Qp)) ∧ (¬ (z2 = 0) → (lCi lK_undone [vm_r o4, vm_r o1] S1 (fun z4 S3 => (z4 = 0 → (lG (lK_law Ls) 157 [some (vm_r 99), some (vm_r o1), none, some (vm_i v3), none, none, none] [vm_i 0] S3 Qp)) ∧ (¬ (z4 = 0) → (lG (lK_law Ls) 157 [some (vm_r 99), some (vm_r o1), none, some (vm_i v3), none, none, none] [vm_i 1] S3 Qp))))))))) : lG (lK_law Ls) 130 [some (vm_r 99), some (vm_r o1), some (vm_i v2), some (vm_i v3), some (vm_r o4), none, none] [] S Qp := by
  refine lg_iload_n (k := 2) rfl rfl (by decide +kernel : decode code 130 = .ok (.iload_n 2, 1)) ?_
  refine lg_if_eq (t := 156) (by decide +kernel : decode code 131 = .ok (.ifCond .eq 25, 3)) (by decide) ⟨fun c => ?_, fun c => ?_⟩
  · replace h := h.1 c
    refine lg_iconst (n := 0) (by decide) (by decide +kernel : decode code 156 = .ok (.iconst 0, 1)) ?_
    exact lg_sub (ls := [some (vm_r 99), some (vm_r o1), none, some (vm_i v3), none, none, none]) ⟨rfl, ⟨rfl, ⟨rfl, trivial⟩⟩⟩ h
  · replace h := h.2 c
    refine lg_aload (k := 4) rfl (by decide +kernel : decode code 134 = .ok (.aload 4, 2)) ?_
    refine lg_aload_n (k := 1) rfl rfl (by decide +kernel : decode code 136 = .ok (.aload_n 1, 1)) ?_
    refine lg_Ci [vm_r o4, vm_r o1] lOK_bests rfl (show 3 < 4 by decide) (vm_hw_in (i := 1243) (by decide +kernel)) (by decide +kernel : decode code 137 = .ok (.invokestatic 279, 3)) (Nat.le_of_ble_eq_true rfl) (Nat.le_of_ble_eq_true rfl) h (fun z2 S1 h => ?_)
    refine lg_if_eq (t := 156) (by decide +kernel : decode code 140 = .ok (.ifCond .eq 16, 3)) (by decide) ⟨fun c => ?_, fun c => ?_⟩
    · replace h := h.1 c
      refine lg_iconst (n := 0) (by decide) (by decide +kernel : decode code 156 = .ok (.iconst 0, 1)) ?_
      exact lg_sub (ls := [some (vm_r 99), some (vm_r o1), none, some (vm_i v3), none, none, none]) ⟨rfl, ⟨rfl, ⟨rfl, trivial⟩⟩⟩ h
    · replace h := h.2 c
      refine lg_aload (k := 4) rfl (by decide +kernel : decode code 143 = .ok (.aload 4, 2)) ?_
      refine lg_aload_n (k := 1) rfl rfl (by decide +kernel : decode code 145 = .ok (.aload_n 1, 1)) ?_
      refine lg_Ci [vm_r o4, vm_r o1] lOK_undone rfl (show 3 < 4 by decide) (vm_hw_in (i := 1374) (by decide +kernel)) (by decide +kernel : decode code 146 = .ok (.invokestatic 282, 3)) (Nat.le_of_ble_eq_true rfl) (Nat.le_of_ble_eq_true rfl) h (fun z4 S3 h => ?_)
      refine lg_if_eq (t := 156) (by decide +kernel : decode code 149 = .ok (.ifCond .eq 7, 3)) (by decide) ⟨fun c => ?_, fun c => ?_⟩
      · replace h := h.1 c
        refine lg_iconst (n := 0) (by decide) (by decide +kernel : decode code 156 = .ok (.iconst 0, 1)) ?_
        exact lg_sub (ls := [some (vm_r 99), some (vm_r o1), none, some (vm_i v3), none, none, none]) ⟨rfl, ⟨rfl, ⟨rfl, trivial⟩⟩⟩ h
      · replace h := h.2 c
        refine lg_iconst (n := 1) (by decide) (by decide +kernel : decode code 152 = .ok (.iconst 1, 1)) ?_
        refine lg_goto (t := 157) (by decide +kernel : decode code 153 = .ok (.goto 4, 3)) (by decide) ?_
        exact lg_sub (ls := [some (vm_r 99), some (vm_r o1), none, some (vm_i v3), none, none, none]) ⟨rfl, ⟨rfl, ⟨rfl, trivial⟩⟩⟩ h
set_option maxHeartbeats 4000000 in
theorem rL_law_157 {S : lwS} {Qp : Option vm_V → lwS → Prop} {Ls : Nat} (hLs : Ls ≤ 3072) {o1 : Nat} {v3 : Int} {x0 : Int} (h : (vm_32 (v3 + 1)) ∧ (lG (lK_law Ls) 9 [some (vm_r 99), some (vm_r o1), some (vm_i x0), some (vm_i ((v3 + 1))), none, none, none] [] S Qp)) : lG (lK_law Ls) 157 [some (vm_r 99), some (vm_r o1), none, some (vm_i v3), none, none, none] [vm_i x0] S Qp := by
  refine lg_istore_n (k := 2) (l1 := [some (vm_r 99), some (vm_r o1), some (vm_i x0), some (vm_i v3), none, none, none]) rfl rfl rfl (by decide +kernel : decode code 157 = .ok (.istore_n 2, 1)) ?_
  obtain ⟨h1, h⟩ := h
  refine lg_iinc (k := 3) (l1 := [some (vm_r 99), some (vm_r o1), some (vm_i x0), some (vm_i ((v3 + 1))), none, none, none]) rfl rfl rfl h1 (by decide +kernel : decode code 158 = .ok (.iinc 3 1, 3)) ?_
  refine lg_goto (t := 9) (by decide +kernel : decode code 161 = .ok (.goto (-152), 3)) (by decide) ?_
  exact h
