/-! ===== rules of the law (printed): setup, words, text, told ===== -/
set_option maxHeartbeats 4000000 in
theorem rL_setup_0 {S : lwS} {Qp : Option vm_V → lwS → Prop} {o0 : Nat} (h : lCi lK_draw [vm_r o0] S (fun z2 S1 => ((0 : Int) ≤ z2 ∧ (0 : Int) < 12) ∧ ((vm_32 (1 + ((z2 % 12)))) ∧ (lNb S1 (fun r4 S3 => lIs r4 31 S3 (fun S5 => lCi lK_draw [vm_r o0] S5 (fun z7 S6 => ((0 : Int) ≤ z7 ∧ (0 : Int) < 150) ∧ ((vm_32 (20 + ((z7 % 150)))) ∧ (lAi r4 ((20 + ((z7 % 150)))) S6 (fun S8 => lAc r4 32 S8 (fun S9 => lCi lK_draw [vm_r o0] S9 (fun z11 S10 => ((0 : Int) ≤ z11 ∧ (0 : Int) < 60) ∧ ((vm_32 (5 + ((z11 % 60)))) ∧ (lAi r4 ((5 + ((z11 % 60)))) S10 (fun S12 => lAs r4 32 S12 (fun S13 => lCi lK_draw [vm_r o0] S13 (fun z15 S14 => ((0 : Int) ≤ z15 ∧ (0 : Int) < 5) ∧ (lAi r4 ((z15 % 5)) S14 (fun S16 => lAs r4 33 S16 (fun S17 => lAi r4 ((1 + ((z2 % 12)))) S17 (fun S18 => lAs r4 34 S18 (fun S19 => lCi lK_draw [vm_r o0] S19 (fun z21 S20 => (vm_32 (((1 + ((z2 % 12)))) + 1)) ∧ (((0 : Int) ≤ z21 ∧ (0 : Int) < ((((1 + ((z2 % 12)))) + 1))) ∧ (lAi r4 ((z21 % ((((1 + ((z2 % 12)))) + 1)))) S20 (fun S22 => lAs r4 35 S22 (fun S23 => lCi lK_draw [vm_r o0] S23 (fun z25 S24 => ((0 : Int) ≤ z25 ∧ (0 : Int) < 9) ∧ (lAi r4 ((z25 % 9)) S24 (fun S26 => lAs r4 36 S26 (fun S27 => lCi lK_draw [vm_r o0] S27 (fun z29 S28 => ((0 : Int) ≤ z29 ∧ (0 : Int) < 2) ∧ ((vm_32 (1 + ((z29 % 2)))) ∧ (lAi r4 ((1 + ((z29 % 2)))) S28 (fun S30 => lAs r4 37 S30 (fun S31 => lCi lK_draw [vm_r o0] S31 (fun z33 S32 => ((0 : Int) ≤ z33 ∧ (0 : Int) < 4) ∧ ((vm_32 (2 + ((z33 % 4)))) ∧ (lG lK_setup 138 [some (vm_r o0), none, some (vm_r r4), some (vm_i ((2 + ((z33 % 4))))), some (vm_i 0)] [] S32 Qp))))))))))))))))))))))))))))))))))))))) : lG lK_setup 0 [some (vm_r o0), none, none, none, none] [] S Qp := by
  refine lg_iconst (n := 1) (by decide) (by decide +kernel : decode method_7_code 0 = .ok (.iconst 1, 1)) ?_
  refine lg_aload_n (k := 0) rfl rfl (by decide +kernel : decode method_7_code 1 = .ok (.aload_n 0, 1)) ?_
  refine lg_Ci [vm_r o0] lOK_draw rfl (show 0 < 2 by decide) (vm_hw_in (i := 776) (by decide +kernel)) (by decide +kernel : decode method_7_code 2 = .ok (.invokestatic 49, 3)) (Nat.le_of_ble_eq_true rfl) (Nat.le_of_ble_eq_true rfl) h (fun z2 S1 h => ?_)
  refine lg_bipush (n := 12) (by decide) (by decide) (by decide +kernel : decode method_7_code 5 = .ok (.bipush 12, 2)) ?_
  obtain ⟨h1, h⟩ := h
  refine lg_irem h1 (by decide +kernel : decode method_7_code 7 = .ok (.irem, 1)) ?_
  obtain ⟨h1, h⟩ := h
  refine lg_iadd h1 (by decide +kernel : decode method_7_code 8 = .ok (.iadd, 1)) ?_
  refine lg_istore_n (k := 1) (l1 := [some (vm_r o0), some (vm_i ((1 + ((z2 % 12))))), none, none, none]) rfl rfl rfl (by decide +kernel : decode method_7_code 9 = .ok (.istore_n 1, 1)) ?_
  refine lg_Nb (vm_hw_in (i := 780) (by decide +kernel)) (by decide +kernel : decode method_7_code 10 = .ok (.new 54, 3)) h (fun r4 S3 h => ?_)
  refine lg_dup rfl (by decide +kernel : decode method_7_code 13 = .ok (.dup, 1)) ?_
  refine lg_ldcs (k9 := 31) (by decide) (by decide +kernel) (by decide +kernel : decode method_7_code 14 = .ok (.ldc 73, 2)) ?_
  refine lg_Is (vm_hw_in (i := 783) (by decide +kernel)) (by decide +kernel : decode method_7_code 16 = .ok (.invokespecial 75, 3)) (Nat.le_of_ble_eq_true rfl) h (fun S5 h => ?_)
  refine lg_bipush (n := 20) (by decide) (by decide) (by decide +kernel : decode method_7_code 19 = .ok (.bipush 20, 2)) ?_
  refine lg_aload_n (k := 0) rfl rfl (by decide +kernel : decode method_7_code 21 = .ok (.aload_n 0, 1)) ?_
  refine lg_Ci [vm_r o0] lOK_draw rfl (show 0 < 2 by decide) (vm_hw_in (i := 776) (by decide +kernel)) (by decide +kernel : decode method_7_code 22 = .ok (.invokestatic 49, 3)) (Nat.le_of_ble_eq_true rfl) (Nat.le_of_ble_eq_true rfl) h (fun z7 S6 h => ?_)
  refine lg_sipush (n := 150) (by decide) (by decide) (by decide +kernel : decode method_7_code 25 = .ok (.sipush 150, 3)) ?_
  obtain ⟨h1, h⟩ := h
  refine lg_irem h1 (by decide +kernel : decode method_7_code 28 = .ok (.irem, 1)) ?_
  obtain ⟨h1, h⟩ := h
  refine lg_iadd h1 (by decide +kernel : decode method_7_code 29 = .ok (.iadd, 1)) ?_
  refine lg_Ai (vm_hw_in (i := 912) (by decide +kernel)) (by decide +kernel : decode method_7_code 30 = .ok (.invokevirtual 66, 3)) (Nat.le_of_ble_eq_true rfl) h (fun S8 h => ?_)
  refine lg_bipush (n := 32) (by decide) (by decide) (by decide +kernel : decode method_7_code 33 = .ok (.bipush 32, 2)) ?_
  refine lg_Ac (vm_hw_in (i := 937) (by decide +kernel)) (by decide +kernel : decode method_7_code 35 = .ok (.invokevirtual 53, 3)) (Nat.le_of_ble_eq_true rfl) h (fun S9 h => ?_)
  refine lg_iconst (n := 5) (by decide) (by decide +kernel : decode method_7_code 38 = .ok (.iconst 5, 1)) ?_
  refine lg_aload_n (k := 0) rfl rfl (by decide +kernel : decode method_7_code 39 = .ok (.aload_n 0, 1)) ?_
  refine lg_Ci [vm_r o0] lOK_draw rfl (show 0 < 2 by decide) (vm_hw_in (i := 776) (by decide +kernel)) (by decide +kernel : decode method_7_code 40 = .ok (.invokestatic 49, 3)) (Nat.le_of_ble_eq_true rfl) (Nat.le_of_ble_eq_true rfl) h (fun z11 S10 h => ?_)
  refine lg_bipush (n := 60) (by decide) (by decide) (by decide +kernel : decode method_7_code 43 = .ok (.bipush 60, 2)) ?_
  obtain ⟨h1, h⟩ := h
  refine lg_irem h1 (by decide +kernel : decode method_7_code 45 = .ok (.irem, 1)) ?_
  obtain ⟨h1, h⟩ := h
  refine lg_iadd h1 (by decide +kernel : decode method_7_code 46 = .ok (.iadd, 1)) ?_
  refine lg_Ai (vm_hw_in (i := 912) (by decide +kernel)) (by decide +kernel : decode method_7_code 47 = .ok (.invokevirtual 66, 3)) (Nat.le_of_ble_eq_true rfl) h (fun S12 h => ?_)
  refine lg_ldcs (k9 := 32) (by decide) (by decide +kernel) (by decide +kernel : decode method_7_code 50 = .ok (.ldc 78, 2)) ?_
  refine lg_As (vm_hw_in (i := 951) (by decide +kernel)) (by decide +kernel : decode method_7_code 52 = .ok (.invokevirtual 63, 3)) (Nat.le_of_ble_eq_true rfl) h (fun S13 h => ?_)
  refine lg_aload_n (k := 0) rfl rfl (by decide +kernel : decode method_7_code 55 = .ok (.aload_n 0, 1)) ?_
  refine lg_Ci [vm_r o0] lOK_draw rfl (show 0 < 2 by decide) (vm_hw_in (i := 776) (by decide +kernel)) (by decide +kernel : decode method_7_code 56 = .ok (.invokestatic 49, 3)) (Nat.le_of_ble_eq_true rfl) (Nat.le_of_ble_eq_true rfl) h (fun z15 S14 h => ?_)
  refine lg_iconst (n := 5) (by decide) (by decide +kernel : decode method_7_code 59 = .ok (.iconst 5, 1)) ?_
  obtain ⟨h1, h⟩ := h
  refine lg_irem h1 (by decide +kernel : decode method_7_code 60 = .ok (.irem, 1)) ?_
  refine lg_Ai (vm_hw_in (i := 912) (by decide +kernel)) (by decide +kernel : decode method_7_code 61 = .ok (.invokevirtual 66, 3)) (Nat.le_of_ble_eq_true rfl) h (fun S16 h => ?_)
  refine lg_ldcs (k9 := 33) (by decide) (by decide +kernel) (by decide +kernel : decode method_7_code 64 = .ok (.ldc 80, 2)) ?_
  refine lg_As (vm_hw_in (i := 951) (by decide +kernel)) (by decide +kernel : decode method_7_code 66 = .ok (.invokevirtual 63, 3)) (Nat.le_of_ble_eq_true rfl) h (fun S17 h => ?_)
  refine lg_iload_n (k := 1) rfl rfl (by decide +kernel : decode method_7_code 69 = .ok (.iload_n 1, 1)) ?_
  refine lg_Ai (vm_hw_in (i := 912) (by decide +kernel)) (by decide +kernel : decode method_7_code 70 = .ok (.invokevirtual 66, 3)) (Nat.le_of_ble_eq_true rfl) h (fun S18 h => ?_)
  refine lg_ldcs (k9 := 34) (by decide) (by decide +kernel) (by decide +kernel : decode method_7_code 73 = .ok (.ldc 82, 2)) ?_
  refine lg_As (vm_hw_in (i := 951) (by decide +kernel)) (by decide +kernel : decode method_7_code 75 = .ok (.invokevirtual 63, 3)) (Nat.le_of_ble_eq_true rfl) h (fun S19 h => ?_)
  refine lg_aload_n (k := 0) rfl rfl (by decide +kernel : decode method_7_code 78 = .ok (.aload_n 0, 1)) ?_
  refine lg_Ci [vm_r o0] lOK_draw rfl (show 0 < 2 by decide) (vm_hw_in (i := 776) (by decide +kernel)) (by decide +kernel : decode method_7_code 79 = .ok (.invokestatic 49, 3)) (Nat.le_of_ble_eq_true rfl) (Nat.le_of_ble_eq_true rfl) h (fun z21 S20 h => ?_)
  refine lg_iload_n (k := 1) rfl rfl (by decide +kernel : decode method_7_code 82 = .ok (.iload_n 1, 1)) ?_
  refine lg_iconst (n := 1) (by decide) (by decide +kernel : decode method_7_code 83 = .ok (.iconst 1, 1)) ?_
  obtain ⟨h1, h⟩ := h
  refine lg_iadd h1 (by decide +kernel : decode method_7_code 84 = .ok (.iadd, 1)) ?_
  obtain ⟨h1, h⟩ := h
  refine lg_irem h1 (by decide +kernel : decode method_7_code 85 = .ok (.irem, 1)) ?_
  refine lg_Ai (vm_hw_in (i := 912) (by decide +kernel)) (by decide +kernel : decode method_7_code 86 = .ok (.invokevirtual 66, 3)) (Nat.le_of_ble_eq_true rfl) h (fun S22 h => ?_)
  refine lg_ldcs (k9 := 35) (by decide) (by decide +kernel) (by decide +kernel : decode method_7_code 89 = .ok (.ldc 84, 2)) ?_
  refine lg_As (vm_hw_in (i := 951) (by decide +kernel)) (by decide +kernel : decode method_7_code 91 = .ok (.invokevirtual 63, 3)) (Nat.le_of_ble_eq_true rfl) h (fun S23 h => ?_)
  refine lg_aload_n (k := 0) rfl rfl (by decide +kernel : decode method_7_code 94 = .ok (.aload_n 0, 1)) ?_
  refine lg_Ci [vm_r o0] lOK_draw rfl (show 0 < 2 by decide) (vm_hw_in (i := 776) (by decide +kernel)) (by decide +kernel : decode method_7_code 95 = .ok (.invokestatic 49, 3)) (Nat.le_of_ble_eq_true rfl) (Nat.le_of_ble_eq_true rfl) h (fun z25 S24 h => ?_)
  refine lg_bipush (n := 9) (by decide) (by decide) (by decide +kernel : decode method_7_code 98 = .ok (.bipush 9, 2)) ?_
  obtain ⟨h1, h⟩ := h
  refine lg_irem h1 (by decide +kernel : decode method_7_code 100 = .ok (.irem, 1)) ?_
  refine lg_Ai (vm_hw_in (i := 912) (by decide +kernel)) (by decide +kernel : decode method_7_code 101 = .ok (.invokevirtual 66, 3)) (Nat.le_of_ble_eq_true rfl) h (fun S26 h => ?_)
  refine lg_ldcs (k9 := 36) (by decide) (by decide +kernel) (by decide +kernel : decode method_7_code 104 = .ok (.ldc 86, 2)) ?_
  refine lg_As (vm_hw_in (i := 951) (by decide +kernel)) (by decide +kernel : decode method_7_code 106 = .ok (.invokevirtual 63, 3)) (Nat.le_of_ble_eq_true rfl) h (fun S27 h => ?_)
  refine lg_iconst (n := 1) (by decide) (by decide +kernel : decode method_7_code 109 = .ok (.iconst 1, 1)) ?_
  refine lg_aload_n (k := 0) rfl rfl (by decide +kernel : decode method_7_code 110 = .ok (.aload_n 0, 1)) ?_
  refine lg_Ci [vm_r o0] lOK_draw rfl (show 0 < 2 by decide) (vm_hw_in (i := 776) (by decide +kernel)) (by decide +kernel : decode method_7_code 111 = .ok (.invokestatic 49, 3)) (Nat.le_of_ble_eq_true rfl) (Nat.le_of_ble_eq_true rfl) h (fun z29 S28 h => ?_)
  refine lg_iconst (n := 2) (by decide) (by decide +kernel : decode method_7_code 114 = .ok (.iconst 2, 1)) ?_
  obtain ⟨h1, h⟩ := h
  refine lg_irem h1 (by decide +kernel : decode method_7_code 115 = .ok (.irem, 1)) ?_
  obtain ⟨h1, h⟩ := h
  refine lg_iadd h1 (by decide +kernel : decode method_7_code 116 = .ok (.iadd, 1)) ?_
  refine lg_Ai (vm_hw_in (i := 912) (by decide +kernel)) (by decide +kernel : decode method_7_code 117 = .ok (.invokevirtual 66, 3)) (Nat.le_of_ble_eq_true rfl) h (fun S30 h => ?_)
  refine lg_ldcs (k9 := 37) (by decide) (by decide +kernel) (by decide +kernel : decode method_7_code 120 = .ok (.ldc 88, 2)) ?_
  refine lg_As (vm_hw_in (i := 951) (by decide +kernel)) (by decide +kernel : decode method_7_code 122 = .ok (.invokevirtual 63, 3)) (Nat.le_of_ble_eq_true rfl) h (fun S31 h => ?_)
  refine lg_astore_n (k := 2) (l1 := [some (vm_r o0), some (vm_i ((1 + ((z2 % 12))))), some (vm_r r4), none, none]) rfl rfl rfl (by decide +kernel : decode method_7_code 125 = .ok (.astore_n 2, 1)) ?_
  refine lg_iconst (n := 2) (by decide) (by decide +kernel : decode method_7_code 126 = .ok (.iconst 2, 1)) ?_
  refine lg_aload_n (k := 0) rfl rfl (by decide +kernel : decode method_7_code 127 = .ok (.aload_n 0, 1)) ?_
  refine lg_Ci [vm_r o0] lOK_draw rfl (show 0 < 2 by decide) (vm_hw_in (i := 776) (by decide +kernel)) (by decide +kernel : decode method_7_code 128 = .ok (.invokestatic 49, 3)) (Nat.le_of_ble_eq_true rfl) (Nat.le_of_ble_eq_true rfl) h (fun z33 S32 h => ?_)
  refine lg_iconst (n := 4) (by decide) (by decide +kernel : decode method_7_code 131 = .ok (.iconst 4, 1)) ?_
  obtain ⟨h1, h⟩ := h
  refine lg_irem h1 (by decide +kernel : decode method_7_code 132 = .ok (.irem, 1)) ?_
  obtain ⟨h1, h⟩ := h
  refine lg_iadd h1 (by decide +kernel : decode method_7_code 133 = .ok (.iadd, 1)) ?_
  refine lg_istore_n (k := 3) (l1 := [some (vm_r o0), some (vm_i ((1 + ((z2 % 12))))), some (vm_r r4), some (vm_i ((2 + ((z33 % 4))))), none]) rfl rfl rfl (by decide +kernel : decode method_7_code 134 = .ok (.istore_n 3, 1)) ?_
  refine lg_iconst (n := 0) (by decide) (by decide +kernel : decode method_7_code 135 = .ok (.iconst 0, 1)) ?_
  refine lg_istore (k := 4) (l1 := [some (vm_r o0), some (vm_i ((1 + ((z2 % 12))))), some (vm_r r4), some (vm_i ((2 + ((z33 % 4))))), some (vm_i 0)]) rfl rfl (by decide +kernel : decode method_7_code 136 = .ok (.istore 4, 2)) ?_
  exact lg_sub (ls := [some (vm_r o0), none, some (vm_r r4), some (vm_i ((2 + ((z33 % 4))))), some (vm_i 0)]) ⟨rfl, ⟨rfl, ⟨rfl, ⟨rfl, trivial⟩⟩⟩⟩ h
set_option maxHeartbeats 4000000 in
theorem rL_setup_138 {S : lwS} {Qp : Option vm_V → lwS → Prop} {o0 : Nat} {o2 : Nat} {v3 : Int} {v4 : Int} (h : (v3 ≤ v4 → (lCi lK_draw [vm_r o0] S (fun z2 S1 => ((0 : Int) ≤ z2 ∧ (0 : Int) < 4) ∧ (lG lK_setup 222 [some (vm_r o0), none, some (vm_r o2), some (vm_i v3), some (vm_i ((z2 % 4)))] [] S1 Qp)))) ∧ (¬ (v3 ≤ v4) → (lAs o2 38 S (fun S3 => (vm_32 (3 * v4)) ∧ ((vm_32 (97 + ((3 * v4)))) ∧ (((0 : Int) ≤ ((97 + ((3 * v4)))) ∧ ((97 + ((3 * v4)))) < 65536) ∧ (lAc o2 ((97 + ((3 * v4)))) S3 (fun S4 => lAs o2 39 S4 (fun S5 => lCi lK_draw [vm_r o0] S5 (fun z7 S6 => ((0 : Int) ≤ z7 ∧ (0 : Int) < 20) ∧ ((vm_32 (1 + ((z7 % 20)))) ∧ (lAi o2 ((1 + ((z7 % 20)))) S6 (fun S8 => lAs o2 40 S8 (fun S9 => lCv lK_side [vm_r o2, vm_r o0] S9 (fun S10 => lAs o2 41 S10 (fun S11 => lCv lK_side [vm_r o2, vm_r o0] S11 (fun S12 => lAs o2 37 S12 (fun S13 => (vm_32 (v4 + 1)) ∧ (lG lK_setup 138 [some (vm_r o0), none, some (vm_r o2), some (vm_i v3), some (vm_i ((v4 + 1)))] [] S13 Qp))))))))))))))))))) : lG lK_setup 138 [some (vm_r o0), none, some (vm_r o2), some (vm_i v3), some (vm_i v4)] [] S Qp := by
  refine lg_iload (k := 4) rfl (by decide +kernel : decode method_7_code 138 = .ok (.iload 4, 2)) ?_
  refine lg_iload_n (k := 3) rfl rfl (by decide +kernel : decode method_7_code 140 = .ok (.iload_n 3, 1)) ?_
  refine lg_icmp_ge (t := 214) (by decide +kernel : decode method_7_code 141 = .ok (.if_icmp .ge 73, 3)) (by decide) ⟨fun c => ?_, fun c => ?_⟩
  · replace h := h.1 c
    refine lg_aload_n (k := 0) rfl rfl (by decide +kernel : decode method_7_code 214 = .ok (.aload_n 0, 1)) ?_
    refine lg_Ci [vm_r o0] lOK_draw rfl (show 0 < 2 by decide) (vm_hw_in (i := 776) (by decide +kernel)) (by decide +kernel : decode method_7_code 215 = .ok (.invokestatic 49, 3)) (Nat.le_of_ble_eq_true rfl) (Nat.le_of_ble_eq_true rfl) h (fun z2 S1 h => ?_)
    refine lg_iconst (n := 4) (by decide) (by decide +kernel : decode method_7_code 218 = .ok (.iconst 4, 1)) ?_
    obtain ⟨h1, h⟩ := h
    refine lg_irem h1 (by decide +kernel : decode method_7_code 219 = .ok (.irem, 1)) ?_
    refine lg_istore (k := 4) (l1 := [some (vm_r o0), none, some (vm_r o2), some (vm_i v3), some (vm_i ((z2 % 4)))]) rfl rfl (by decide +kernel : decode method_7_code 220 = .ok (.istore 4, 2)) ?_
    exact h
  · replace h := h.2 c
    refine lg_aload_n (k := 2) rfl rfl (by decide +kernel : decode method_7_code 144 = .ok (.aload_n 2, 1)) ?_
    refine lg_ldcs (k9 := 38) (by decide) (by decide +kernel) (by decide +kernel : decode method_7_code 145 = .ok (.ldc 90, 2)) ?_
    refine lg_As (vm_hw_in (i := 951) (by decide +kernel)) (by decide +kernel : decode method_7_code 147 = .ok (.invokevirtual 63, 3)) (Nat.le_of_ble_eq_true rfl) h (fun S3 h => ?_)
    refine lg_bipush (n := 97) (by decide) (by decide) (by decide +kernel : decode method_7_code 150 = .ok (.bipush 97, 2)) ?_
    refine lg_iconst (n := 3) (by decide) (by decide +kernel : decode method_7_code 152 = .ok (.iconst 3, 1)) ?_
    refine lg_iload (k := 4) rfl (by decide +kernel : decode method_7_code 153 = .ok (.iload 4, 2)) ?_
    obtain ⟨h1, h⟩ := h
    refine lg_imul h1 (by decide +kernel : decode method_7_code 155 = .ok (.imul, 1)) ?_
    obtain ⟨h1, h⟩ := h
    refine lg_iadd h1 (by decide +kernel : decode method_7_code 156 = .ok (.iadd, 1)) ?_
    obtain ⟨h1, h⟩ := h
    refine lg_i2c h1 (by decide +kernel : decode method_7_code 157 = .ok (.i2c, 1)) ?_
    refine lg_Ac (vm_hw_in (i := 937) (by decide +kernel)) (by decide +kernel : decode method_7_code 158 = .ok (.invokevirtual 53, 3)) (Nat.le_of_ble_eq_true rfl) h (fun S4 h => ?_)
    refine lg_ldcs (k9 := 39) (by decide) (by decide +kernel) (by decide +kernel : decode method_7_code 161 = .ok (.ldc 92, 2)) ?_
    refine lg_As (vm_hw_in (i := 951) (by decide +kernel)) (by decide +kernel : decode method_7_code 163 = .ok (.invokevirtual 63, 3)) (Nat.le_of_ble_eq_true rfl) h (fun S5 h => ?_)
    refine lg_iconst (n := 1) (by decide) (by decide +kernel : decode method_7_code 166 = .ok (.iconst 1, 1)) ?_
    refine lg_aload_n (k := 0) rfl rfl (by decide +kernel : decode method_7_code 167 = .ok (.aload_n 0, 1)) ?_
    refine lg_Ci [vm_r o0] lOK_draw rfl (show 0 < 2 by decide) (vm_hw_in (i := 776) (by decide +kernel)) (by decide +kernel : decode method_7_code 168 = .ok (.invokestatic 49, 3)) (Nat.le_of_ble_eq_true rfl) (Nat.le_of_ble_eq_true rfl) h (fun z7 S6 h => ?_)
    refine lg_bipush (n := 20) (by decide) (by decide) (by decide +kernel : decode method_7_code 171 = .ok (.bipush 20, 2)) ?_
    obtain ⟨h1, h⟩ := h
    refine lg_irem h1 (by decide +kernel : decode method_7_code 173 = .ok (.irem, 1)) ?_
    obtain ⟨h1, h⟩ := h
    refine lg_iadd h1 (by decide +kernel : decode method_7_code 174 = .ok (.iadd, 1)) ?_
    refine lg_Ai (vm_hw_in (i := 912) (by decide +kernel)) (by decide +kernel : decode method_7_code 175 = .ok (.invokevirtual 66, 3)) (Nat.le_of_ble_eq_true rfl) h (fun S8 h => ?_)
    refine lg_ldcs (k9 := 40) (by decide) (by decide +kernel) (by decide +kernel : decode method_7_code 178 = .ok (.ldc 94, 2)) ?_
    refine lg_As (vm_hw_in (i := 951) (by decide +kernel)) (by decide +kernel : decode method_7_code 180 = .ok (.invokevirtual 63, 3)) (Nat.le_of_ble_eq_true rfl) h (fun S9 h => ?_)
    refine lg_pop rfl (by decide +kernel : decode method_7_code 183 = .ok (.pop, 1)) ?_
    refine lg_aload_n (k := 2) rfl rfl (by decide +kernel : decode method_7_code 184 = .ok (.aload_n 2, 1)) ?_
    refine lg_aload_n (k := 0) rfl rfl (by decide +kernel : decode method_7_code 185 = .ok (.aload_n 0, 1)) ?_
    refine lg_Cv [vm_r o2, vm_r o0] lOK_side rfl (show 1 < 2 by decide) (vm_hw_in (i := 960) (by decide +kernel)) (by decide +kernel : decode method_7_code 186 = .ok (.invokestatic 96, 3)) (Nat.le_of_ble_eq_true rfl) (Nat.le_of_ble_eq_true rfl) h (fun S10 h => ?_)
    refine lg_aload_n (k := 2) rfl rfl (by decide +kernel : decode method_7_code 189 = .ok (.aload_n 2, 1)) ?_
    refine lg_ldcs (k9 := 41) (by decide) (by decide +kernel) (by decide +kernel : decode method_7_code 190 = .ok (.ldc 100, 2)) ?_
    refine lg_As (vm_hw_in (i := 951) (by decide +kernel)) (by decide +kernel : decode method_7_code 192 = .ok (.invokevirtual 63, 3)) (Nat.le_of_ble_eq_true rfl) h (fun S11 h => ?_)
    refine lg_pop rfl (by decide +kernel : decode method_7_code 195 = .ok (.pop, 1)) ?_
    refine lg_aload_n (k := 2) rfl rfl (by decide +kernel : decode method_7_code 196 = .ok (.aload_n 2, 1)) ?_
    refine lg_aload_n (k := 0) rfl rfl (by decide +kernel : decode method_7_code 197 = .ok (.aload_n 0, 1)) ?_
    refine lg_Cv [vm_r o2, vm_r o0] lOK_side rfl (show 1 < 2 by decide) (vm_hw_in (i := 960) (by decide +kernel)) (by decide +kernel : decode method_7_code 198 = .ok (.invokestatic 96, 3)) (Nat.le_of_ble_eq_true rfl) (Nat.le_of_ble_eq_true rfl) h (fun S12 h => ?_)
    refine lg_aload_n (k := 2) rfl rfl (by decide +kernel : decode method_7_code 201 = .ok (.aload_n 2, 1)) ?_
    refine lg_ldcs (k9 := 37) (by decide) (by decide +kernel) (by decide +kernel : decode method_7_code 202 = .ok (.ldc 88, 2)) ?_
    refine lg_As (vm_hw_in (i := 951) (by decide +kernel)) (by decide +kernel : decode method_7_code 204 = .ok (.invokevirtual 63, 3)) (Nat.le_of_ble_eq_true rfl) h (fun S13 h => ?_)
    refine lg_pop rfl (by decide +kernel : decode method_7_code 207 = .ok (.pop, 1)) ?_
    obtain ⟨h1, h⟩ := h
    refine lg_iinc (k := 4) (l1 := [some (vm_r o0), none, some (vm_r o2), some (vm_i v3), some (vm_i ((v4 + 1)))]) rfl rfl rfl h1 (by decide +kernel : decode method_7_code 208 = .ok (.iinc 4 1, 3)) ?_
    refine lg_goto (t := 138) (by decide +kernel : decode method_7_code 211 = .ok (.goto (-73), 3)) (by decide) ?_
    exact h
set_option maxHeartbeats 4000000 in
theorem rL_setup_222 {S : lwS} {Qp : Option vm_V → lwS → Prop} {o0 : Nat} {o2 : Nat} {v3 : Int} {v4 : Int} (h : (v4 ≤ 0 → (lTo o2 S (fun r2 S1 => Qp (some (vm_r r2)) S1))) ∧ (¬ (v4 ≤ 0) → (lAs o2 42 S (fun S3 => lCi lK_draw [vm_r o0] S3 (fun z5 S4 => ((0 : Int) ≤ z5 ∧ (0 : Int) < v3) ∧ ((vm_32 (3 * ((z5 % v3)))) ∧ ((vm_32 (97 + ((3 * ((z5 % v3)))))) ∧ (((0 : Int) ≤ ((97 + ((3 * ((z5 % v3)))))) ∧ ((97 + ((3 * ((z5 % v3)))))) < 65536) ∧ (lAc o2 ((97 + ((3 * ((z5 % v3)))))) S4 (fun S6 => lAc o2 32 S6 (fun S7 => lCi lK_draw [vm_r o0] S7 (fun z9 S8 => ((0 : Int) ≤ z9 ∧ (0 : Int) < v3) ∧ ((vm_32 (3 * ((z9 % v3)))) ∧ ((vm_32 (97 + ((3 * ((z9 % v3)))))) ∧ (((0 : Int) ≤ ((97 + ((3 * ((z9 % v3)))))) ∧ ((97 + ((3 * ((z9 % v3)))))) < 65536) ∧ (lAc o2 ((97 + ((3 * ((z9 % v3)))))) S8 (fun S10 => lCi lK_draw [vm_r o0] S10 (fun z12 S11 => ((0 : Int) ≤ z12 ∧ (0 : Int) < 2) ∧ ((¬ ((z12 % 2)) = 0 → (lG lK_setup 284 [some (vm_r o0), none, some (vm_r o2), some (vm_i v3), some (vm_i v4)] [vm_r 44, vm_r o2] S11 Qp)) ∧ (¬ (¬ ((z12 % 2)) = 0) → (lG lK_setup 284 [some (vm_r o0), none, some (vm_r o2), some (vm_i v3), some (vm_i v4)] [vm_r 43, vm_r o2] S11 Qp))))))))))))))))))))) : lG lK_setup 222 [some (vm_r o0), none, some (vm_r o2), some (vm_i v3), some (vm_i v4)] [] S Qp := by
  refine lg_iload (k := 4) rfl (by decide +kernel : decode method_7_code 222 = .ok (.iload 4, 2)) ?_
  refine lg_if_le (t := 309) (by decide +kernel : decode method_7_code 224 = .ok (.ifCond .le 85, 3)) (by decide) ⟨fun c => ?_, fun c => ?_⟩
  · replace h := h.1 c
    refine lg_aload_n (k := 2) rfl rfl (by decide +kernel : decode method_7_code 309 = .ok (.aload_n 2, 1)) ?_
    refine lg_To (vm_hw_in (i := 971) (by decide +kernel)) (by decide +kernel : decode method_7_code 310 = .ok (.invokevirtual 69, 3)) (Nat.le_of_ble_eq_true rfl) h (fun r2 S1 h => ?_)
    exact lg_ret (Or.inr (Or.inl ⟨_, (by decide +kernel : decode method_7_code 313 = .ok (.areturn, 1)), rfl, rfl, rfl⟩)) h
  · replace h := h.2 c
    refine lg_aload_n (k := 2) rfl rfl (by decide +kernel : decode method_7_code 227 = .ok (.aload_n 2, 1)) ?_
    refine lg_ldcs (k9 := 42) (by decide) (by decide +kernel) (by decide +kernel : decode method_7_code 228 = .ok (.ldc 102, 2)) ?_
    refine lg_As (vm_hw_in (i := 951) (by decide +kernel)) (by decide +kernel : decode method_7_code 230 = .ok (.invokevirtual 63, 3)) (Nat.le_of_ble_eq_true rfl) h (fun S3 h => ?_)
    refine lg_bipush (n := 97) (by decide) (by decide) (by decide +kernel : decode method_7_code 233 = .ok (.bipush 97, 2)) ?_
    refine lg_iconst (n := 3) (by decide) (by decide +kernel : decode method_7_code 235 = .ok (.iconst 3, 1)) ?_
    refine lg_aload_n (k := 0) rfl rfl (by decide +kernel : decode method_7_code 236 = .ok (.aload_n 0, 1)) ?_
    refine lg_Ci [vm_r o0] lOK_draw rfl (show 0 < 2 by decide) (vm_hw_in (i := 776) (by decide +kernel)) (by decide +kernel : decode method_7_code 237 = .ok (.invokestatic 49, 3)) (Nat.le_of_ble_eq_true rfl) (Nat.le_of_ble_eq_true rfl) h (fun z5 S4 h => ?_)
    refine lg_iload_n (k := 3) rfl rfl (by decide +kernel : decode method_7_code 240 = .ok (.iload_n 3, 1)) ?_
    obtain ⟨h1, h⟩ := h
    refine lg_irem h1 (by decide +kernel : decode method_7_code 241 = .ok (.irem, 1)) ?_
    obtain ⟨h1, h⟩ := h
    refine lg_imul h1 (by decide +kernel : decode method_7_code 242 = .ok (.imul, 1)) ?_
    obtain ⟨h1, h⟩ := h
    refine lg_iadd h1 (by decide +kernel : decode method_7_code 243 = .ok (.iadd, 1)) ?_
    obtain ⟨h1, h⟩ := h
    refine lg_i2c h1 (by decide +kernel : decode method_7_code 244 = .ok (.i2c, 1)) ?_
    refine lg_Ac (vm_hw_in (i := 937) (by decide +kernel)) (by decide +kernel : decode method_7_code 245 = .ok (.invokevirtual 53, 3)) (Nat.le_of_ble_eq_true rfl) h (fun S6 h => ?_)
    refine lg_bipush (n := 32) (by decide) (by decide) (by decide +kernel : decode method_7_code 248 = .ok (.bipush 32, 2)) ?_
    refine lg_Ac (vm_hw_in (i := 937) (by decide +kernel)) (by decide +kernel : decode method_7_code 250 = .ok (.invokevirtual 53, 3)) (Nat.le_of_ble_eq_true rfl) h (fun S7 h => ?_)
    refine lg_bipush (n := 97) (by decide) (by decide) (by decide +kernel : decode method_7_code 253 = .ok (.bipush 97, 2)) ?_
    refine lg_iconst (n := 3) (by decide) (by decide +kernel : decode method_7_code 255 = .ok (.iconst 3, 1)) ?_
    refine lg_aload_n (k := 0) rfl rfl (by decide +kernel : decode method_7_code 256 = .ok (.aload_n 0, 1)) ?_
    refine lg_Ci [vm_r o0] lOK_draw rfl (show 0 < 2 by decide) (vm_hw_in (i := 776) (by decide +kernel)) (by decide +kernel : decode method_7_code 257 = .ok (.invokestatic 49, 3)) (Nat.le_of_ble_eq_true rfl) (Nat.le_of_ble_eq_true rfl) h (fun z9 S8 h => ?_)
    refine lg_iload_n (k := 3) rfl rfl (by decide +kernel : decode method_7_code 260 = .ok (.iload_n 3, 1)) ?_
    obtain ⟨h1, h⟩ := h
    refine lg_irem h1 (by decide +kernel : decode method_7_code 261 = .ok (.irem, 1)) ?_
    obtain ⟨h1, h⟩ := h
    refine lg_imul h1 (by decide +kernel : decode method_7_code 262 = .ok (.imul, 1)) ?_
    obtain ⟨h1, h⟩ := h
    refine lg_iadd h1 (by decide +kernel : decode method_7_code 263 = .ok (.iadd, 1)) ?_
    obtain ⟨h1, h⟩ := h
    refine lg_i2c h1 (by decide +kernel : decode method_7_code 264 = .ok (.i2c, 1)) ?_
    refine lg_Ac (vm_hw_in (i := 937) (by decide +kernel)) (by decide +kernel : decode method_7_code 265 = .ok (.invokevirtual 53, 3)) (Nat.le_of_ble_eq_true rfl) h (fun S10 h => ?_)
    refine lg_aload_n (k := 0) rfl rfl (by decide +kernel : decode method_7_code 268 = .ok (.aload_n 0, 1)) ?_
    refine lg_Ci [vm_r o0] lOK_draw rfl (show 0 < 2 by decide) (vm_hw_in (i := 776) (by decide +kernel)) (by decide +kernel : decode method_7_code 269 = .ok (.invokestatic 49, 3)) (Nat.le_of_ble_eq_true rfl) (Nat.le_of_ble_eq_true rfl) h (fun z12 S11 h => ?_)
    refine lg_iconst (n := 2) (by decide) (by decide +kernel : decode method_7_code 272 = .ok (.iconst 2, 1)) ?_
    obtain ⟨h1, h⟩ := h
    refine lg_irem h1 (by decide +kernel : decode method_7_code 273 = .ok (.irem, 1)) ?_
    refine lg_if_ne (t := 282) (by decide +kernel : decode method_7_code 274 = .ok (.ifCond .ne 8, 3)) (by decide) ⟨fun c => ?_, fun c => ?_⟩
    · replace h := h.1 c
      refine lg_ldcs (k9 := 44) (by decide) (by decide +kernel) (by decide +kernel : decode method_7_code 282 = .ok (.ldc 106, 2)) ?_
      exact h
    · replace h := h.2 c
      refine lg_ldcs (k9 := 43) (by decide) (by decide +kernel) (by decide +kernel : decode method_7_code 277 = .ok (.ldc 104, 2)) ?_
      refine lg_goto (t := 284) (by decide +kernel : decode method_7_code 279 = .ok (.goto 5, 3)) (by decide) ?_
      exact h
set_option maxHeartbeats 4000000 in
theorem rL_setup_284 {S : lwS} {Qp : Option vm_V → lwS → Prop} {o0 : Nat} {o2 : Nat} {v3 : Int} {v4 : Int} {x0 : Nat} {x1 : Nat} (h : lAs x1 x0 S (fun S1 => lCi lK_draw [vm_r o0] S1 (fun z3 S2 => ((0 : Int) ≤ z3 ∧ (0 : Int) < 10) ∧ (lAi x1 ((z3 % 10)) S2 (fun S4 => lAs x1 37 S4 (fun S5 => (vm_32 (v4 + (-1))) ∧ (lG lK_setup 222 [some (vm_r o0), none, some (vm_r o2), some (vm_i v3), some (vm_i ((v4 + (-1))))] [] S5 Qp))))))) : lG lK_setup 284 [some (vm_r o0), none, some (vm_r o2), some (vm_i v3), some (vm_i v4)] [vm_r x0, vm_r x1] S Qp := by
  refine lg_As (vm_hw_in (i := 951) (by decide +kernel)) (by decide +kernel : decode method_7_code 284 = .ok (.invokevirtual 63, 3)) (Nat.le_of_ble_eq_true rfl) h (fun S1 h => ?_)
  refine lg_aload_n (k := 0) rfl rfl (by decide +kernel : decode method_7_code 287 = .ok (.aload_n 0, 1)) ?_
  refine lg_Ci [vm_r o0] lOK_draw rfl (show 0 < 2 by decide) (vm_hw_in (i := 776) (by decide +kernel)) (by decide +kernel : decode method_7_code 288 = .ok (.invokestatic 49, 3)) (Nat.le_of_ble_eq_true rfl) (Nat.le_of_ble_eq_true rfl) h (fun z3 S2 h => ?_)
  refine lg_bipush (n := 10) (by decide) (by decide) (by decide +kernel : decode method_7_code 291 = .ok (.bipush 10, 2)) ?_
  obtain ⟨h1, h⟩ := h
  refine lg_irem h1 (by decide +kernel : decode method_7_code 293 = .ok (.irem, 1)) ?_
  refine lg_Ai (vm_hw_in (i := 912) (by decide +kernel)) (by decide +kernel : decode method_7_code 294 = .ok (.invokevirtual 66, 3)) (Nat.le_of_ble_eq_true rfl) h (fun S4 h => ?_)
  refine lg_ldcs (k9 := 37) (by decide) (by decide +kernel) (by decide +kernel : decode method_7_code 297 = .ok (.ldc 88, 2)) ?_
  refine lg_As (vm_hw_in (i := 951) (by decide +kernel)) (by decide +kernel : decode method_7_code 299 = .ok (.invokevirtual 63, 3)) (Nat.le_of_ble_eq_true rfl) h (fun S5 h => ?_)
  refine lg_pop rfl (by decide +kernel : decode method_7_code 302 = .ok (.pop, 1)) ?_
  obtain ⟨h1, h⟩ := h
  refine lg_iinc (k := 4) (l1 := [some (vm_r o0), none, some (vm_r o2), some (vm_i v3), some (vm_i ((v4 + (-1))))]) rfl rfl rfl h1 (by decide +kernel : decode method_7_code 303 = .ok (.iinc 4 (-1), 3)) ?_
  refine lg_goto (t := 222) (by decide +kernel : decode method_7_code 306 = .ok (.goto (-84), 3)) (by decide) ?_
  exact h
set_option maxHeartbeats 4000000 in
theorem rL_words_0 {S : lwS} {Qp : Option vm_V → lwS → Prop} {o0 : Nat} {o1 : Nat} (h : lNb S (fun r2 S1 => lI0 r2 S1 (fun S3 => lCi lK_draw [vm_r o1] S3 (fun z5 S4 => ((0 : Int) ≤ z5 ∧ (0 : Int) < 9) ∧ ((vm_32 (1 + ((z5 % 9)))) ∧ (lG lK_words 18 [some (vm_r o0), some (vm_r o1), some (vm_r r2), some (vm_i ((1 + ((z5 % 9))))), none] [] S4 Qp)))))) : lG lK_words 0 [some (vm_r o0), some (vm_r o1), none, none, none] [] S Qp := by
  refine lg_Nb (vm_hw_in (i := 780) (by decide +kernel)) (by decide +kernel : decode method_8_code 0 = .ok (.new 54, 3)) h (fun r2 S1 h => ?_)
  refine lg_dup rfl (by decide +kernel : decode method_8_code 3 = .ok (.dup, 1)) ?_
  refine lg_I0 (vm_hw_in (i := 964) (by decide +kernel)) (by decide +kernel : decode method_8_code 4 = .ok (.invokespecial 60, 3)) (Nat.le_of_ble_eq_true rfl) h (fun S3 h => ?_)
  refine lg_astore_n (k := 2) (l1 := [some (vm_r o0), some (vm_r o1), some (vm_r r2), none, none]) rfl rfl rfl (by decide +kernel : decode method_8_code 7 = .ok (.astore_n 2, 1)) ?_
  refine lg_iconst (n := 1) (by decide) (by decide +kernel : decode method_8_code 8 = .ok (.iconst 1, 1)) ?_
  refine lg_aload_n (k := 1) rfl rfl (by decide +kernel : decode method_8_code 9 = .ok (.aload_n 1, 1)) ?_
  refine lg_Ci [vm_r o1] lOK_draw rfl (show 0 < 2 by decide) (vm_hw_in (i := 776) (by decide +kernel)) (by decide +kernel : decode method_8_code 10 = .ok (.invokestatic 49, 3)) (Nat.le_of_ble_eq_true rfl) (Nat.le_of_ble_eq_true rfl) h (fun z5 S4 h => ?_)
  refine lg_bipush (n := 9) (by decide) (by decide) (by decide +kernel : decode method_8_code 13 = .ok (.bipush 9, 2)) ?_
  obtain ⟨h1, h⟩ := h
  refine lg_irem h1 (by decide +kernel : decode method_8_code 15 = .ok (.irem, 1)) ?_
  obtain ⟨h1, h⟩ := h
  refine lg_iadd h1 (by decide +kernel : decode method_8_code 16 = .ok (.iadd, 1)) ?_
  refine lg_istore_n (k := 3) (l1 := [some (vm_r o0), some (vm_r o1), some (vm_r r2), some (vm_i ((1 + ((z5 % 9))))), none]) rfl rfl rfl (by decide +kernel : decode method_8_code 17 = .ok (.istore_n 3, 1)) ?_
  exact h
set_option maxHeartbeats 4000000 in
theorem rL_words_18 {S : lwS} {Qp : Option vm_V → lwS → Prop} {o0 : Nat} {o1 : Nat} {o2 : Nat} {v3 : Int} (h : (v3 ≤ 0 → (lTo o2 S (fun r2 S1 => Qp (some (vm_r r2)) S1))) ∧ (¬ (v3 ≤ 0) → (lCi lK_draw [vm_r o1] S (fun z4 S3 => ((0 : Int) ≤ z4 ∧ (0 : Int) < 5) ∧ (lG lK_words 30 [some (vm_r o0), some (vm_r o1), some (vm_r o2), some (vm_i v3), some (vm_i ((z4 % 5)))] [] S3 Qp))))) : lG lK_words 18 [some (vm_r o0), some (vm_r o1), some (vm_r o2), some (vm_i v3), none] [] S Qp := by
  refine lg_iload_n (k := 3) rfl rfl (by decide +kernel : decode method_8_code 18 = .ok (.iload_n 3, 1)) ?_
  refine lg_if_le (t := 90) (by decide +kernel : decode method_8_code 19 = .ok (.ifCond .le 71, 3)) (by decide) ⟨fun c => ?_, fun c => ?_⟩
  · replace h := h.1 c
    refine lg_aload_n (k := 2) rfl rfl (by decide +kernel : decode method_8_code 90 = .ok (.aload_n 2, 1)) ?_
    refine lg_To (vm_hw_in (i := 971) (by decide +kernel)) (by decide +kernel : decode method_8_code 91 = .ok (.invokevirtual 69, 3)) (Nat.le_of_ble_eq_true rfl) h (fun r2 S1 h => ?_)
    exact lg_ret (Or.inr (Or.inl ⟨_, (by decide +kernel : decode method_8_code 94 = .ok (.areturn, 1)), rfl, rfl, rfl⟩)) h
  · replace h := h.2 c
    refine lg_aload_n (k := 1) rfl rfl (by decide +kernel : decode method_8_code 22 = .ok (.aload_n 1, 1)) ?_
    refine lg_Ci [vm_r o1] lOK_draw rfl (show 0 < 2 by decide) (vm_hw_in (i := 776) (by decide +kernel)) (by decide +kernel : decode method_8_code 23 = .ok (.invokestatic 49, 3)) (Nat.le_of_ble_eq_true rfl) (Nat.le_of_ble_eq_true rfl) h (fun z4 S3 h => ?_)
    refine lg_iconst (n := 5) (by decide) (by decide +kernel : decode method_8_code 26 = .ok (.iconst 5, 1)) ?_
    obtain ⟨h1, h⟩ := h
    refine lg_irem h1 (by decide +kernel : decode method_8_code 27 = .ok (.irem, 1)) ?_
    refine lg_istore (k := 4) (l1 := [some (vm_r o0), some (vm_r o1), some (vm_r o2), some (vm_i v3), some (vm_i ((z4 % 5)))]) rfl rfl (by decide +kernel : decode method_8_code 28 = .ok (.istore 4, 2)) ?_
    exact h
set_option maxHeartbeats 4000000 in
theorem rL_words_30 {S : lwS} {Qp : Option vm_V → lwS → Prop} {o0 : Nat} {o1 : Nat} {o2 : Nat} {v3 : Int} {v4 : Int} (h : (v4 < 0 → (lCi lK_draw [vm_r o1] S (fun z2 S1 => ((0 : Int) ≤ z2 ∧ (0 : Int) < 3) ∧ ((¬ ((z2 % 3)) = 0 → (lG lK_words 80 [some (vm_r o0), some (vm_r o1), some (vm_r o2), some (vm_i v3), none] [vm_r 46, vm_r o2] S1 Qp)) ∧ (¬ (¬ ((z2 % 3)) = 0) → (lG lK_words 80 [some (vm_r o0), some (vm_r o1), some (vm_r o2), some (vm_i v3), none] [vm_r 45, vm_r o2] S1 Qp)))))) ∧ (¬ (v4 < 0) → (lCi lK_draw [vm_r o1] S (fun z4 S3 => lNn 115 o0 [9] S3 (fun z6 S5 => ((0 : Int) ≤ z4 ∧ (0 : Int) < z6) ∧ ((vm_32 (3 * ((z4 % z6)))) ∧ ((vm_32 (97 + ((3 * ((z4 % z6)))))) ∧ (((0 : Int) ≤ ((97 + ((3 * ((z4 % z6)))))) ∧ ((97 + ((3 * ((z4 % z6)))))) < 65536) ∧ (lAc o2 ((97 + ((3 * ((z4 % z6)))))) S5 (fun S7 => (vm_32 (v4 + (-1))) ∧ (lG lK_words 30 [some (vm_r o0), some (vm_r o1), some (vm_r o2), some (vm_i v3), some (vm_i ((v4 + (-1))))] [] S7 Qp))))))))))) : lG lK_words 30 [some (vm_r o0), some (vm_r o1), some (vm_r o2), some (vm_i v3), some (vm_i v4)] [] S Qp := by
  refine lg_iload (k := 4) rfl (by decide +kernel : decode method_8_code 30 = .ok (.iload 4, 2)) ?_
  refine lg_if_lt (t := 63) (by decide +kernel : decode method_8_code 32 = .ok (.ifCond .lt 31, 3)) (by decide) ⟨fun c => ?_, fun c => ?_⟩
  · replace h := h.1 c
    refine lg_aload_n (k := 2) rfl rfl (by decide +kernel : decode method_8_code 63 = .ok (.aload_n 2, 1)) ?_
    refine lg_aload_n (k := 1) rfl rfl (by decide +kernel : decode method_8_code 64 = .ok (.aload_n 1, 1)) ?_
    refine lg_Ci [vm_r o1] lOK_draw rfl (show 0 < 2 by decide) (vm_hw_in (i := 776) (by decide +kernel)) (by decide +kernel : decode method_8_code 65 = .ok (.invokestatic 49, 3)) (Nat.le_of_ble_eq_true rfl) (Nat.le_of_ble_eq_true rfl) h (fun z2 S1 h => ?_)
    refine lg_iconst (n := 3) (by decide) (by decide +kernel : decode method_8_code 68 = .ok (.iconst 3, 1)) ?_
    obtain ⟨h1, h⟩ := h
    refine lg_irem h1 (by decide +kernel : decode method_8_code 69 = .ok (.irem, 1)) ?_
    refine lg_if_ne (t := 78) (by decide +kernel : decode method_8_code 70 = .ok (.ifCond .ne 8, 3)) (by decide) ⟨fun c => ?_, fun c => ?_⟩
    · replace h := h.1 c
      refine lg_ldcs (k9 := 46) (by decide) (by decide +kernel) (by decide +kernel : decode method_8_code 78 = .ok (.ldc 110, 2)) ?_
      exact lg_sub (ls := [some (vm_r o0), some (vm_r o1), some (vm_r o2), some (vm_i v3), none]) ⟨rfl, ⟨rfl, ⟨rfl, ⟨rfl, trivial⟩⟩⟩⟩ h
    · replace h := h.2 c
      refine lg_ldcs (k9 := 45) (by decide) (by decide +kernel) (by decide +kernel : decode method_8_code 73 = .ok (.ldc 108, 2)) ?_
      refine lg_goto (t := 80) (by decide +kernel : decode method_8_code 75 = .ok (.goto 5, 3)) (by decide) ?_
      exact lg_sub (ls := [some (vm_r o0), some (vm_r o1), some (vm_r o2), some (vm_i v3), none]) ⟨rfl, ⟨rfl, ⟨rfl, ⟨rfl, trivial⟩⟩⟩⟩ h
  · replace h := h.2 c
    refine lg_aload_n (k := 2) rfl rfl (by decide +kernel : decode method_8_code 35 = .ok (.aload_n 2, 1)) ?_
    refine lg_bipush (n := 97) (by decide) (by decide) (by decide +kernel : decode method_8_code 36 = .ok (.bipush 97, 2)) ?_
    refine lg_iconst (n := 3) (by decide) (by decide +kernel : decode method_8_code 38 = .ok (.iconst 3, 1)) ?_
    refine lg_aload_n (k := 1) rfl rfl (by decide +kernel : decode method_8_code 39 = .ok (.aload_n 1, 1)) ?_
    refine lg_Ci [vm_r o1] lOK_draw rfl (show 0 < 2 by decide) (vm_hw_in (i := 776) (by decide +kernel)) (by decide +kernel : decode method_8_code 40 = .ok (.invokestatic 49, 3)) (Nat.le_of_ble_eq_true rfl) (Nat.le_of_ble_eq_true rfl) h (fun z4 S3 h => ?_)
    refine lg_aload_n (k := 0) rfl rfl (by decide +kernel : decode method_8_code 43 = .ok (.aload_n 0, 1)) ?_
    refine lg_bipush (n := 9) (by decide) (by decide) (by decide +kernel : decode method_8_code 44 = .ok (.bipush 9, 2)) ?_
    refine lg_N 115 [9] (show lCls 115 1 = true by decide +kernel) (Nat.le_of_ble_eq_true rfl) (vm_hw_in (i := 604) (by decide +kernel)) (by decide +kernel : decode method_8_code 46 = .ok (.invokevirtual 40, 3)) h (fun z6 S5 h => ?_)
    obtain ⟨h1, h⟩ := h
    refine lg_irem h1 (by decide +kernel : decode method_8_code 49 = .ok (.irem, 1)) ?_
    obtain ⟨h1, h⟩ := h
    refine lg_imul h1 (by decide +kernel : decode method_8_code 50 = .ok (.imul, 1)) ?_
    obtain ⟨h1, h⟩ := h
    refine lg_iadd h1 (by decide +kernel : decode method_8_code 51 = .ok (.iadd, 1)) ?_
    obtain ⟨h1, h⟩ := h
    refine lg_i2c h1 (by decide +kernel : decode method_8_code 52 = .ok (.i2c, 1)) ?_
    refine lg_Ac (vm_hw_in (i := 937) (by decide +kernel)) (by decide +kernel : decode method_8_code 53 = .ok (.invokevirtual 53, 3)) (Nat.le_of_ble_eq_true rfl) h (fun S7 h => ?_)
    refine lg_pop rfl (by decide +kernel : decode method_8_code 56 = .ok (.pop, 1)) ?_
    obtain ⟨h1, h⟩ := h
    refine lg_iinc (k := 4) (l1 := [some (vm_r o0), some (vm_r o1), some (vm_r o2), some (vm_i v3), some (vm_i ((v4 + (-1))))]) rfl rfl rfl h1 (by decide +kernel : decode method_8_code 57 = .ok (.iinc 4 (-1), 3)) ?_
    refine lg_goto (t := 30) (by decide +kernel : decode method_8_code 60 = .ok (.goto (-30), 3)) (by decide) ?_
    exact h
set_option maxHeartbeats 4000000 in
theorem rL_words_80 {S : lwS} {Qp : Option vm_V → lwS → Prop} {o0 : Nat} {o1 : Nat} {o2 : Nat} {v3 : Int} {x0 : Nat} {x1 : Nat} (h : lAs x1 x0 S (fun S1 => (vm_32 (v3 + (-1))) ∧ (lG lK_words 18 [some (vm_r o0), some (vm_r o1), some (vm_r o2), some (vm_i ((v3 + (-1)))), none] [] S1 Qp))) : lG lK_words 80 [some (vm_r o0), some (vm_r o1), some (vm_r o2), some (vm_i v3), none] [vm_r x0, vm_r x1] S Qp := by
  refine lg_As (vm_hw_in (i := 951) (by decide +kernel)) (by decide +kernel : decode method_8_code 80 = .ok (.invokevirtual 63, 3)) (Nat.le_of_ble_eq_true rfl) h (fun S1 h => ?_)
  refine lg_pop rfl (by decide +kernel : decode method_8_code 83 = .ok (.pop, 1)) ?_
  obtain ⟨h1, h⟩ := h
  refine lg_iinc (k := 3) (l1 := [some (vm_r o0), some (vm_r o1), some (vm_r o2), some (vm_i ((v3 + (-1)))), none]) rfl rfl rfl h1 (by decide +kernel : decode method_8_code 84 = .ok (.iinc 3 (-1), 3)) ?_
  refine lg_goto (t := 18) (by decide +kernel : decode method_8_code 87 = .ok (.goto (-69), 3)) (by decide) ?_
  exact h
set_option maxHeartbeats 4000000 in
theorem rL_text_0 {S : lwS} {Qp : Option vm_V → lwS → Prop} {o0 : Nat} {v1 : Int} (h : lNb S (fun r2 S1 => lI0 r2 S1 (fun S3 => (v1 = 0 → (lNn 154 o0 [] S3 (fun z5 S4 => lG lK_text 23 [some (vm_r o0), some (vm_i v1), some (vm_r r2), none, none] [vm_i z5] S4 Qp))) ∧ (¬ (v1 = 0) → (lNn 152 o0 [] S3 (fun z7 S6 => lG lK_text 23 [some (vm_r o0), some (vm_i v1), some (vm_r r2), none, none] [vm_i z7] S6 Qp)))))) : lG lK_text 0 [some (vm_r o0), some (vm_i v1), none, none, none] [] S Qp := by
  refine lg_Nb (vm_hw_in (i := 780) (by decide +kernel)) (by decide +kernel : decode method_9_code 0 = .ok (.new 54, 3)) h (fun r2 S1 h => ?_)
  refine lg_dup rfl (by decide +kernel : decode method_9_code 3 = .ok (.dup, 1)) ?_
  refine lg_I0 (vm_hw_in (i := 964) (by decide +kernel)) (by decide +kernel : decode method_9_code 4 = .ok (.invokespecial 60, 3)) (Nat.le_of_ble_eq_true rfl) h (fun S3 h => ?_)
  refine lg_astore_n (k := 2) (l1 := [some (vm_r o0), some (vm_i v1), some (vm_r r2), none, none]) rfl rfl rfl (by decide +kernel : decode method_9_code 7 = .ok (.astore_n 2, 1)) ?_
  refine lg_iload_n (k := 1) rfl rfl (by decide +kernel : decode method_9_code 8 = .ok (.iload_n 1, 1)) ?_
  refine lg_if_eq (t := 19) (by decide +kernel : decode method_9_code 9 = .ok (.ifCond .eq 10, 3)) (by decide) ⟨fun c => ?_, fun c => ?_⟩
  · replace h := h.1 c
    refine lg_aload_n (k := 0) rfl rfl (by decide +kernel : decode method_9_code 19 = .ok (.aload_n 0, 1)) ?_
    refine lg_N 154 [] (show lCls 154 0 = true by decide +kernel) (Nat.le_of_ble_eq_true rfl) (vm_hw_in (i := 1273) (by decide +kernel)) (by decide +kernel : decode method_9_code 20 = .ok (.invokevirtual 115, 3)) h (fun z5 S4 h => ?_)
    exact h
  · replace h := h.2 c
    refine lg_aload_n (k := 0) rfl rfl (by decide +kernel : decode method_9_code 12 = .ok (.aload_n 0, 1)) ?_
    refine lg_N 152 [] (show lCls 152 0 = true by decide +kernel) (Nat.le_of_ble_eq_true rfl) (vm_hw_in (i := 1252) (by decide +kernel)) (by decide +kernel : decode method_9_code 13 = .ok (.invokevirtual 112, 3)) h (fun z7 S6 h => ?_)
    refine lg_goto (t := 23) (by decide +kernel : decode method_9_code 16 = .ok (.goto 7, 3)) (by decide) ?_
    exact h
set_option maxHeartbeats 4000000 in
theorem rL_text_23 {S : lwS} {Qp : Option vm_V → lwS → Prop} {o0 : Nat} {v1 : Int} {o2 : Nat} {x0 : Int} (h : lG lK_text 27 [some (vm_r o0), some (vm_i v1), some (vm_r o2), some (vm_i x0), some (vm_i 0)] [] S Qp) : lG lK_text 23 [some (vm_r o0), some (vm_i v1), some (vm_r o2), none, none] [vm_i x0] S Qp := by
  refine lg_istore_n (k := 3) (l1 := [some (vm_r o0), some (vm_i v1), some (vm_r o2), some (vm_i x0), none]) rfl rfl rfl (by decide +kernel : decode method_9_code 23 = .ok (.istore_n 3, 1)) ?_
  refine lg_iconst (n := 0) (by decide) (by decide +kernel : decode method_9_code 24 = .ok (.iconst 0, 1)) ?_
  refine lg_istore (k := 4) (l1 := [some (vm_r o0), some (vm_i v1), some (vm_r o2), some (vm_i x0), some (vm_i 0)]) rfl rfl (by decide +kernel : decode method_9_code 25 = .ok (.istore 4, 2)) ?_
  exact h
set_option maxHeartbeats 4000000 in
theorem rL_text_27 {S : lwS} {Qp : Option vm_V → lwS → Prop} {o0 : Nat} {v1 : Int} {o2 : Nat} {v3 : Int} {v4 : Int} (h : (v3 ≤ v4 → (lTo o2 S (fun r2 S1 => Qp (some (vm_r r2)) S1))) ∧ (¬ (v3 ≤ v4) → ((v1 = 0 → (lNn 155 o0 [v4] S (fun z4 S3 => lG lK_text 53 [some (vm_r o0), some (vm_i v1), some (vm_r o2), some (vm_i v3), some (vm_i v4)] [vm_i z4, vm_r o2] S3 Qp))) ∧ (¬ (v1 = 0) → (lNn 153 o0 [v4] S (fun z6 S5 => lG lK_text 53 [some (vm_r o0), some (vm_i v1), some (vm_r o2), some (vm_i v3), some (vm_i v4)] [vm_i z6, vm_r o2] S5 Qp)))))) : lG lK_text 27 [some (vm_r o0), some (vm_i v1), some (vm_r o2), some (vm_i v3), some (vm_i v4)] [] S Qp := by
  refine lg_iload (k := 4) rfl (by decide +kernel : decode method_9_code 27 = .ok (.iload 4, 2)) ?_
  refine lg_iload_n (k := 3) rfl rfl (by decide +kernel : decode method_9_code 29 = .ok (.iload_n 3, 1)) ?_
  refine lg_icmp_ge (t := 64) (by decide +kernel : decode method_9_code 30 = .ok (.if_icmp .ge 34, 3)) (by decide) ⟨fun c => ?_, fun c => ?_⟩
  · replace h := h.1 c
    refine lg_aload_n (k := 2) rfl rfl (by decide +kernel : decode method_9_code 64 = .ok (.aload_n 2, 1)) ?_
    refine lg_To (vm_hw_in (i := 971) (by decide +kernel)) (by decide +kernel : decode method_9_code 65 = .ok (.invokevirtual 69, 3)) (Nat.le_of_ble_eq_true rfl) h (fun r2 S1 h => ?_)
    exact lg_ret (Or.inr (Or.inl ⟨_, (by decide +kernel : decode method_9_code 68 = .ok (.areturn, 1)), rfl, rfl, rfl⟩)) h
  · replace h := h.2 c
    refine lg_aload_n (k := 2) rfl rfl (by decide +kernel : decode method_9_code 33 = .ok (.aload_n 2, 1)) ?_
    refine lg_iload_n (k := 1) rfl rfl (by decide +kernel : decode method_9_code 34 = .ok (.iload_n 1, 1)) ?_
    refine lg_if_eq (t := 47) (by decide +kernel : decode method_9_code 35 = .ok (.ifCond .eq 12, 3)) (by decide) ⟨fun c => ?_, fun c => ?_⟩
    · replace h := h.1 c
      refine lg_aload_n (k := 0) rfl rfl (by decide +kernel : decode method_9_code 47 = .ok (.aload_n 0, 1)) ?_
      refine lg_iload (k := 4) rfl (by decide +kernel : decode method_9_code 48 = .ok (.iload 4, 2)) ?_
      refine lg_N 155 [v4] (show lCls 155 1 = true by decide +kernel) (Nat.le_of_ble_eq_true rfl) (vm_hw_in (i := 1323) (by decide +kernel)) (by decide +kernel : decode method_9_code 50 = .ok (.invokevirtual 121, 3)) h (fun z4 S3 h => ?_)
      exact h
    · replace h := h.2 c
      refine lg_aload_n (k := 0) rfl rfl (by decide +kernel : decode method_9_code 38 = .ok (.aload_n 0, 1)) ?_
      refine lg_iload (k := 4) rfl (by decide +kernel : decode method_9_code 39 = .ok (.iload 4, 2)) ?_
      refine lg_N 153 [v4] (show lCls 153 1 = true by decide +kernel) (Nat.le_of_ble_eq_true rfl) (vm_hw_in (i := 1319) (by decide +kernel)) (by decide +kernel : decode method_9_code 41 = .ok (.invokevirtual 118, 3)) h (fun z6 S5 h => ?_)
      refine lg_goto (t := 53) (by decide +kernel : decode method_9_code 44 = .ok (.goto 9, 3)) (by decide) ?_
      exact h
set_option maxHeartbeats 4000000 in
theorem rL_text_53 {S : lwS} {Qp : Option vm_V → lwS → Prop} {o0 : Nat} {v1 : Int} {o2 : Nat} {v3 : Int} {v4 : Int} {x0 : Int} {x1 : Nat} (h : ((0 : Int) ≤ x0 ∧ x0 < 65536) ∧ (lAc x1 x0 S (fun S1 => (vm_32 (v4 + 1)) ∧ (lG lK_text 27 [some (vm_r o0), some (vm_i v1), some (vm_r o2), some (vm_i v3), some (vm_i ((v4 + 1)))] [] S1 Qp)))) : lG lK_text 53 [some (vm_r o0), some (vm_i v1), some (vm_r o2), some (vm_i v3), some (vm_i v4)] [vm_i x0, vm_r x1] S Qp := by
  obtain ⟨h1, h⟩ := h
  refine lg_i2c h1 (by decide +kernel : decode method_9_code 53 = .ok (.i2c, 1)) ?_
  refine lg_Ac (vm_hw_in (i := 937) (by decide +kernel)) (by decide +kernel : decode method_9_code 54 = .ok (.invokevirtual 53, 3)) (Nat.le_of_ble_eq_true rfl) h (fun S1 h => ?_)
  refine lg_pop rfl (by decide +kernel : decode method_9_code 57 = .ok (.pop, 1)) ?_
  obtain ⟨h1, h⟩ := h
  refine lg_iinc (k := 4) (l1 := [some (vm_r o0), some (vm_i v1), some (vm_r o2), some (vm_i v3), some (vm_i ((v4 + 1)))]) rfl rfl rfl h1 (by decide +kernel : decode method_9_code 58 = .ok (.iinc 4 1, 3)) ?_
  refine lg_goto (t := 27) (by decide +kernel : decode method_9_code 61 = .ok (.goto (-34), 3)) (by decide) ?_
  exact h
set_option maxHeartbeats 4000000 in
theorem rL_told_0 {S : lwS} {Qp : Option vm_V → lwS → Prop} {o0 : Nat} (h : lNb S (fun r2 S1 => lCr lK_text [vm_r o0, vm_i 1] S1 (fun r4 S3 => lIs r2 r4 S3 (fun S5 => lCr lK_text [vm_r o0, vm_i 0] S5 (fun r7 S6 => lAs r2 r7 S6 (fun S8 => lG lK_told 23 [some (vm_r o0), some (vm_r r2), some (vm_i 0), none] [] S8 Qp)))))) : lG lK_told 0 [some (vm_r o0), none, none, none] [] S Qp := by
  refine lg_Nb (vm_hw_in (i := 780) (by decide +kernel)) (by decide +kernel : decode method_13_code 0 = .ok (.new 54, 3)) h (fun r2 S1 h => ?_)
  refine lg_dup rfl (by decide +kernel : decode method_13_code 3 = .ok (.dup, 1)) ?_
  refine lg_aload_n (k := 0) rfl rfl (by decide +kernel : decode method_13_code 4 = .ok (.aload_n 0, 1)) ?_
  refine lg_iconst (n := 1) (by decide) (by decide +kernel : decode method_13_code 5 = .ok (.iconst 1, 1)) ?_
  refine lg_Cr [vm_r o0, vm_i 1] lOK_text rfl (show 1 < 2 by decide) (vm_hw_in (i := 1249) (by decide +kernel)) (by decide +kernel : decode method_13_code 6 = .ok (.invokestatic 216, 3)) (Nat.le_of_ble_eq_true rfl) (Nat.le_of_ble_eq_true rfl) h (fun r4 S3 h => ?_)
  refine lg_Is (vm_hw_in (i := 783) (by decide +kernel)) (by decide +kernel : decode method_13_code 9 = .ok (.invokespecial 75, 3)) (Nat.le_of_ble_eq_true rfl) h (fun S5 h => ?_)
  refine lg_aload_n (k := 0) rfl rfl (by decide +kernel : decode method_13_code 12 = .ok (.aload_n 0, 1)) ?_
  refine lg_iconst (n := 0) (by decide) (by decide +kernel : decode method_13_code 13 = .ok (.iconst 0, 1)) ?_
  refine lg_Cr [vm_r o0, vm_i 0] lOK_text rfl (show 1 < 2 by decide) (vm_hw_in (i := 1249) (by decide +kernel)) (by decide +kernel : decode method_13_code 14 = .ok (.invokestatic 216, 3)) (Nat.le_of_ble_eq_true rfl) (Nat.le_of_ble_eq_true rfl) h (fun r7 S6 h => ?_)
  refine lg_As (vm_hw_in (i := 951) (by decide +kernel)) (by decide +kernel : decode method_13_code 17 = .ok (.invokevirtual 63, 3)) (Nat.le_of_ble_eq_true rfl) h (fun S8 h => ?_)
  refine lg_astore_n (k := 1) (l1 := [some (vm_r o0), some (vm_r r2), none, none]) rfl rfl rfl (by decide +kernel : decode method_13_code 20 = .ok (.astore_n 1, 1)) ?_
  refine lg_iconst (n := 0) (by decide) (by decide +kernel : decode method_13_code 21 = .ok (.iconst 0, 1)) ?_
  refine lg_istore_n (k := 2) (l1 := [some (vm_r o0), some (vm_r r2), some (vm_i 0), none]) rfl rfl rfl (by decide +kernel : decode method_13_code 22 = .ok (.istore_n 2, 1)) ?_
  exact h
set_option maxHeartbeats 4000000 in
theorem rL_told_23 {S : lwS} {Qp : Option vm_V → lwS → Prop} {o0 : Nat} {o1 : Nat} {v2 : Int} (h : (14 ≤ v2 → (lG lK_told 52 [some (vm_r o0), some (vm_r o1), some (vm_i 0), none] [] S Qp)) ∧ (¬ (14 ≤ v2) → (lAs o1 47 S (fun S1 => lNn 115 o0 [v2] S1 (fun z3 S2 => lAi o1 z3 S2 (fun S4 => (vm_32 (v2 + 1)) ∧ (lG lK_told 23 [some (vm_r o0), some (vm_r o1), some (vm_i ((v2 + 1))), none] [] S4 Qp))))))) : lG lK_told 23 [some (vm_r o0), some (vm_r o1), some (vm_i v2), none] [] S Qp := by
  refine lg_iload_n (k := 2) rfl rfl (by decide +kernel : decode method_13_code 23 = .ok (.iload_n 2, 1)) ?_
  refine lg_bipush (n := 14) (by decide) (by decide) (by decide +kernel : decode method_13_code 24 = .ok (.bipush 14, 2)) ?_
  refine lg_icmp_ge (t := 50) (by decide +kernel : decode method_13_code 26 = .ok (.if_icmp .ge 24, 3)) (by decide) ⟨fun c => ?_, fun c => ?_⟩
  · replace h := h.1 c
    refine lg_iconst (n := 0) (by decide) (by decide +kernel : decode method_13_code 50 = .ok (.iconst 0, 1)) ?_
    refine lg_istore_n (k := 2) (l1 := [some (vm_r o0), some (vm_r o1), some (vm_i 0), none]) rfl rfl rfl (by decide +kernel : decode method_13_code 51 = .ok (.istore_n 2, 1)) ?_
    exact h
  · replace h := h.2 c
    refine lg_aload_n (k := 1) rfl rfl (by decide +kernel : decode method_13_code 29 = .ok (.aload_n 1, 1)) ?_
    refine lg_ldcs (k9 := 47) (by decide) (by decide +kernel) (by decide +kernel : decode method_13_code 30 = .ok (.ldc 220, 2)) ?_
    refine lg_As (vm_hw_in (i := 951) (by decide +kernel)) (by decide +kernel : decode method_13_code 32 = .ok (.invokevirtual 63, 3)) (Nat.le_of_ble_eq_true rfl) h (fun S1 h => ?_)
    refine lg_aload_n (k := 0) rfl rfl (by decide +kernel : decode method_13_code 35 = .ok (.aload_n 0, 1)) ?_
    refine lg_iload_n (k := 2) rfl rfl (by decide +kernel : decode method_13_code 36 = .ok (.iload_n 2, 1)) ?_
    refine lg_N 115 [v2] (show lCls 115 1 = true by decide +kernel) (Nat.le_of_ble_eq_true rfl) (vm_hw_in (i := 604) (by decide +kernel)) (by decide +kernel : decode method_13_code 37 = .ok (.invokevirtual 40, 3)) h (fun z3 S2 h => ?_)
    refine lg_Ai (vm_hw_in (i := 912) (by decide +kernel)) (by decide +kernel : decode method_13_code 40 = .ok (.invokevirtual 66, 3)) (Nat.le_of_ble_eq_true rfl) h (fun S4 h => ?_)
    refine lg_pop rfl (by decide +kernel : decode method_13_code 43 = .ok (.pop, 1)) ?_
    obtain ⟨h1, h⟩ := h
    refine lg_iinc (k := 2) (l1 := [some (vm_r o0), some (vm_r o1), some (vm_i ((v2 + 1))), none]) rfl rfl rfl h1 (by decide +kernel : decode method_13_code 44 = .ok (.iinc 2 1, 3)) ?_
    refine lg_goto (t := 23) (by decide +kernel : decode method_13_code 47 = .ok (.goto (-24), 3)) (by decide) ?_
    exact h
set_option maxHeartbeats 4000000 in
theorem rL_told_52 {S : lwS} {Qp : Option vm_V → lwS → Prop} {o0 : Nat} {o1 : Nat} {v2 : Int} (h : lNn 115 o0 [11] S (fun z2 S1 => (z2 ≤ v2 → (lNn 143 o0 [] S1 (fun z4 S3 => lAi o1 z4 S3 (fun S5 => lTo o1 S5 (fun r7 S6 => Qp (some (vm_r r7)) S6))))) ∧ (¬ (z2 ≤ v2) → (lG lK_told 64 [some (vm_r o0), some (vm_r o1), some (vm_i v2), some (vm_i 0)] [] S1 Qp)))) : lG lK_told 52 [some (vm_r o0), some (vm_r o1), some (vm_i v2), none] [] S Qp := by
  refine lg_iload_n (k := 2) rfl rfl (by decide +kernel : decode method_13_code 52 = .ok (.iload_n 2, 1)) ?_
  refine lg_aload_n (k := 0) rfl rfl (by decide +kernel : decode method_13_code 53 = .ok (.aload_n 0, 1)) ?_
  refine lg_bipush (n := 11) (by decide) (by decide) (by decide +kernel : decode method_13_code 54 = .ok (.bipush 11, 2)) ?_
  refine lg_N 115 [11] (show lCls 115 1 = true by decide +kernel) (Nat.le_of_ble_eq_true rfl) (vm_hw_in (i := 604) (by decide +kernel)) (by decide +kernel : decode method_13_code 56 = .ok (.invokevirtual 40, 3)) h (fun z2 S1 h => ?_)
  refine lg_icmp_ge (t := 102) (by decide +kernel : decode method_13_code 59 = .ok (.if_icmp .ge 43, 3)) (by decide) ⟨fun c => ?_, fun c => ?_⟩
  · replace h := h.1 c
    refine lg_aload_n (k := 1) rfl rfl (by decide +kernel : decode method_13_code 102 = .ok (.aload_n 1, 1)) ?_
    refine lg_aload_n (k := 0) rfl rfl (by decide +kernel : decode method_13_code 103 = .ok (.aload_n 0, 1)) ?_
    refine lg_N 143 [] (show lCls 143 0 = true by decide +kernel) (Nat.le_of_ble_eq_true rfl) (vm_hw_in (i := 1222) (by decide +kernel)) (by decide +kernel : decode method_13_code 104 = .ok (.invokevirtual 206, 3)) h (fun z4 S3 h => ?_)
    refine lg_Ai (vm_hw_in (i := 912) (by decide +kernel)) (by decide +kernel : decode method_13_code 107 = .ok (.invokevirtual 66, 3)) (Nat.le_of_ble_eq_true rfl) h (fun S5 h => ?_)
    refine lg_To (vm_hw_in (i := 971) (by decide +kernel)) (by decide +kernel : decode method_13_code 110 = .ok (.invokevirtual 69, 3)) (Nat.le_of_ble_eq_true rfl) h (fun r7 S6 h => ?_)
    exact lg_ret (Or.inr (Or.inl ⟨_, (by decide +kernel : decode method_13_code 113 = .ok (.areturn, 1)), rfl, rfl, rfl⟩)) h
  · replace h := h.2 c
    refine lg_iconst (n := 0) (by decide) (by decide +kernel : decode method_13_code 62 = .ok (.iconst 0, 1)) ?_
    refine lg_istore_n (k := 3) (l1 := [some (vm_r o0), some (vm_r o1), some (vm_i v2), some (vm_i 0)]) rfl rfl rfl (by decide +kernel : decode method_13_code 63 = .ok (.istore_n 3, 1)) ?_
    exact h
set_option maxHeartbeats 4000000 in
theorem rL_told_64 {S : lwS} {Qp : Option vm_V → lwS → Prop} {o0 : Nat} {o1 : Nat} {v2 : Int} {v3 : Int} (h : lNn 125 o0 [v2, 0] S (fun z2 S1 => (z2 ≤ v3 → ((vm_32 (v2 + 1)) ∧ (lG lK_told 52 [some (vm_r o0), some (vm_r o1), some (vm_i ((v2 + 1))), none] [] S1 Qp))) ∧ (¬ (z2 ≤ v3) → (lAs o1 47 S1 (fun S3 => lNn 126 o0 [v2, v3] S3 (fun z5 S4 => lAi o1 z5 S4 (fun S6 => (vm_32 (v3 + 1)) ∧ (lG lK_told 64 [some (vm_r o0), some (vm_r o1), some (vm_i v2), some (vm_i ((v3 + 1)))] [] S6 Qp)))))))) : lG lK_told 64 [some (vm_r o0), some (vm_r o1), some (vm_i v2), some (vm_i v3)] [] S Qp := by
  refine lg_iload_n (k := 3) rfl rfl (by decide +kernel : decode method_13_code 64 = .ok (.iload_n 3, 1)) ?_
  refine lg_aload_n (k := 0) rfl rfl (by decide +kernel : decode method_13_code 65 = .ok (.aload_n 0, 1)) ?_
  refine lg_iload_n (k := 2) rfl rfl (by decide +kernel : decode method_13_code 66 = .ok (.iload_n 2, 1)) ?_
  refine lg_iconst (n := 0) (by decide) (by decide +kernel : decode method_13_code 67 = .ok (.iconst 0, 1)) ?_
  refine lg_N 125 [v2, 0] (show lCls 125 2 = true by decide +kernel) (Nat.le_of_ble_eq_true rfl) (vm_hw_in (i := 1169) (by decide +kernel)) (by decide +kernel : decode method_13_code 68 = .ok (.invokevirtual 187, 3)) h (fun z2 S1 h => ?_)
  refine lg_icmp_ge (t := 96) (by decide +kernel : decode method_13_code 71 = .ok (.if_icmp .ge 25, 3)) (by decide) ⟨fun c => ?_, fun c => ?_⟩
  · replace h := h.1 c
    obtain ⟨h1, h⟩ := h
    refine lg_iinc (k := 2) (l1 := [some (vm_r o0), some (vm_r o1), some (vm_i ((v2 + 1))), some (vm_i v3)]) rfl rfl rfl h1 (by decide +kernel : decode method_13_code 96 = .ok (.iinc 2 1, 3)) ?_
    refine lg_goto (t := 52) (by decide +kernel : decode method_13_code 99 = .ok (.goto (-47), 3)) (by decide) ?_
    exact lg_sub (ls := [some (vm_r o0), some (vm_r o1), some (vm_i ((v2 + 1))), none]) ⟨rfl, ⟨rfl, ⟨rfl, trivial⟩⟩⟩ h
  · replace h := h.2 c
    refine lg_aload_n (k := 1) rfl rfl (by decide +kernel : decode method_13_code 74 = .ok (.aload_n 1, 1)) ?_
    refine lg_ldcs (k9 := 47) (by decide) (by decide +kernel) (by decide +kernel : decode method_13_code 75 = .ok (.ldc 220, 2)) ?_
    refine lg_As (vm_hw_in (i := 951) (by decide +kernel)) (by decide +kernel : decode method_13_code 77 = .ok (.invokevirtual 63, 3)) (Nat.le_of_ble_eq_true rfl) h (fun S3 h => ?_)
    refine lg_aload_n (k := 0) rfl rfl (by decide +kernel : decode method_13_code 80 = .ok (.aload_n 0, 1)) ?_
    refine lg_iload_n (k := 2) rfl rfl (by decide +kernel : decode method_13_code 81 = .ok (.iload_n 2, 1)) ?_
    refine lg_iload_n (k := 3) rfl rfl (by decide +kernel : decode method_13_code 82 = .ok (.iload_n 3, 1)) ?_
    refine lg_N 126 [v2, v3] (show lCls 126 2 = true by decide +kernel) (Nat.le_of_ble_eq_true rfl) (vm_hw_in (i := 1328) (by decide +kernel)) (by decide +kernel : decode method_13_code 83 = .ok (.invokevirtual 222, 3)) h (fun z5 S4 h => ?_)
    refine lg_Ai (vm_hw_in (i := 912) (by decide +kernel)) (by decide +kernel : decode method_13_code 86 = .ok (.invokevirtual 66, 3)) (Nat.le_of_ble_eq_true rfl) h (fun S6 h => ?_)
    refine lg_pop rfl (by decide +kernel : decode method_13_code 89 = .ok (.pop, 1)) ?_
    obtain ⟨h1, h⟩ := h
    refine lg_iinc (k := 3) (l1 := [some (vm_r o0), some (vm_r o1), some (vm_i v2), some (vm_i ((v3 + 1)))]) rfl rfl rfl h1 (by decide +kernel : decode method_13_code 90 = .ok (.iinc 3 1, 3)) ?_
    refine lg_goto (t := 64) (by decide +kernel : decode method_13_code 93 = .ok (.goto (-29), 3)) (by decide) ?_
    exact h
