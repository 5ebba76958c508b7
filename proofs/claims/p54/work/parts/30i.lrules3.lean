/-! ===== rules of the law (printed): acts, pairs ===== -/
set_option maxHeartbeats 4000000 in
theorem rL_acts_0 {S : lwS} {Qp : Option vm_V → lwS → Prop} {o0 : Nat} {o1 : Nat} (h : lNn 115 o0 [11] S (fun z2 S1 => lCi lK_draw [vm_r o1] S1 (fun z4 S3 => ((0 : Int) ≤ z4 ∧ (0 : Int) < 9) ∧ ((((z4 % 9)) = 0 → (lCi lK_draw [vm_r o1] S3 (fun z6 S5 => ((0 : Int) ≤ z6 ∧ (0 : Int) < 200) ∧ ((vm_32 (20 + ((z6 % 200)))) ∧ (lNn 106 o0 [0, (20 + ((z6 % 200)))] S5 (fun z8 S7 => Qp (some (vm_i z8)) S7)))))) ∧ (((z4 % 9)) = 1 → (lCi lK_draw [vm_r o1] S3 (fun z10 S9 => lNn 115 o0 [6] S9 (fun z12 S11 => (vm_32 (z12 + 1)) ∧ (((0 : Int) ≤ z10 ∧ (0 : Int) < ((z12 + 1))) ∧ (lNn 106 o0 [3, (z10 % ((z12 + 1)))] S11 (fun z14 S13 => Qp (some (vm_i z14)) S13))))))) ∧ (((z4 % 9)) = 2 → (lCi lK_draw [vm_r o1] S3 (fun z16 S15 => ((0 : Int) ≤ z16 ∧ (0 : Int) < 2) ∧ ((vm_32 (2 * ((z16 % 2)))) ∧ ((vm_32 (2 + ((2 * ((z16 % 2)))))) ∧ (lCi lK_draw [vm_r o1] S15 (fun z18 S17 => ((0 : Int) ≤ z18 ∧ (0 : Int) < 12) ∧ (lNn 106 o0 [(2 + ((2 * ((z16 % 2))))), (z18 % 12)] S17 (fun z20 S19 => Qp (some (vm_i z20)) S19))))))))) ∧ (((z4 % 9)) = 3 → (lCi lK_draw [vm_r o1] S3 (fun z22 S21 => ((0 : Int) ≤ z22 ∧ (0 : Int) < 3) ∧ ((vm_32 (1 + ((z22 % 3)))) ∧ (lNn 106 o0 [5, (1 + ((z22 % 3)))] S21 (fun z24 S23 => Qp (some (vm_i z24)) S23)))))) ∧ (((z4 % 9)) = 4 → (lCi lK_draw [vm_r o1] S3 (fun z26 S25 => lNn 115 o0 [9] S25 (fun z28 S27 => ((0 : Int) ≤ z26 ∧ (0 : Int) < z28) ∧ ((vm_32 (3 * ((z26 % z28)))) ∧ (lCi lK_draw [vm_r o1] S27 (fun z30 S29 => lNn 115 o0 [9] S29 (fun z32 S31 => ((0 : Int) ≤ z30 ∧ (0 : Int) < z32) ∧ ((vm_32 (3 * ((z30 % z32)))) ∧ (lCi lK_draw [vm_r o1] S31 (fun z34 S33 => ((0 : Int) ≤ z34 ∧ (0 : Int) < 19) ∧ ((vm_32 (((z34 % 19)) - 9)) ∧ (lNn 107 o0 [(3 * ((z26 % z28))), (3 * ((z30 % z32))), (((z34 % 19)) - 9)] S33 (fun z36 S35 => Qp (some (vm_i z36)) S35)))))))))))))) ∧ (((z4 % 9)) = 5 → (lCi lK_draw [vm_r o1] S3 (fun z38 S37 => ((0 : Int) ≤ z38 ∧ (0 : Int) < 2) ∧ (lNn 108 o0 [(z38 % 2)] S37 (fun z40 S39 => Qp (some (vm_i z40)) S39))))) ∧ (((z4 % 9)) = 6 → (lCi lK_draw [vm_r o1] S3 (fun z42 S41 => ((0 : Int) ≤ z42 ∧ (0 : Int) < 2) ∧ ((¬ ((z42 % 2)) = 0 → (lG lK_acts 199 [none, none, none] [vm_i 0, vm_r o0] S41 Qp)) ∧ (¬ (¬ ((z42 % 2)) = 0) → (lG lK_acts 199 [none, none, none] [vm_i 1, vm_r o0] S41 Qp)))))) ∧ ((((z4 % 9)) ≠ 0 ∧ ((z4 % 9)) ≠ 1 ∧ ((z4 % 9)) ≠ 2 ∧ ((z4 % 9)) ≠ 3 ∧ ((z4 % 9)) ≠ 4 ∧ ((z4 % 9)) ≠ 5 ∧ ((z4 % 9)) ≠ 6) → (lCi lK_draw [vm_r o1] S3 (fun z44 S43 => ((0 : Int) ≤ z44 ∧ (0 : Int) < ((if 1 < z2 then z2 else 1))) ∧ (lCi lK_draw [vm_r o1] S43 (fun z46 S45 => ((0 : Int) ≤ z46 ∧ (0 : Int) < ((if 1 < z2 then z2 else 1))) ∧ (lNn 110 o0 [(z44 % ((if 1 < z2 then z2 else 1))), (z46 % ((if 1 < z2 then z2 else 1)))] S45 (fun z48 S47 => Qp (some (vm_i z48)) S47))))))))))) : lG lK_acts 0 [some (vm_r o0), some (vm_r o1), none] [] S Qp := by
  refine lg_iconst (n := 1) (by decide) (by decide +kernel : decode method_10_code 0 = .ok (.iconst 1, 1)) ?_
  refine lg_aload_n (k := 0) rfl rfl (by decide +kernel : decode method_10_code 1 = .ok (.aload_n 0, 1)) ?_
  refine lg_bipush (n := 11) (by decide) (by decide) (by decide +kernel : decode method_10_code 2 = .ok (.bipush 11, 2)) ?_
  refine lg_N 115 [11] (show lCls 115 1 = true by decide +kernel) (Nat.le_of_ble_eq_true rfl) (vm_hw_in (i := 604) (by decide +kernel)) (by decide +kernel : decode method_10_code 4 = .ok (.invokevirtual 40, 3)) h (fun z2 S1 h => ?_)
  refine lg_max (Nat.le_of_ble_eq_true rfl) (vm_hw_in (i := 1040) (by decide +kernel)) (by decide +kernel : decode method_10_code 7 = .ok (.invokestatic 124, 3)) ?_
  refine lg_istore_n (k := 2) (l1 := [some (vm_r o0), some (vm_r o1), some (vm_i ((if 1 < z2 then z2 else 1)))]) rfl rfl rfl (by decide +kernel : decode method_10_code 10 = .ok (.istore_n 2, 1)) ?_
  refine lg_aload_n (k := 1) rfl rfl (by decide +kernel : decode method_10_code 11 = .ok (.aload_n 1, 1)) ?_
  refine lg_Ci [vm_r o1] lOK_draw rfl (show 0 < 1 by decide) (vm_hw_in (i := 776) (by decide +kernel)) (by decide +kernel : decode method_10_code 12 = .ok (.invokestatic 49, 3)) (Nat.le_of_ble_eq_true rfl) (Nat.le_of_ble_eq_true rfl) h (fun z4 S3 h => ?_)
  refine lg_bipush (n := 9) (by decide) (by decide) (by decide +kernel : decode method_10_code 15 = .ok (.bipush 9, 2)) ?_
  obtain ⟨h1, h⟩ := h
  refine lg_irem h1 (by decide +kernel : decode method_10_code 17 = .ok (.irem, 1)) ?_
  refine lg_sw (dd := 203) (qs := [(0, 60), (1, 77), (2, 96), (3, 118), (4, 132), (5, 173), (6, 184)]) (by decide +kernel : decode method_10_code 18 = .ok (.tableswitch 185 0 6 #[42, 59, 78, 100, 114, 155, 166], 42)) (by decide) (by decide) (by decide) ⟨fun q hq e => ?_, fun hq => ?_⟩
  · simp only [List.mem_cons, List.not_mem_nil, or_false] at hq
    rcases hq with rfl | rfl | rfl | rfl | rfl | rfl | rfl
    · replace h := h.1 e
      refine lg_aload_n (k := 0) rfl rfl (by decide +kernel : decode method_10_code 60 = .ok (.aload_n 0, 1)) ?_
      refine lg_iconst (n := 0) (by decide) (by decide +kernel : decode method_10_code 61 = .ok (.iconst 0, 1)) ?_
      refine lg_bipush (n := 20) (by decide) (by decide) (by decide +kernel : decode method_10_code 62 = .ok (.bipush 20, 2)) ?_
      refine lg_aload_n (k := 1) rfl rfl (by decide +kernel : decode method_10_code 64 = .ok (.aload_n 1, 1)) ?_
      refine lg_Ci [vm_r o1] lOK_draw rfl (show 0 < 1 by decide) (vm_hw_in (i := 776) (by decide +kernel)) (by decide +kernel : decode method_10_code 65 = .ok (.invokestatic 49, 3)) (Nat.le_of_ble_eq_true rfl) (Nat.le_of_ble_eq_true rfl) h (fun z6 S5 h => ?_)
      refine lg_sipush (n := 200) (by decide) (by decide) (by decide +kernel : decode method_10_code 68 = .ok (.sipush 200, 3)) ?_
      obtain ⟨h1, h⟩ := h
      refine lg_irem h1 (by decide +kernel : decode method_10_code 71 = .ok (.irem, 1)) ?_
      obtain ⟨h1, h⟩ := h
      refine lg_iadd h1 (by decide +kernel : decode method_10_code 72 = .ok (.iadd, 1)) ?_
      refine lg_N 106 [0, (20 + ((z6 % 200)))] (show lCls 106 2 = true by decide +kernel) (Nat.le_of_ble_eq_true rfl) (vm_hw_in (i := 1041) (by decide +kernel)) (by decide +kernel : decode method_10_code 73 = .ok (.invokevirtual 130, 3)) h (fun z8 S7 h => ?_)
      exact lg_ret (Or.inl ⟨_, (by decide +kernel : decode method_10_code 76 = .ok (.ireturn, 1)), Or.inl rfl, rfl, rfl⟩) h
    · replace h := h.2.1 e
      refine lg_aload_n (k := 0) rfl rfl (by decide +kernel : decode method_10_code 77 = .ok (.aload_n 0, 1)) ?_
      refine lg_iconst (n := 3) (by decide) (by decide +kernel : decode method_10_code 78 = .ok (.iconst 3, 1)) ?_
      refine lg_aload_n (k := 1) rfl rfl (by decide +kernel : decode method_10_code 79 = .ok (.aload_n 1, 1)) ?_
      refine lg_Ci [vm_r o1] lOK_draw rfl (show 0 < 1 by decide) (vm_hw_in (i := 776) (by decide +kernel)) (by decide +kernel : decode method_10_code 80 = .ok (.invokestatic 49, 3)) (Nat.le_of_ble_eq_true rfl) (Nat.le_of_ble_eq_true rfl) h (fun z10 S9 h => ?_)
      refine lg_aload_n (k := 0) rfl rfl (by decide +kernel : decode method_10_code 83 = .ok (.aload_n 0, 1)) ?_
      refine lg_bipush (n := 6) (by decide) (by decide) (by decide +kernel : decode method_10_code 84 = .ok (.bipush 6, 2)) ?_
      refine lg_N 115 [6] (show lCls 115 1 = true by decide +kernel) (Nat.le_of_ble_eq_true rfl) (vm_hw_in (i := 604) (by decide +kernel)) (by decide +kernel : decode method_10_code 86 = .ok (.invokevirtual 40, 3)) h (fun z12 S11 h => ?_)
      refine lg_iconst (n := 1) (by decide) (by decide +kernel : decode method_10_code 89 = .ok (.iconst 1, 1)) ?_
      obtain ⟨h1, h⟩ := h
      refine lg_iadd h1 (by decide +kernel : decode method_10_code 90 = .ok (.iadd, 1)) ?_
      obtain ⟨h1, h⟩ := h
      refine lg_irem h1 (by decide +kernel : decode method_10_code 91 = .ok (.irem, 1)) ?_
      refine lg_N 106 [3, (z10 % ((z12 + 1)))] (show lCls 106 2 = true by decide +kernel) (Nat.le_of_ble_eq_true rfl) (vm_hw_in (i := 1041) (by decide +kernel)) (by decide +kernel : decode method_10_code 92 = .ok (.invokevirtual 130, 3)) h (fun z14 S13 h => ?_)
      exact lg_ret (Or.inl ⟨_, (by decide +kernel : decode method_10_code 95 = .ok (.ireturn, 1)), Or.inl rfl, rfl, rfl⟩) h
    · replace h := h.2.2.1 e
      refine lg_aload_n (k := 0) rfl rfl (by decide +kernel : decode method_10_code 96 = .ok (.aload_n 0, 1)) ?_
      refine lg_iconst (n := 2) (by decide) (by decide +kernel : decode method_10_code 97 = .ok (.iconst 2, 1)) ?_
      refine lg_iconst (n := 2) (by decide) (by decide +kernel : decode method_10_code 98 = .ok (.iconst 2, 1)) ?_
      refine lg_aload_n (k := 1) rfl rfl (by decide +kernel : decode method_10_code 99 = .ok (.aload_n 1, 1)) ?_
      refine lg_Ci [vm_r o1] lOK_draw rfl (show 0 < 1 by decide) (vm_hw_in (i := 776) (by decide +kernel)) (by decide +kernel : decode method_10_code 100 = .ok (.invokestatic 49, 3)) (Nat.le_of_ble_eq_true rfl) (Nat.le_of_ble_eq_true rfl) h (fun z16 S15 h => ?_)
      refine lg_iconst (n := 2) (by decide) (by decide +kernel : decode method_10_code 103 = .ok (.iconst 2, 1)) ?_
      obtain ⟨h1, h⟩ := h
      refine lg_irem h1 (by decide +kernel : decode method_10_code 104 = .ok (.irem, 1)) ?_
      obtain ⟨h1, h⟩ := h
      refine lg_imul h1 (by decide +kernel : decode method_10_code 105 = .ok (.imul, 1)) ?_
      obtain ⟨h1, h⟩ := h
      refine lg_iadd h1 (by decide +kernel : decode method_10_code 106 = .ok (.iadd, 1)) ?_
      refine lg_aload_n (k := 1) rfl rfl (by decide +kernel : decode method_10_code 107 = .ok (.aload_n 1, 1)) ?_
      refine lg_Ci [vm_r o1] lOK_draw rfl (show 0 < 1 by decide) (vm_hw_in (i := 776) (by decide +kernel)) (by decide +kernel : decode method_10_code 108 = .ok (.invokestatic 49, 3)) (Nat.le_of_ble_eq_true rfl) (Nat.le_of_ble_eq_true rfl) h (fun z18 S17 h => ?_)
      refine lg_bipush (n := 12) (by decide) (by decide) (by decide +kernel : decode method_10_code 111 = .ok (.bipush 12, 2)) ?_
      obtain ⟨h1, h⟩ := h
      refine lg_irem h1 (by decide +kernel : decode method_10_code 113 = .ok (.irem, 1)) ?_
      refine lg_N 106 [(2 + ((2 * ((z16 % 2))))), (z18 % 12)] (show lCls 106 2 = true by decide +kernel) (Nat.le_of_ble_eq_true rfl) (vm_hw_in (i := 1041) (by decide +kernel)) (by decide +kernel : decode method_10_code 114 = .ok (.invokevirtual 130, 3)) h (fun z20 S19 h => ?_)
      exact lg_ret (Or.inl ⟨_, (by decide +kernel : decode method_10_code 117 = .ok (.ireturn, 1)), Or.inl rfl, rfl, rfl⟩) h
    · replace h := h.2.2.2.1 e
      refine lg_aload_n (k := 0) rfl rfl (by decide +kernel : decode method_10_code 118 = .ok (.aload_n 0, 1)) ?_
      refine lg_iconst (n := 5) (by decide) (by decide +kernel : decode method_10_code 119 = .ok (.iconst 5, 1)) ?_
      refine lg_iconst (n := 1) (by decide) (by decide +kernel : decode method_10_code 120 = .ok (.iconst 1, 1)) ?_
      refine lg_aload_n (k := 1) rfl rfl (by decide +kernel : decode method_10_code 121 = .ok (.aload_n 1, 1)) ?_
      refine lg_Ci [vm_r o1] lOK_draw rfl (show 0 < 1 by decide) (vm_hw_in (i := 776) (by decide +kernel)) (by decide +kernel : decode method_10_code 122 = .ok (.invokestatic 49, 3)) (Nat.le_of_ble_eq_true rfl) (Nat.le_of_ble_eq_true rfl) h (fun z22 S21 h => ?_)
      refine lg_iconst (n := 3) (by decide) (by decide +kernel : decode method_10_code 125 = .ok (.iconst 3, 1)) ?_
      obtain ⟨h1, h⟩ := h
      refine lg_irem h1 (by decide +kernel : decode method_10_code 126 = .ok (.irem, 1)) ?_
      obtain ⟨h1, h⟩ := h
      refine lg_iadd h1 (by decide +kernel : decode method_10_code 127 = .ok (.iadd, 1)) ?_
      refine lg_N 106 [5, (1 + ((z22 % 3)))] (show lCls 106 2 = true by decide +kernel) (Nat.le_of_ble_eq_true rfl) (vm_hw_in (i := 1041) (by decide +kernel)) (by decide +kernel : decode method_10_code 128 = .ok (.invokevirtual 130, 3)) h (fun z24 S23 h => ?_)
      exact lg_ret (Or.inl ⟨_, (by decide +kernel : decode method_10_code 131 = .ok (.ireturn, 1)), Or.inl rfl, rfl, rfl⟩) h
    · replace h := h.2.2.2.2.1 e
      refine lg_aload_n (k := 0) rfl rfl (by decide +kernel : decode method_10_code 132 = .ok (.aload_n 0, 1)) ?_
      refine lg_iconst (n := 3) (by decide) (by decide +kernel : decode method_10_code 133 = .ok (.iconst 3, 1)) ?_
      refine lg_aload_n (k := 1) rfl rfl (by decide +kernel : decode method_10_code 134 = .ok (.aload_n 1, 1)) ?_
      refine lg_Ci [vm_r o1] lOK_draw rfl (show 0 < 1 by decide) (vm_hw_in (i := 776) (by decide +kernel)) (by decide +kernel : decode method_10_code 135 = .ok (.invokestatic 49, 3)) (Nat.le_of_ble_eq_true rfl) (Nat.le_of_ble_eq_true rfl) h (fun z26 S25 h => ?_)
      refine lg_aload_n (k := 0) rfl rfl (by decide +kernel : decode method_10_code 138 = .ok (.aload_n 0, 1)) ?_
      refine lg_bipush (n := 9) (by decide) (by decide) (by decide +kernel : decode method_10_code 139 = .ok (.bipush 9, 2)) ?_
      refine lg_N 115 [9] (show lCls 115 1 = true by decide +kernel) (Nat.le_of_ble_eq_true rfl) (vm_hw_in (i := 604) (by decide +kernel)) (by decide +kernel : decode method_10_code 141 = .ok (.invokevirtual 40, 3)) h (fun z28 S27 h => ?_)
      obtain ⟨h1, h⟩ := h
      refine lg_irem h1 (by decide +kernel : decode method_10_code 144 = .ok (.irem, 1)) ?_
      obtain ⟨h1, h⟩ := h
      refine lg_imul h1 (by decide +kernel : decode method_10_code 145 = .ok (.imul, 1)) ?_
      refine lg_iconst (n := 3) (by decide) (by decide +kernel : decode method_10_code 146 = .ok (.iconst 3, 1)) ?_
      refine lg_aload_n (k := 1) rfl rfl (by decide +kernel : decode method_10_code 147 = .ok (.aload_n 1, 1)) ?_
      refine lg_Ci [vm_r o1] lOK_draw rfl (show 0 < 1 by decide) (vm_hw_in (i := 776) (by decide +kernel)) (by decide +kernel : decode method_10_code 148 = .ok (.invokestatic 49, 3)) (Nat.le_of_ble_eq_true rfl) (Nat.le_of_ble_eq_true rfl) h (fun z30 S29 h => ?_)
      refine lg_aload_n (k := 0) rfl rfl (by decide +kernel : decode method_10_code 151 = .ok (.aload_n 0, 1)) ?_
      refine lg_bipush (n := 9) (by decide) (by decide) (by decide +kernel : decode method_10_code 152 = .ok (.bipush 9, 2)) ?_
      refine lg_N 115 [9] (show lCls 115 1 = true by decide +kernel) (Nat.le_of_ble_eq_true rfl) (vm_hw_in (i := 604) (by decide +kernel)) (by decide +kernel : decode method_10_code 154 = .ok (.invokevirtual 40, 3)) h (fun z32 S31 h => ?_)
      obtain ⟨h1, h⟩ := h
      refine lg_irem h1 (by decide +kernel : decode method_10_code 157 = .ok (.irem, 1)) ?_
      obtain ⟨h1, h⟩ := h
      refine lg_imul h1 (by decide +kernel : decode method_10_code 158 = .ok (.imul, 1)) ?_
      refine lg_aload_n (k := 1) rfl rfl (by decide +kernel : decode method_10_code 159 = .ok (.aload_n 1, 1)) ?_
      refine lg_Ci [vm_r o1] lOK_draw rfl (show 0 < 1 by decide) (vm_hw_in (i := 776) (by decide +kernel)) (by decide +kernel : decode method_10_code 160 = .ok (.invokestatic 49, 3)) (Nat.le_of_ble_eq_true rfl) (Nat.le_of_ble_eq_true rfl) h (fun z34 S33 h => ?_)
      refine lg_bipush (n := 19) (by decide) (by decide) (by decide +kernel : decode method_10_code 163 = .ok (.bipush 19, 2)) ?_
      obtain ⟨h1, h⟩ := h
      refine lg_irem h1 (by decide +kernel : decode method_10_code 165 = .ok (.irem, 1)) ?_
      refine lg_bipush (n := 9) (by decide) (by decide) (by decide +kernel : decode method_10_code 166 = .ok (.bipush 9, 2)) ?_
      obtain ⟨h1, h⟩ := h
      refine lg_isub h1 (by decide +kernel : decode method_10_code 168 = .ok (.isub, 1)) ?_
      refine lg_N 107 [(3 * ((z26 % z28))), (3 * ((z30 % z32))), (((z34 % 19)) - 9)] (show lCls 107 3 = true by decide +kernel) (Nat.le_of_ble_eq_true rfl) (vm_hw_in (i := 1047) (by decide +kernel)) (by decide +kernel : decode method_10_code 169 = .ok (.invokevirtual 133, 3)) h (fun z36 S35 h => ?_)
      exact lg_ret (Or.inl ⟨_, (by decide +kernel : decode method_10_code 172 = .ok (.ireturn, 1)), Or.inl rfl, rfl, rfl⟩) h
    · replace h := h.2.2.2.2.2.1 e
      refine lg_aload_n (k := 0) rfl rfl (by decide +kernel : decode method_10_code 173 = .ok (.aload_n 0, 1)) ?_
      refine lg_aload_n (k := 1) rfl rfl (by decide +kernel : decode method_10_code 174 = .ok (.aload_n 1, 1)) ?_
      refine lg_Ci [vm_r o1] lOK_draw rfl (show 0 < 1 by decide) (vm_hw_in (i := 776) (by decide +kernel)) (by decide +kernel : decode method_10_code 175 = .ok (.invokestatic 49, 3)) (Nat.le_of_ble_eq_true rfl) (Nat.le_of_ble_eq_true rfl) h (fun z38 S37 h => ?_)
      refine lg_iconst (n := 2) (by decide) (by decide +kernel : decode method_10_code 178 = .ok (.iconst 2, 1)) ?_
      obtain ⟨h1, h⟩ := h
      refine lg_irem h1 (by decide +kernel : decode method_10_code 179 = .ok (.irem, 1)) ?_
      refine lg_N 108 [(z38 % 2)] (show lCls 108 1 = true by decide +kernel) (Nat.le_of_ble_eq_true rfl) (vm_hw_in (i := 1053) (by decide +kernel)) (by decide +kernel : decode method_10_code 180 = .ok (.invokevirtual 137, 3)) h (fun z40 S39 h => ?_)
      exact lg_ret (Or.inl ⟨_, (by decide +kernel : decode method_10_code 183 = .ok (.ireturn, 1)), Or.inl rfl, rfl, rfl⟩) h
    · replace h := h.2.2.2.2.2.2.1 e
      refine lg_aload_n (k := 0) rfl rfl (by decide +kernel : decode method_10_code 184 = .ok (.aload_n 0, 1)) ?_
      refine lg_aload_n (k := 1) rfl rfl (by decide +kernel : decode method_10_code 185 = .ok (.aload_n 1, 1)) ?_
      refine lg_Ci [vm_r o1] lOK_draw rfl (show 0 < 1 by decide) (vm_hw_in (i := 776) (by decide +kernel)) (by decide +kernel : decode method_10_code 186 = .ok (.invokestatic 49, 3)) (Nat.le_of_ble_eq_true rfl) (Nat.le_of_ble_eq_true rfl) h (fun z42 S41 h => ?_)
      refine lg_iconst (n := 2) (by decide) (by decide +kernel : decode method_10_code 189 = .ok (.iconst 2, 1)) ?_
      obtain ⟨h1, h⟩ := h
      refine lg_irem h1 (by decide +kernel : decode method_10_code 190 = .ok (.irem, 1)) ?_
      refine lg_if_ne (t := 198) (by decide +kernel : decode method_10_code 191 = .ok (.ifCond .ne 7, 3)) (by decide) ⟨fun c => ?_, fun c => ?_⟩
      · replace h := h.1 c
        refine lg_iconst (n := 0) (by decide) (by decide +kernel : decode method_10_code 198 = .ok (.iconst 0, 1)) ?_
        exact lg_sub (ls := [none, none, none]) (by trivial) h
      · replace h := h.2 c
        refine lg_iconst (n := 1) (by decide) (by decide +kernel : decode method_10_code 194 = .ok (.iconst 1, 1)) ?_
        refine lg_goto (t := 199) (by decide +kernel : decode method_10_code 195 = .ok (.goto 4, 3)) (by decide) ?_
        exact lg_sub (ls := [none, none, none]) (by trivial) h
  · replace h := h.2.2.2.2.2.2.2 ⟨hq (0, 60) (by decide), hq (1, 77) (by decide), hq (2, 96) (by decide), hq (3, 118) (by decide), hq (4, 132) (by decide), hq (5, 173) (by decide), hq (6, 184) (by decide)⟩
    refine lg_aload_n (k := 0) rfl rfl (by decide +kernel : decode method_10_code 203 = .ok (.aload_n 0, 1)) ?_
    refine lg_aload_n (k := 1) rfl rfl (by decide +kernel : decode method_10_code 204 = .ok (.aload_n 1, 1)) ?_
    refine lg_Ci [vm_r o1] lOK_draw rfl (show 0 < 1 by decide) (vm_hw_in (i := 776) (by decide +kernel)) (by decide +kernel : decode method_10_code 205 = .ok (.invokestatic 49, 3)) (Nat.le_of_ble_eq_true rfl) (Nat.le_of_ble_eq_true rfl) h (fun z44 S43 h => ?_)
    refine lg_iload_n (k := 2) rfl rfl (by decide +kernel : decode method_10_code 208 = .ok (.iload_n 2, 1)) ?_
    obtain ⟨h1, h⟩ := h
    refine lg_irem h1 (by decide +kernel : decode method_10_code 209 = .ok (.irem, 1)) ?_
    refine lg_aload_n (k := 1) rfl rfl (by decide +kernel : decode method_10_code 210 = .ok (.aload_n 1, 1)) ?_
    refine lg_Ci [vm_r o1] lOK_draw rfl (show 0 < 1 by decide) (vm_hw_in (i := 776) (by decide +kernel)) (by decide +kernel : decode method_10_code 211 = .ok (.invokestatic 49, 3)) (Nat.le_of_ble_eq_true rfl) (Nat.le_of_ble_eq_true rfl) h (fun z46 S45 h => ?_)
    refine lg_iload_n (k := 2) rfl rfl (by decide +kernel : decode method_10_code 214 = .ok (.iload_n 2, 1)) ?_
    obtain ⟨h1, h⟩ := h
    refine lg_irem h1 (by decide +kernel : decode method_10_code 215 = .ok (.irem, 1)) ?_
    refine lg_N 110 [(z44 % ((if 1 < z2 then z2 else 1))), (z46 % ((if 1 < z2 then z2 else 1)))] (show lCls 110 2 = true by decide +kernel) (Nat.le_of_ble_eq_true rfl) (vm_hw_in (i := 1061) (by decide +kernel)) (by decide +kernel : decode method_10_code 216 = .ok (.invokevirtual 144, 3)) h (fun z48 S47 h => ?_)
    exact lg_ret (Or.inl ⟨_, (by decide +kernel : decode method_10_code 219 = .ok (.ireturn, 1)), Or.inl rfl, rfl, rfl⟩) h
set_option maxHeartbeats 4000000 in
theorem rL_acts_199 {S : lwS} {Qp : Option vm_V → lwS → Prop} {x0 : Int} {x1 : Nat} (h : lNn 109 x1 [x0] S (fun z2 S1 => Qp (some (vm_i z2)) S1)) : lG lK_acts 199 [none, none, none] [vm_i x0, vm_r x1] S Qp := by
  refine lg_N 109 [x0] (show lCls 109 1 = true by decide +kernel) (Nat.le_of_ble_eq_true rfl) (vm_hw_in (i := 1057) (by decide +kernel)) (by decide +kernel : decode method_10_code 199 = .ok (.invokevirtual 140, 3)) h (fun z2 S1 h => ?_)
  exact lg_ret (Or.inl ⟨_, (by decide +kernel : decode method_10_code 202 = .ok (.ireturn, 1)), Or.inl rfl, rfl, rfl⟩) h
set_option maxHeartbeats 4000000 in
theorem rL_pairs_0 {S : lwS} {Qp : Option vm_V → lwS → Prop} {o0 : Nat} {o1 : Nat} (h : lCi lK_draw [vm_r o1] S (fun z2 S1 => lNn 115 o0 [9] S1 (fun z4 S3 => ((0 : Int) ≤ z2 ∧ (0 : Int) < z4) ∧ ((vm_32 (3 * ((z2 % z4)))) ∧ (lCi lK_draw [vm_r o1] S3 (fun z6 S5 => lNn 115 o0 [9] S5 (fun z8 S7 => ((0 : Int) ≤ z6 ∧ (0 : Int) < z8) ∧ ((vm_32 (3 * ((z6 % z8)))) ∧ (lNn 120 o0 [(3 * ((z2 % z4))), (3 * ((z6 % z8)))] S7 (fun z10 S9 => (vm_32 (z10 - 9)) ∧ (lG lK_pairs 49 [some (vm_r o0), none, some (vm_i ((3 * ((z2 % z4))))), some (vm_i ((3 * ((z6 % z8))))), some (vm_i ((z10 - 9))), some (vm_i 1), some (vm_i 0), some (vm_i ((-9))), none, none, none, none, none, none, none, none, none] [] S9 Qp))))))))))) : lG lK_pairs 0 [some (vm_r o0), some (vm_r o1), none, none, none, none, none, none, none, none, none, none, none, none, none, none, none] [] S Qp := by
  refine lg_iconst (n := 3) (by decide) (by decide +kernel : decode method_11_code 0 = .ok (.iconst 3, 1)) ?_
  refine lg_aload_n (k := 1) rfl rfl (by decide +kernel : decode method_11_code 1 = .ok (.aload_n 1, 1)) ?_
  refine lg_Ci [vm_r o1] lOK_draw rfl (show 0 < 1 by decide) (vm_hw_in (i := 776) (by decide +kernel)) (by decide +kernel : decode method_11_code 2 = .ok (.invokestatic 49, 3)) (Nat.le_of_ble_eq_true rfl) (Nat.le_of_ble_eq_true rfl) h (fun z2 S1 h => ?_)
  refine lg_aload_n (k := 0) rfl rfl (by decide +kernel : decode method_11_code 5 = .ok (.aload_n 0, 1)) ?_
  refine lg_bipush (n := 9) (by decide) (by decide) (by decide +kernel : decode method_11_code 6 = .ok (.bipush 9, 2)) ?_
  refine lg_N 115 [9] (show lCls 115 1 = true by decide +kernel) (Nat.le_of_ble_eq_true rfl) (vm_hw_in (i := 604) (by decide +kernel)) (by decide +kernel : decode method_11_code 8 = .ok (.invokevirtual 40, 3)) h (fun z4 S3 h => ?_)
  obtain ⟨h1, h⟩ := h
  refine lg_irem h1 (by decide +kernel : decode method_11_code 11 = .ok (.irem, 1)) ?_
  obtain ⟨h1, h⟩ := h
  refine lg_imul h1 (by decide +kernel : decode method_11_code 12 = .ok (.imul, 1)) ?_
  refine lg_istore_n (k := 2) (l1 := [some (vm_r o0), some (vm_r o1), some (vm_i ((3 * ((z2 % z4))))), none, none, none, none, none, none, none, none, none, none, none, none, none, none]) rfl rfl rfl (by decide +kernel : decode method_11_code 13 = .ok (.istore_n 2, 1)) ?_
  refine lg_iconst (n := 3) (by decide) (by decide +kernel : decode method_11_code 14 = .ok (.iconst 3, 1)) ?_
  refine lg_aload_n (k := 1) rfl rfl (by decide +kernel : decode method_11_code 15 = .ok (.aload_n 1, 1)) ?_
  refine lg_Ci [vm_r o1] lOK_draw rfl (show 0 < 1 by decide) (vm_hw_in (i := 776) (by decide +kernel)) (by decide +kernel : decode method_11_code 16 = .ok (.invokestatic 49, 3)) (Nat.le_of_ble_eq_true rfl) (Nat.le_of_ble_eq_true rfl) h (fun z6 S5 h => ?_)
  refine lg_aload_n (k := 0) rfl rfl (by decide +kernel : decode method_11_code 19 = .ok (.aload_n 0, 1)) ?_
  refine lg_bipush (n := 9) (by decide) (by decide) (by decide +kernel : decode method_11_code 20 = .ok (.bipush 9, 2)) ?_
  refine lg_N 115 [9] (show lCls 115 1 = true by decide +kernel) (Nat.le_of_ble_eq_true rfl) (vm_hw_in (i := 604) (by decide +kernel)) (by decide +kernel : decode method_11_code 22 = .ok (.invokevirtual 40, 3)) h (fun z8 S7 h => ?_)
  obtain ⟨h1, h⟩ := h
  refine lg_irem h1 (by decide +kernel : decode method_11_code 25 = .ok (.irem, 1)) ?_
  obtain ⟨h1, h⟩ := h
  refine lg_imul h1 (by decide +kernel : decode method_11_code 26 = .ok (.imul, 1)) ?_
  refine lg_istore_n (k := 3) (l1 := [some (vm_r o0), some (vm_r o1), some (vm_i ((3 * ((z2 % z4))))), some (vm_i ((3 * ((z6 % z8))))), none, none, none, none, none, none, none, none, none, none, none, none, none]) rfl rfl rfl (by decide +kernel : decode method_11_code 27 = .ok (.istore_n 3, 1)) ?_
  refine lg_aload_n (k := 0) rfl rfl (by decide +kernel : decode method_11_code 28 = .ok (.aload_n 0, 1)) ?_
  refine lg_iload_n (k := 2) rfl rfl (by decide +kernel : decode method_11_code 29 = .ok (.iload_n 2, 1)) ?_
  refine lg_iload_n (k := 3) rfl rfl (by decide +kernel : decode method_11_code 30 = .ok (.iload_n 3, 1)) ?_
  refine lg_N 120 [(3 * ((z2 % z4))), (3 * ((z6 % z8)))] (show lCls 120 2 = true by decide +kernel) (Nat.le_of_ble_eq_true rfl) (vm_hw_in (i := 1076) (by decide +kernel)) (by decide +kernel : decode method_11_code 31 = .ok (.invokevirtual 147, 3)) h (fun z10 S9 h => ?_)
  refine lg_bipush (n := 9) (by decide) (by decide) (by decide +kernel : decode method_11_code 34 = .ok (.bipush 9, 2)) ?_
  obtain ⟨h1, h⟩ := h
  refine lg_isub h1 (by decide +kernel : decode method_11_code 36 = .ok (.isub, 1)) ?_
  refine lg_istore (k := 4) (l1 := [some (vm_r o0), some (vm_r o1), some (vm_i ((3 * ((z2 % z4))))), some (vm_i ((3 * ((z6 % z8))))), some (vm_i ((z10 - 9))), none, none, none, none, none, none, none, none, none, none, none, none]) rfl rfl (by decide +kernel : decode method_11_code 37 = .ok (.istore 4, 2)) ?_
  refine lg_iconst (n := 1) (by decide) (by decide +kernel : decode method_11_code 39 = .ok (.iconst 1, 1)) ?_
  refine lg_istore (k := 5) (l1 := [some (vm_r o0), some (vm_r o1), some (vm_i ((3 * ((z2 % z4))))), some (vm_i ((3 * ((z6 % z8))))), some (vm_i ((z10 - 9))), some (vm_i 1), none, none, none, none, none, none, none, none, none, none, none]) rfl rfl (by decide +kernel : decode method_11_code 40 = .ok (.istore 5, 2)) ?_
  refine lg_iconst (n := 0) (by decide) (by decide +kernel : decode method_11_code 42 = .ok (.iconst 0, 1)) ?_
  refine lg_istore (k := 6) (l1 := [some (vm_r o0), some (vm_r o1), some (vm_i ((3 * ((z2 % z4))))), some (vm_i ((3 * ((z6 % z8))))), some (vm_i ((z10 - 9))), some (vm_i 1), some (vm_i 0), none, none, none, none, none, none, none, none, none, none]) rfl rfl (by decide +kernel : decode method_11_code 43 = .ok (.istore 6, 2)) ?_
  refine lg_bipush (n := (-9)) (by decide) (by decide) (by decide +kernel : decode method_11_code 45 = .ok (.bipush (-9), 2)) ?_
  refine lg_istore (k := 7) (l1 := [some (vm_r o0), some (vm_r o1), some (vm_i ((3 * ((z2 % z4))))), some (vm_i ((3 * ((z6 % z8))))), some (vm_i ((z10 - 9))), some (vm_i 1), some (vm_i 0), some (vm_i ((-9))), none, none, none, none, none, none, none, none, none]) rfl rfl (by decide +kernel : decode method_11_code 47 = .ok (.istore 7, 2)) ?_
  exact lg_sub (ls := [some (vm_r o0), none, some (vm_i ((3 * ((z2 % z4))))), some (vm_i ((3 * ((z6 % z8))))), some (vm_i ((z10 - 9))), some (vm_i 1), some (vm_i 0), some (vm_i ((-9))), none, none, none, none, none, none, none, none, none]) ⟨rfl, ⟨rfl, ⟨rfl, ⟨rfl, ⟨rfl, ⟨rfl, ⟨rfl, trivial⟩⟩⟩⟩⟩⟩⟩ h
set_option maxHeartbeats 4000000 in
theorem rL_pairs_49 {S : lwS} {Qp : Option vm_V → lwS → Prop} {o0 : Nat} {v2 : Int} {v3 : Int} {v4 : Int} {v5 : Int} {v6 : Int} {v7 : Int} (h : (40 ≤ v7 → (lG lK_pairs 106 [some (vm_r o0), none, some (vm_i v2), some (vm_i v3), some (vm_i v4), some (vm_i v5), none, none, none, none, none, none, none, none, none, none, none] [] S Qp)) ∧ (¬ (40 ≤ v7) → ((v5 = 0 → (lG lK_pairs 106 [some (vm_r o0), none, some (vm_i v2), some (vm_i v3), some (vm_i v4), some (vm_i v5), none, none, none, none, none, none, none, none, none, none, none] [] S Qp)) ∧ (¬ (v5 = 0) → (lNn 118 o0 [v2, v3, v7] S (fun z2 S1 => (z2 < v6 → (lG lK_pairs 94 [some (vm_r o0), none, some (vm_i v2), some (vm_i v3), some (vm_i v4), none, none, some (vm_i v7), some (vm_i z2), none, none, none, none, none, none, none, none] [vm_i 0] S1 Qp)) ∧ (¬ (z2 < v6) → (lNn 115 o0 [6] S1 (fun z4 S3 => (z4 < z2 → (lG lK_pairs 94 [some (vm_r o0), none, some (vm_i v2), some (vm_i v3), some (vm_i v4), none, none, some (vm_i v7), some (vm_i z2), none, none, none, none, none, none, none, none] [vm_i 0] S3 Qp)) ∧ (¬ (z4 < z2) → (lG lK_pairs 94 [some (vm_r o0), none, some (vm_i v2), some (vm_i v3), some (vm_i v4), none, none, some (vm_i v7), some (vm_i z2), none, none, none, none, none, none, none, none] [vm_i 1] S3 Qp))))))))))) : lG lK_pairs 49 [some (vm_r o0), none, some (vm_i v2), some (vm_i v3), some (vm_i v4), some (vm_i v5), some (vm_i v6), some (vm_i v7), none, none, none, none, none, none, none, none, none] [] S Qp := by
  refine lg_iload (k := 7) rfl (by decide +kernel : decode method_11_code 49 = .ok (.iload 7, 2)) ?_
  refine lg_bipush (n := 40) (by decide) (by decide) (by decide +kernel : decode method_11_code 51 = .ok (.bipush 40, 2)) ?_
  refine lg_icmp_ge (t := 106) (by decide +kernel : decode method_11_code 53 = .ok (.if_icmp .ge 53, 3)) (by decide) ⟨fun c => ?_, fun c => ?_⟩
  · replace h := h.1 c
    exact lg_sub (ls := [some (vm_r o0), none, some (vm_i v2), some (vm_i v3), some (vm_i v4), some (vm_i v5), none, none, none, none, none, none, none, none, none, none, none]) ⟨rfl, ⟨rfl, ⟨rfl, ⟨rfl, ⟨rfl, trivial⟩⟩⟩⟩⟩ h
  · replace h := h.2 c
    refine lg_iload (k := 5) rfl (by decide +kernel : decode method_11_code 56 = .ok (.iload 5, 2)) ?_
    refine lg_if_eq (t := 106) (by decide +kernel : decode method_11_code 58 = .ok (.ifCond .eq 48, 3)) (by decide) ⟨fun c => ?_, fun c => ?_⟩
    · replace h := h.1 c
      exact lg_sub (ls := [some (vm_r o0), none, some (vm_i v2), some (vm_i v3), some (vm_i v4), some (vm_i v5), none, none, none, none, none, none, none, none, none, none, none]) ⟨rfl, ⟨rfl, ⟨rfl, ⟨rfl, ⟨rfl, trivial⟩⟩⟩⟩⟩ h
    · replace h := h.2 c
      refine lg_aload_n (k := 0) rfl rfl (by decide +kernel : decode method_11_code 61 = .ok (.aload_n 0, 1)) ?_
      refine lg_iload_n (k := 2) rfl rfl (by decide +kernel : decode method_11_code 62 = .ok (.iload_n 2, 1)) ?_
      refine lg_iload_n (k := 3) rfl rfl (by decide +kernel : decode method_11_code 63 = .ok (.iload_n 3, 1)) ?_
      refine lg_iload (k := 7) rfl (by decide +kernel : decode method_11_code 64 = .ok (.iload 7, 2)) ?_
      refine lg_N 118 [v2, v3, v7] (show lCls 118 3 = true by decide +kernel) (Nat.le_of_ble_eq_true rfl) (vm_hw_in (i := 1080) (by decide +kernel)) (by decide +kernel : decode method_11_code 66 = .ok (.invokevirtual 150, 3)) h (fun z2 S1 h => ?_)
      refine lg_istore (k := 8) (l1 := [some (vm_r o0), none, some (vm_i v2), some (vm_i v3), some (vm_i v4), some (vm_i v5), some (vm_i v6), some (vm_i v7), some (vm_i z2), none, none, none, none, none, none, none, none]) rfl rfl (by decide +kernel : decode method_11_code 69 = .ok (.istore 8, 2)) ?_
      refine lg_iload (k := 8) rfl (by decide +kernel : decode method_11_code 71 = .ok (.iload 8, 2)) ?_
      refine lg_iload (k := 6) rfl (by decide +kernel : decode method_11_code 73 = .ok (.iload 6, 2)) ?_
      refine lg_icmp_lt (t := 93) (by decide +kernel : decode method_11_code 75 = .ok (.if_icmp .lt 18, 3)) (by decide) ⟨fun c => ?_, fun c => ?_⟩
      · replace h := h.1 c
        refine lg_iconst (n := 0) (by decide) (by decide +kernel : decode method_11_code 93 = .ok (.iconst 0, 1)) ?_
        exact lg_sub (ls := [some (vm_r o0), none, some (vm_i v2), some (vm_i v3), some (vm_i v4), none, none, some (vm_i v7), some (vm_i z2), none, none, none, none, none, none, none, none]) ⟨rfl, ⟨rfl, ⟨rfl, ⟨rfl, ⟨rfl, ⟨rfl, trivial⟩⟩⟩⟩⟩⟩ h
      · replace h := h.2 c
        refine lg_iload (k := 8) rfl (by decide +kernel : decode method_11_code 78 = .ok (.iload 8, 2)) ?_
        refine lg_aload_n (k := 0) rfl rfl (by decide +kernel : decode method_11_code 80 = .ok (.aload_n 0, 1)) ?_
        refine lg_bipush (n := 6) (by decide) (by decide) (by decide +kernel : decode method_11_code 81 = .ok (.bipush 6, 2)) ?_
        refine lg_N 115 [6] (show lCls 115 1 = true by decide +kernel) (Nat.le_of_ble_eq_true rfl) (vm_hw_in (i := 604) (by decide +kernel)) (by decide +kernel : decode method_11_code 83 = .ok (.invokevirtual 40, 3)) h (fun z4 S3 h => ?_)
        refine lg_icmp_gt (t := 93) (by decide +kernel : decode method_11_code 86 = .ok (.if_icmp .gt 7, 3)) (by decide) ⟨fun c => ?_, fun c => ?_⟩
        · replace h := h.1 c
          refine lg_iconst (n := 0) (by decide) (by decide +kernel : decode method_11_code 93 = .ok (.iconst 0, 1)) ?_
          exact lg_sub (ls := [some (vm_r o0), none, some (vm_i v2), some (vm_i v3), some (vm_i v4), none, none, some (vm_i v7), some (vm_i z2), none, none, none, none, none, none, none, none]) ⟨rfl, ⟨rfl, ⟨rfl, ⟨rfl, ⟨rfl, ⟨rfl, trivial⟩⟩⟩⟩⟩⟩ h
        · replace h := h.2 c
          refine lg_iconst (n := 1) (by decide) (by decide +kernel : decode method_11_code 89 = .ok (.iconst 1, 1)) ?_
          refine lg_goto (t := 94) (by decide +kernel : decode method_11_code 90 = .ok (.goto 4, 3)) (by decide) ?_
          exact lg_sub (ls := [some (vm_r o0), none, some (vm_i v2), some (vm_i v3), some (vm_i v4), none, none, some (vm_i v7), some (vm_i z2), none, none, none, none, none, none, none, none]) ⟨rfl, ⟨rfl, ⟨rfl, ⟨rfl, ⟨rfl, ⟨rfl, trivial⟩⟩⟩⟩⟩⟩ h
set_option maxHeartbeats 4000000 in
theorem rL_pairs_106 {S : lwS} {Qp : Option vm_V → lwS → Prop} {o0 : Nat} {v2 : Int} {v3 : Int} {v4 : Int} {v5 : Int} (h : lG lK_pairs 112 [some (vm_r o0), none, some (vm_i v2), some (vm_i v3), some (vm_i v4), some (vm_i v5), some (vm_i 0), some (vm_i 0), none, none, none, none, none, none, none, none, none] [] S Qp) : lG lK_pairs 106 [some (vm_r o0), none, some (vm_i v2), some (vm_i v3), some (vm_i v4), some (vm_i v5), none, none, none, none, none, none, none, none, none, none, none] [] S Qp := by
  refine lg_iconst (n := 0) (by decide) (by decide +kernel : decode method_11_code 106 = .ok (.iconst 0, 1)) ?_
  refine lg_istore (k := 6) (l1 := [some (vm_r o0), none, some (vm_i v2), some (vm_i v3), some (vm_i v4), some (vm_i v5), some (vm_i 0), none, none, none, none, none, none, none, none, none, none]) rfl rfl (by decide +kernel : decode method_11_code 107 = .ok (.istore 6, 2)) ?_
  refine lg_iconst (n := 0) (by decide) (by decide +kernel : decode method_11_code 109 = .ok (.iconst 0, 1)) ?_
  refine lg_istore (k := 7) (l1 := [some (vm_r o0), none, some (vm_i v2), some (vm_i v3), some (vm_i v4), some (vm_i v5), some (vm_i 0), some (vm_i 0), none, none, none, none, none, none, none, none, none]) rfl rfl (by decide +kernel : decode method_11_code 110 = .ok (.istore 7, 2)) ?_
  exact h
set_option maxHeartbeats 4000000 in
theorem rL_pairs_94 {S : lwS} {Qp : Option vm_V → lwS → Prop} {o0 : Nat} {v2 : Int} {v3 : Int} {v4 : Int} {v7 : Int} {v8 : Int} {x0 : Int} (h : (vm_32 (v7 + 1)) ∧ (lG lK_pairs 49 [some (vm_r o0), none, some (vm_i v2), some (vm_i v3), some (vm_i v4), some (vm_i x0), some (vm_i v8), some (vm_i ((v7 + 1))), none, none, none, none, none, none, none, none, none] [] S Qp)) : lG lK_pairs 94 [some (vm_r o0), none, some (vm_i v2), some (vm_i v3), some (vm_i v4), none, none, some (vm_i v7), some (vm_i v8), none, none, none, none, none, none, none, none] [vm_i x0] S Qp := by
  refine lg_istore (k := 5) (l1 := [some (vm_r o0), none, some (vm_i v2), some (vm_i v3), some (vm_i v4), some (vm_i x0), none, some (vm_i v7), some (vm_i v8), none, none, none, none, none, none, none, none]) rfl rfl (by decide +kernel : decode method_11_code 94 = .ok (.istore 5, 2)) ?_
  refine lg_iload (k := 8) rfl (by decide +kernel : decode method_11_code 96 = .ok (.iload 8, 2)) ?_
  refine lg_istore (k := 6) (l1 := [some (vm_r o0), none, some (vm_i v2), some (vm_i v3), some (vm_i v4), some (vm_i x0), some (vm_i v8), some (vm_i v7), some (vm_i v8), none, none, none, none, none, none, none, none]) rfl rfl (by decide +kernel : decode method_11_code 98 = .ok (.istore 6, 2)) ?_
  obtain ⟨h1, h⟩ := h
  refine lg_iinc (k := 7) (l1 := [some (vm_r o0), none, some (vm_i v2), some (vm_i v3), some (vm_i v4), some (vm_i x0), some (vm_i v8), some (vm_i ((v7 + 1))), some (vm_i v8), none, none, none, none, none, none, none, none]) rfl rfl rfl h1 (by decide +kernel : decode method_11_code 100 = .ok (.iinc 7 1, 3)) ?_
  refine lg_goto (t := 49) (by decide +kernel : decode method_11_code 103 = .ok (.goto (-54), 3)) (by decide) ?_
  exact lg_sub (ls := [some (vm_r o0), none, some (vm_i v2), some (vm_i v3), some (vm_i v4), some (vm_i x0), some (vm_i v8), some (vm_i ((v7 + 1))), none, none, none, none, none, none, none, none, none]) ⟨rfl, ⟨rfl, ⟨rfl, ⟨rfl, ⟨rfl, ⟨rfl, ⟨rfl, trivial⟩⟩⟩⟩⟩⟩⟩ h
set_option maxHeartbeats 4000000 in
theorem rL_pairs_112 {S : lwS} {Qp : Option vm_V → lwS → Prop} {o0 : Nat} {v2 : Int} {v3 : Int} {v4 : Int} {v5 : Int} {v6 : Int} {v7 : Int} (h : lNn 115 o0 [6] S (fun z2 S1 => (z2 < v7 → (lG lK_pairs 211 [some (vm_r o0), none, some (vm_i v2), some (vm_i v3), some (vm_i v4), some (vm_i v5), none, none, none, none, none, none, none, none, none, none, none] [] S1 Qp)) ∧ (¬ (z2 < v7) → ((v5 = 0 → (lG lK_pairs 211 [some (vm_r o0), none, some (vm_i v2), some (vm_i v3), some (vm_i v4), some (vm_i v5), none, none, none, none, none, none, none, none, none, none, none] [] S1 Qp)) ∧ (¬ (v5 = 0) → (lG lK_pairs 132 [some (vm_r o0), none, some (vm_i v2), some (vm_i v3), some (vm_i v4), none, some (vm_i v6), some (vm_i v7), some (vm_i ((-9))), none, none, none, none, none, none, none, none] [] S1 Qp)))))) : lG lK_pairs 112 [some (vm_r o0), none, some (vm_i v2), some (vm_i v3), some (vm_i v4), some (vm_i v5), some (vm_i v6), some (vm_i v7), none, none, none, none, none, none, none, none, none] [] S Qp := by
  refine lg_iload (k := 7) rfl (by decide +kernel : decode method_11_code 112 = .ok (.iload 7, 2)) ?_
  refine lg_aload_n (k := 0) rfl rfl (by decide +kernel : decode method_11_code 114 = .ok (.aload_n 0, 1)) ?_
  refine lg_bipush (n := 6) (by decide) (by decide) (by decide +kernel : decode method_11_code 115 = .ok (.bipush 6, 2)) ?_
  refine lg_N 115 [6] (show lCls 115 1 = true by decide +kernel) (Nat.le_of_ble_eq_true rfl) (vm_hw_in (i := 604) (by decide +kernel)) (by decide +kernel : decode method_11_code 117 = .ok (.invokevirtual 40, 3)) h (fun z2 S1 h => ?_)
  refine lg_icmp_gt (t := 211) (by decide +kernel : decode method_11_code 120 = .ok (.if_icmp .gt 91, 3)) (by decide) ⟨fun c => ?_, fun c => ?_⟩
  · replace h := h.1 c
    exact lg_sub (ls := [some (vm_r o0), none, some (vm_i v2), some (vm_i v3), some (vm_i v4), some (vm_i v5), none, none, none, none, none, none, none, none, none, none, none]) ⟨rfl, ⟨rfl, ⟨rfl, ⟨rfl, ⟨rfl, trivial⟩⟩⟩⟩⟩ h
  · replace h := h.2 c
    refine lg_iload (k := 5) rfl (by decide +kernel : decode method_11_code 123 = .ok (.iload 5, 2)) ?_
    refine lg_if_eq (t := 211) (by decide +kernel : decode method_11_code 125 = .ok (.ifCond .eq 86, 3)) (by decide) ⟨fun c => ?_, fun c => ?_⟩
    · replace h := h.1 c
      exact lg_sub (ls := [some (vm_r o0), none, some (vm_i v2), some (vm_i v3), some (vm_i v4), some (vm_i v5), none, none, none, none, none, none, none, none, none, none, none]) ⟨rfl, ⟨rfl, ⟨rfl, ⟨rfl, ⟨rfl, trivial⟩⟩⟩⟩⟩ h
    · replace h := h.2 c
      refine lg_bipush (n := (-9)) (by decide) (by decide) (by decide +kernel : decode method_11_code 128 = .ok (.bipush (-9), 2)) ?_
      refine lg_istore (k := 8) (l1 := [some (vm_r o0), none, some (vm_i v2), some (vm_i v3), some (vm_i v4), some (vm_i v5), some (vm_i v6), some (vm_i v7), some (vm_i ((-9))), none, none, none, none, none, none, none, none]) rfl rfl (by decide +kernel : decode method_11_code 130 = .ok (.istore 8, 2)) ?_
      exact lg_sub (ls := [some (vm_r o0), none, some (vm_i v2), some (vm_i v3), some (vm_i v4), none, some (vm_i v6), some (vm_i v7), some (vm_i ((-9))), none, none, none, none, none, none, none, none]) ⟨rfl, ⟨rfl, ⟨rfl, ⟨rfl, ⟨rfl, ⟨rfl, ⟨rfl, trivial⟩⟩⟩⟩⟩⟩⟩ h
set_option maxHeartbeats 4000000 in
theorem rL_pairs_211 {S : lwS} {Qp : Option vm_V → lwS → Prop} {o0 : Nat} {v2 : Int} {v3 : Int} {v4 : Int} {v5 : Int} (h : lNn 121 o0 [0] S (fun z2 S1 => lNn 121 o0 [1] S1 (fun z4 S3 => lNn 115 o0 [3] S3 (fun z6 S5 => lNn 119 o0 [v2, v3, z6] S5 (fun z8 S7 => lNn 147 o0 [v2, v3] S7 (fun z10 S9 => (v5 = 0 → (lG lK_pairs 304 [some (vm_r o0), none, some (vm_i v2), some (vm_i v3), some (vm_i v4), none, none, none, none, none, some (vm_i z10), none, none, none, none, none, none] [vm_i 0] S9 Qp)) ∧ (¬ (v5 = 0) → (((0 : Int) ≤ z2 ∧ (0 : Int) < 26) ∧ (((0 : Int) ≤ z2 ∧ (0 : Int) < 26) ∧ (lNn 115 o0 [3] S9 (fun z12 S11 => lNn 119 o0 [(z2 / 26), (z2 % 26), z12] S11 (fun z14 S13 => (z8 < z14 → (lG lK_pairs 304 [some (vm_r o0), none, some (vm_i v2), some (vm_i v3), some (vm_i v4), none, none, none, none, none, some (vm_i z10), none, none, none, none, none, none] [vm_i 0] S13 Qp)) ∧ (¬ (z8 < z14) → (((0 : Int) ≤ z4 ∧ (0 : Int) < 26) ∧ (((0 : Int) ≤ z4 ∧ (0 : Int) < 26) ∧ (lNn 115 o0 [3] S13 (fun z16 S15 => lNn 119 o0 [(z4 / 26), (z4 % 26), z16] S15 (fun z18 S17 => (z18 < z8 → (lG lK_pairs 304 [some (vm_r o0), none, some (vm_i v2), some (vm_i v3), some (vm_i v4), none, none, none, none, none, some (vm_i z10), none, none, none, none, none, none] [vm_i 0] S17 Qp)) ∧ (¬ (z18 < z8) → (lG lK_pairs 304 [some (vm_r o0), none, some (vm_i v2), some (vm_i v3), some (vm_i v4), none, none, none, none, none, some (vm_i z10), none, none, none, none, none, none] [vm_i 1] S17 Qp)))))))))))))))))))) : lG lK_pairs 211 [some (vm_r o0), none, some (vm_i v2), some (vm_i v3), some (vm_i v4), some (vm_i v5), none, none, none, none, none, none, none, none, none, none, none] [] S Qp := by
  refine lg_aload_n (k := 0) rfl rfl (by decide +kernel : decode method_11_code 211 = .ok (.aload_n 0, 1)) ?_
  refine lg_iconst (n := 0) (by decide) (by decide +kernel : decode method_11_code 212 = .ok (.iconst 0, 1)) ?_
  refine lg_N 121 [0] (show lCls 121 1 = true by decide +kernel) (Nat.le_of_ble_eq_true rfl) (vm_hw_in (i := 1095) (by decide +kernel)) (by decide +kernel : decode method_11_code 213 = .ok (.invokevirtual 156, 3)) h (fun z2 S1 h => ?_)
  refine lg_istore (k := 7) (l1 := [some (vm_r o0), none, some (vm_i v2), some (vm_i v3), some (vm_i v4), some (vm_i v5), none, some (vm_i z2), none, none, none, none, none, none, none, none, none]) rfl rfl (by decide +kernel : decode method_11_code 216 = .ok (.istore 7, 2)) ?_
  refine lg_aload_n (k := 0) rfl rfl (by decide +kernel : decode method_11_code 218 = .ok (.aload_n 0, 1)) ?_
  refine lg_iconst (n := 1) (by decide) (by decide +kernel : decode method_11_code 219 = .ok (.iconst 1, 1)) ?_
  refine lg_N 121 [1] (show lCls 121 1 = true by decide +kernel) (Nat.le_of_ble_eq_true rfl) (vm_hw_in (i := 1095) (by decide +kernel)) (by decide +kernel : decode method_11_code 220 = .ok (.invokevirtual 156, 3)) h (fun z4 S3 h => ?_)
  refine lg_istore (k := 8) (l1 := [some (vm_r o0), none, some (vm_i v2), some (vm_i v3), some (vm_i v4), some (vm_i v5), none, some (vm_i z2), some (vm_i z4), none, none, none, none, none, none, none, none]) rfl rfl (by decide +kernel : decode method_11_code 223 = .ok (.istore 8, 2)) ?_
  refine lg_aload_n (k := 0) rfl rfl (by decide +kernel : decode method_11_code 225 = .ok (.aload_n 0, 1)) ?_
  refine lg_iload_n (k := 2) rfl rfl (by decide +kernel : decode method_11_code 226 = .ok (.iload_n 2, 1)) ?_
  refine lg_iload_n (k := 3) rfl rfl (by decide +kernel : decode method_11_code 227 = .ok (.iload_n 3, 1)) ?_
  refine lg_aload_n (k := 0) rfl rfl (by decide +kernel : decode method_11_code 228 = .ok (.aload_n 0, 1)) ?_
  refine lg_iconst (n := 3) (by decide) (by decide +kernel : decode method_11_code 229 = .ok (.iconst 3, 1)) ?_
  refine lg_N 115 [3] (show lCls 115 1 = true by decide +kernel) (Nat.le_of_ble_eq_true rfl) (vm_hw_in (i := 604) (by decide +kernel)) (by decide +kernel : decode method_11_code 230 = .ok (.invokevirtual 40, 3)) h (fun z6 S5 h => ?_)
  refine lg_N 119 [v2, v3, z6] (show lCls 119 3 = true by decide +kernel) (Nat.le_of_ble_eq_true rfl) (vm_hw_in (i := 1085) (by decide +kernel)) (by decide +kernel : decode method_11_code 233 = .ok (.invokevirtual 153, 3)) h (fun z8 S7 h => ?_)
  refine lg_istore (k := 9) (l1 := [some (vm_r o0), none, some (vm_i v2), some (vm_i v3), some (vm_i v4), some (vm_i v5), none, some (vm_i z2), some (vm_i z4), some (vm_i z8), none, none, none, none, none, none, none]) rfl rfl (by decide +kernel : decode method_11_code 236 = .ok (.istore 9, 2)) ?_
  refine lg_aload_n (k := 0) rfl rfl (by decide +kernel : decode method_11_code 238 = .ok (.aload_n 0, 1)) ?_
  refine lg_iload_n (k := 2) rfl rfl (by decide +kernel : decode method_11_code 239 = .ok (.iload_n 2, 1)) ?_
  refine lg_iload_n (k := 3) rfl rfl (by decide +kernel : decode method_11_code 240 = .ok (.iload_n 3, 1)) ?_
  refine lg_N 147 [v2, v3] (show lCls 147 2 = true by decide +kernel) (Nat.le_of_ble_eq_true rfl) (vm_hw_in (i := 1099) (by decide +kernel)) (by decide +kernel : decode method_11_code 241 = .ok (.invokevirtual 159, 3)) h (fun z10 S9 h => ?_)
  refine lg_istore (k := 10) (l1 := [some (vm_r o0), none, some (vm_i v2), some (vm_i v3), some (vm_i v4), some (vm_i v5), none, some (vm_i z2), some (vm_i z4), some (vm_i z8), some (vm_i z10), none, none, none, none, none, none]) rfl rfl (by decide +kernel : decode method_11_code 244 = .ok (.istore 10, 2)) ?_
  refine lg_iload (k := 5) rfl (by decide +kernel : decode method_11_code 246 = .ok (.iload 5, 2)) ?_
  refine lg_if_eq (t := 303) (by decide +kernel : decode method_11_code 248 = .ok (.ifCond .eq 55, 3)) (by decide) ⟨fun c => ?_, fun c => ?_⟩
  · replace h := h.1 c
    refine lg_iconst (n := 0) (by decide) (by decide +kernel : decode method_11_code 303 = .ok (.iconst 0, 1)) ?_
    exact lg_sub (ls := [some (vm_r o0), none, some (vm_i v2), some (vm_i v3), some (vm_i v4), none, none, none, none, none, some (vm_i z10), none, none, none, none, none, none]) ⟨rfl, ⟨rfl, ⟨rfl, ⟨rfl, ⟨rfl, trivial⟩⟩⟩⟩⟩ h
  · replace h := h.2 c
    refine lg_aload_n (k := 0) rfl rfl (by decide +kernel : decode method_11_code 251 = .ok (.aload_n 0, 1)) ?_
    refine lg_iload (k := 7) rfl (by decide +kernel : decode method_11_code 252 = .ok (.iload 7, 2)) ?_
    refine lg_bipush (n := 26) (by decide) (by decide) (by decide +kernel : decode method_11_code 254 = .ok (.bipush 26, 2)) ?_
    obtain ⟨h1, h⟩ := h
    refine lg_idiv h1 (by decide +kernel : decode method_11_code 256 = .ok (.idiv, 1)) ?_
    refine lg_iload (k := 7) rfl (by decide +kernel : decode method_11_code 257 = .ok (.iload 7, 2)) ?_
    refine lg_bipush (n := 26) (by decide) (by decide) (by decide +kernel : decode method_11_code 259 = .ok (.bipush 26, 2)) ?_
    obtain ⟨h1, h⟩ := h
    refine lg_irem h1 (by decide +kernel : decode method_11_code 261 = .ok (.irem, 1)) ?_
    refine lg_aload_n (k := 0) rfl rfl (by decide +kernel : decode method_11_code 262 = .ok (.aload_n 0, 1)) ?_
    refine lg_iconst (n := 3) (by decide) (by decide +kernel : decode method_11_code 263 = .ok (.iconst 3, 1)) ?_
    refine lg_N 115 [3] (show lCls 115 1 = true by decide +kernel) (Nat.le_of_ble_eq_true rfl) (vm_hw_in (i := 604) (by decide +kernel)) (by decide +kernel : decode method_11_code 264 = .ok (.invokevirtual 40, 3)) h (fun z12 S11 h => ?_)
    refine lg_N 119 [(z2 / 26), (z2 % 26), z12] (show lCls 119 3 = true by decide +kernel) (Nat.le_of_ble_eq_true rfl) (vm_hw_in (i := 1085) (by decide +kernel)) (by decide +kernel : decode method_11_code 267 = .ok (.invokevirtual 153, 3)) h (fun z14 S13 h => ?_)
    refine lg_iload (k := 9) rfl (by decide +kernel : decode method_11_code 270 = .ok (.iload 9, 2)) ?_
    refine lg_icmp_gt (t := 303) (by decide +kernel : decode method_11_code 272 = .ok (.if_icmp .gt 31, 3)) (by decide) ⟨fun c => ?_, fun c => ?_⟩
    · replace h := h.1 c
      refine lg_iconst (n := 0) (by decide) (by decide +kernel : decode method_11_code 303 = .ok (.iconst 0, 1)) ?_
      exact lg_sub (ls := [some (vm_r o0), none, some (vm_i v2), some (vm_i v3), some (vm_i v4), none, none, none, none, none, some (vm_i z10), none, none, none, none, none, none]) ⟨rfl, ⟨rfl, ⟨rfl, ⟨rfl, ⟨rfl, trivial⟩⟩⟩⟩⟩ h
    · replace h := h.2 c
      refine lg_aload_n (k := 0) rfl rfl (by decide +kernel : decode method_11_code 275 = .ok (.aload_n 0, 1)) ?_
      refine lg_iload (k := 8) rfl (by decide +kernel : decode method_11_code 276 = .ok (.iload 8, 2)) ?_
      refine lg_bipush (n := 26) (by decide) (by decide) (by decide +kernel : decode method_11_code 278 = .ok (.bipush 26, 2)) ?_
      obtain ⟨h1, h⟩ := h
      refine lg_idiv h1 (by decide +kernel : decode method_11_code 280 = .ok (.idiv, 1)) ?_
      refine lg_iload (k := 8) rfl (by decide +kernel : decode method_11_code 281 = .ok (.iload 8, 2)) ?_
      refine lg_bipush (n := 26) (by decide) (by decide) (by decide +kernel : decode method_11_code 283 = .ok (.bipush 26, 2)) ?_
      obtain ⟨h1, h⟩ := h
      refine lg_irem h1 (by decide +kernel : decode method_11_code 285 = .ok (.irem, 1)) ?_
      refine lg_aload_n (k := 0) rfl rfl (by decide +kernel : decode method_11_code 286 = .ok (.aload_n 0, 1)) ?_
      refine lg_iconst (n := 3) (by decide) (by decide +kernel : decode method_11_code 287 = .ok (.iconst 3, 1)) ?_
      refine lg_N 115 [3] (show lCls 115 1 = true by decide +kernel) (Nat.le_of_ble_eq_true rfl) (vm_hw_in (i := 604) (by decide +kernel)) (by decide +kernel : decode method_11_code 288 = .ok (.invokevirtual 40, 3)) h (fun z16 S15 h => ?_)
      refine lg_N 119 [(z4 / 26), (z4 % 26), z16] (show lCls 119 3 = true by decide +kernel) (Nat.le_of_ble_eq_true rfl) (vm_hw_in (i := 1085) (by decide +kernel)) (by decide +kernel : decode method_11_code 291 = .ok (.invokevirtual 153, 3)) h (fun z18 S17 h => ?_)
      refine lg_iload (k := 9) rfl (by decide +kernel : decode method_11_code 294 = .ok (.iload 9, 2)) ?_
      refine lg_icmp_lt (t := 303) (by decide +kernel : decode method_11_code 296 = .ok (.if_icmp .lt 7, 3)) (by decide) ⟨fun c => ?_, fun c => ?_⟩
      · replace h := h.1 c
        refine lg_iconst (n := 0) (by decide) (by decide +kernel : decode method_11_code 303 = .ok (.iconst 0, 1)) ?_
        exact lg_sub (ls := [some (vm_r o0), none, some (vm_i v2), some (vm_i v3), some (vm_i v4), none, none, none, none, none, some (vm_i z10), none, none, none, none, none, none]) ⟨rfl, ⟨rfl, ⟨rfl, ⟨rfl, ⟨rfl, trivial⟩⟩⟩⟩⟩ h
      · replace h := h.2 c
        refine lg_iconst (n := 1) (by decide) (by decide +kernel : decode method_11_code 299 = .ok (.iconst 1, 1)) ?_
        refine lg_goto (t := 304) (by decide +kernel : decode method_11_code 300 = .ok (.goto 4, 3)) (by decide) ?_
        exact lg_sub (ls := [some (vm_r o0), none, some (vm_i v2), some (vm_i v3), some (vm_i v4), none, none, none, none, none, some (vm_i z10), none, none, none, none, none, none]) ⟨rfl, ⟨rfl, ⟨rfl, ⟨rfl, ⟨rfl, trivial⟩⟩⟩⟩⟩ h
set_option maxHeartbeats 4000000 in
theorem rL_pairs_132 {S : lwS} {Qp : Option vm_V → lwS → Prop} {o0 : Nat} {v2 : Int} {v3 : Int} {v4 : Int} {v6 : Int} {v7 : Int} {v8 : Int} (h : lNn 118 o0 [v2, v3, v8] S (fun z2 S1 => (v7 ≤ z2 → (lNn 119 o0 [v2, v3, v7] S1 (fun z4 S3 => (vm_32 (v8 + v4)) ∧ ((vm_32 (((if ((-9)) < ((v8 + v4)) then ((v8 + v4)) else ((-9)))) + 9)) ∧ ((¬ z4 = ((((if ((-9)) < ((v8 + v4)) then ((v8 + v4)) else ((-9)))) + 9)) → (lG lK_pairs 193 [some (vm_r o0), none, some (vm_i v2), some (vm_i v3), some (vm_i v4), none, none, some (vm_i v7), none, none, none, none, none, none, none, none, none] [vm_i 0] S3 Qp)) ∧ (¬ (¬ z4 = ((((if ((-9)) < ((v8 + v4)) then ((v8 + v4)) else ((-9)))) + 9))) → (lNn 119 o0 [v2, v3, v7] S3 (fun z6 S5 => (z6 < v6 → (lG lK_pairs 193 [some (vm_r o0), none, some (vm_i v2), some (vm_i v3), some (vm_i v4), none, none, some (vm_i v7), none, none, none, none, none, none, none, none, none] [vm_i 0] S5 Qp)) ∧ (¬ (z6 < v6) → (lG lK_pairs 193 [some (vm_r o0), none, some (vm_i v2), some (vm_i v3), some (vm_i v4), none, none, some (vm_i v7), none, none, none, none, none, none, none, none, none] [vm_i 1] S5 Qp)))))))))) ∧ (¬ (v7 ≤ z2) → ((vm_32 (v8 + 1)) ∧ (lG lK_pairs 132 [some (vm_r o0), none, some (vm_i v2), some (vm_i v3), some (vm_i v4), none, some (vm_i v6), some (vm_i v7), some (vm_i ((v8 + 1))), none, none, none, none, none, none, none, none] [] S1 Qp))))) : lG lK_pairs 132 [some (vm_r o0), none, some (vm_i v2), some (vm_i v3), some (vm_i v4), none, some (vm_i v6), some (vm_i v7), some (vm_i v8), none, none, none, none, none, none, none, none] [] S Qp := by
  refine lg_aload_n (k := 0) rfl rfl (by decide +kernel : decode method_11_code 132 = .ok (.aload_n 0, 1)) ?_
  refine lg_iload_n (k := 2) rfl rfl (by decide +kernel : decode method_11_code 133 = .ok (.iload_n 2, 1)) ?_
  refine lg_iload_n (k := 3) rfl rfl (by decide +kernel : decode method_11_code 134 = .ok (.iload_n 3, 1)) ?_
  refine lg_iload (k := 8) rfl (by decide +kernel : decode method_11_code 135 = .ok (.iload 8, 2)) ?_
  refine lg_N 118 [v2, v3, v8] (show lCls 118 3 = true by decide +kernel) (Nat.le_of_ble_eq_true rfl) (vm_hw_in (i := 1080) (by decide +kernel)) (by decide +kernel : decode method_11_code 137 = .ok (.invokevirtual 150, 3)) h (fun z2 S1 h => ?_)
  refine lg_iload (k := 7) rfl (by decide +kernel : decode method_11_code 140 = .ok (.iload 7, 2)) ?_
  refine lg_icmp_ge (t := 151) (by decide +kernel : decode method_11_code 142 = .ok (.if_icmp .ge 9, 3)) (by decide) ⟨fun c => ?_, fun c => ?_⟩
  · replace h := h.1 c
    refine lg_aload_n (k := 0) rfl rfl (by decide +kernel : decode method_11_code 151 = .ok (.aload_n 0, 1)) ?_
    refine lg_iload_n (k := 2) rfl rfl (by decide +kernel : decode method_11_code 152 = .ok (.iload_n 2, 1)) ?_
    refine lg_iload_n (k := 3) rfl rfl (by decide +kernel : decode method_11_code 153 = .ok (.iload_n 3, 1)) ?_
    refine lg_iload (k := 7) rfl (by decide +kernel : decode method_11_code 154 = .ok (.iload 7, 2)) ?_
    refine lg_N 119 [v2, v3, v7] (show lCls 119 3 = true by decide +kernel) (Nat.le_of_ble_eq_true rfl) (vm_hw_in (i := 1085) (by decide +kernel)) (by decide +kernel : decode method_11_code 156 = .ok (.invokevirtual 153, 3)) h (fun z4 S3 h => ?_)
    refine lg_bipush (n := (-9)) (by decide) (by decide) (by decide +kernel : decode method_11_code 159 = .ok (.bipush (-9), 2)) ?_
    refine lg_iload (k := 8) rfl (by decide +kernel : decode method_11_code 161 = .ok (.iload 8, 2)) ?_
    refine lg_iload (k := 4) rfl (by decide +kernel : decode method_11_code 163 = .ok (.iload 4, 2)) ?_
    obtain ⟨h1, h⟩ := h
    refine lg_iadd h1 (by decide +kernel : decode method_11_code 165 = .ok (.iadd, 1)) ?_
    refine lg_max (Nat.le_of_ble_eq_true rfl) (vm_hw_in (i := 1040) (by decide +kernel)) (by decide +kernel : decode method_11_code 166 = .ok (.invokestatic 124, 3)) ?_
    refine lg_bipush (n := 9) (by decide) (by decide) (by decide +kernel : decode method_11_code 169 = .ok (.bipush 9, 2)) ?_
    obtain ⟨h1, h⟩ := h
    refine lg_iadd h1 (by decide +kernel : decode method_11_code 171 = .ok (.iadd, 1)) ?_
    refine lg_icmp_ne (t := 192) (by decide +kernel : decode method_11_code 172 = .ok (.if_icmp .ne 20, 3)) (by decide) ⟨fun c => ?_, fun c => ?_⟩
    · replace h := h.1 c
      refine lg_iconst (n := 0) (by decide) (by decide +kernel : decode method_11_code 192 = .ok (.iconst 0, 1)) ?_
      exact lg_sub (ls := [some (vm_r o0), none, some (vm_i v2), some (vm_i v3), some (vm_i v4), none, none, some (vm_i v7), none, none, none, none, none, none, none, none, none]) ⟨rfl, ⟨rfl, ⟨rfl, ⟨rfl, ⟨rfl, trivial⟩⟩⟩⟩⟩ h
    · replace h := h.2 c
      refine lg_aload_n (k := 0) rfl rfl (by decide +kernel : decode method_11_code 175 = .ok (.aload_n 0, 1)) ?_
      refine lg_iload_n (k := 2) rfl rfl (by decide +kernel : decode method_11_code 176 = .ok (.iload_n 2, 1)) ?_
      refine lg_iload_n (k := 3) rfl rfl (by decide +kernel : decode method_11_code 177 = .ok (.iload_n 3, 1)) ?_
      refine lg_iload (k := 7) rfl (by decide +kernel : decode method_11_code 178 = .ok (.iload 7, 2)) ?_
      refine lg_N 119 [v2, v3, v7] (show lCls 119 3 = true by decide +kernel) (Nat.le_of_ble_eq_true rfl) (vm_hw_in (i := 1085) (by decide +kernel)) (by decide +kernel : decode method_11_code 180 = .ok (.invokevirtual 153, 3)) h (fun z6 S5 h => ?_)
      refine lg_iload (k := 6) rfl (by decide +kernel : decode method_11_code 183 = .ok (.iload 6, 2)) ?_
      refine lg_icmp_lt (t := 192) (by decide +kernel : decode method_11_code 185 = .ok (.if_icmp .lt 7, 3)) (by decide) ⟨fun c => ?_, fun c => ?_⟩
      · replace h := h.1 c
        refine lg_iconst (n := 0) (by decide) (by decide +kernel : decode method_11_code 192 = .ok (.iconst 0, 1)) ?_
        exact lg_sub (ls := [some (vm_r o0), none, some (vm_i v2), some (vm_i v3), some (vm_i v4), none, none, some (vm_i v7), none, none, none, none, none, none, none, none, none]) ⟨rfl, ⟨rfl, ⟨rfl, ⟨rfl, ⟨rfl, trivial⟩⟩⟩⟩⟩ h
      · replace h := h.2 c
        refine lg_iconst (n := 1) (by decide) (by decide +kernel : decode method_11_code 188 = .ok (.iconst 1, 1)) ?_
        refine lg_goto (t := 193) (by decide +kernel : decode method_11_code 189 = .ok (.goto 4, 3)) (by decide) ?_
        exact lg_sub (ls := [some (vm_r o0), none, some (vm_i v2), some (vm_i v3), some (vm_i v4), none, none, some (vm_i v7), none, none, none, none, none, none, none, none, none]) ⟨rfl, ⟨rfl, ⟨rfl, ⟨rfl, ⟨rfl, trivial⟩⟩⟩⟩⟩ h
  · replace h := h.2 c
    obtain ⟨h1, h⟩ := h
    refine lg_iinc (k := 8) (l1 := [some (vm_r o0), none, some (vm_i v2), some (vm_i v3), some (vm_i v4), none, some (vm_i v6), some (vm_i v7), some (vm_i ((v8 + 1))), none, none, none, none, none, none, none, none]) rfl rfl rfl h1 (by decide +kernel : decode method_11_code 145 = .ok (.iinc 8 1, 3)) ?_
    refine lg_goto (t := 132) (by decide +kernel : decode method_11_code 148 = .ok (.goto (-16), 3)) (by decide) ?_
    exact h
set_option maxHeartbeats 4000000 in
theorem rL_pairs_304 {S : lwS} {Qp : Option vm_V → lwS → Prop} {o0 : Nat} {v2 : Int} {v3 : Int} {v4 : Int} {v10 : Int} {x0 : Int} (h : lG lK_pairs 316 [some (vm_r o0), none, some (vm_i v2), some (vm_i v3), some (vm_i v4), some (vm_i x0), none, none, none, none, some (vm_i v10), some (vm_i 100), some (vm_i 0), some (vm_i 0), none, none, none] [] S Qp) : lG lK_pairs 304 [some (vm_r o0), none, some (vm_i v2), some (vm_i v3), some (vm_i v4), none, none, none, none, none, some (vm_i v10), none, none, none, none, none, none] [vm_i x0] S Qp := by
  refine lg_istore (k := 5) (l1 := [some (vm_r o0), none, some (vm_i v2), some (vm_i v3), some (vm_i v4), some (vm_i x0), none, none, none, none, some (vm_i v10), none, none, none, none, none, none]) rfl rfl (by decide +kernel : decode method_11_code 304 = .ok (.istore 5, 2)) ?_
  refine lg_bipush (n := 100) (by decide) (by decide) (by decide +kernel : decode method_11_code 306 = .ok (.bipush 100, 2)) ?_
  refine lg_istore (k := 11) (l1 := [some (vm_r o0), none, some (vm_i v2), some (vm_i v3), some (vm_i v4), some (vm_i x0), none, none, none, none, some (vm_i v10), some (vm_i 100), none, none, none, none, none]) rfl rfl (by decide +kernel : decode method_11_code 308 = .ok (.istore 11, 2)) ?_
  refine lg_iconst (n := 0) (by decide) (by decide +kernel : decode method_11_code 310 = .ok (.iconst 0, 1)) ?_
  refine lg_istore (k := 12) (l1 := [some (vm_r o0), none, some (vm_i v2), some (vm_i v3), some (vm_i v4), some (vm_i x0), none, none, none, none, some (vm_i v10), some (vm_i 100), some (vm_i 0), none, none, none, none]) rfl rfl (by decide +kernel : decode method_11_code 311 = .ok (.istore 12, 2)) ?_
  refine lg_iconst (n := 0) (by decide) (by decide +kernel : decode method_11_code 313 = .ok (.iconst 0, 1)) ?_
  refine lg_istore (k := 13) (l1 := [some (vm_r o0), none, some (vm_i v2), some (vm_i v3), some (vm_i v4), some (vm_i x0), none, none, none, none, some (vm_i v10), some (vm_i 100), some (vm_i 0), some (vm_i 0), none, none, none]) rfl rfl (by decide +kernel : decode method_11_code 314 = .ok (.istore 13, 2)) ?_
  exact h
set_option maxHeartbeats 4000000 in
theorem rL_pairs_193 {S : lwS} {Qp : Option vm_V → lwS → Prop} {o0 : Nat} {v2 : Int} {v3 : Int} {v4 : Int} {v7 : Int} {x0 : Int} (h : lNn 119 o0 [v2, v3, v7] S (fun z2 S1 => (vm_32 (v7 + 1)) ∧ (lG lK_pairs 112 [some (vm_r o0), none, some (vm_i v2), some (vm_i v3), some (vm_i v4), some (vm_i x0), some (vm_i z2), some (vm_i ((v7 + 1))), none, none, none, none, none, none, none, none, none] [] S1 Qp))) : lG lK_pairs 193 [some (vm_r o0), none, some (vm_i v2), some (vm_i v3), some (vm_i v4), none, none, some (vm_i v7), none, none, none, none, none, none, none, none, none] [vm_i x0] S Qp := by
  refine lg_istore (k := 5) (l1 := [some (vm_r o0), none, some (vm_i v2), some (vm_i v3), some (vm_i v4), some (vm_i x0), none, some (vm_i v7), none, none, none, none, none, none, none, none, none]) rfl rfl (by decide +kernel : decode method_11_code 193 = .ok (.istore 5, 2)) ?_
  refine lg_aload_n (k := 0) rfl rfl (by decide +kernel : decode method_11_code 195 = .ok (.aload_n 0, 1)) ?_
  refine lg_iload_n (k := 2) rfl rfl (by decide +kernel : decode method_11_code 196 = .ok (.iload_n 2, 1)) ?_
  refine lg_iload_n (k := 3) rfl rfl (by decide +kernel : decode method_11_code 197 = .ok (.iload_n 3, 1)) ?_
  refine lg_iload (k := 7) rfl (by decide +kernel : decode method_11_code 198 = .ok (.iload 7, 2)) ?_
  refine lg_N 119 [v2, v3, v7] (show lCls 119 3 = true by decide +kernel) (Nat.le_of_ble_eq_true rfl) (vm_hw_in (i := 1085) (by decide +kernel)) (by decide +kernel : decode method_11_code 200 = .ok (.invokevirtual 153, 3)) h (fun z2 S1 h => ?_)
  refine lg_istore (k := 6) (l1 := [some (vm_r o0), none, some (vm_i v2), some (vm_i v3), some (vm_i v4), some (vm_i x0), some (vm_i z2), some (vm_i v7), none, none, none, none, none, none, none, none, none]) rfl rfl (by decide +kernel : decode method_11_code 203 = .ok (.istore 6, 2)) ?_
  obtain ⟨h1, h⟩ := h
  refine lg_iinc (k := 7) (l1 := [some (vm_r o0), none, some (vm_i v2), some (vm_i v3), some (vm_i v4), some (vm_i x0), some (vm_i z2), some (vm_i ((v7 + 1))), none, none, none, none, none, none, none, none, none]) rfl rfl rfl h1 (by decide +kernel : decode method_11_code 205 = .ok (.iinc 7 1, 3)) ?_
  refine lg_goto (t := 112) (by decide +kernel : decode method_11_code 208 = .ok (.goto (-96), 3)) (by decide) ?_
  exact h
set_option maxHeartbeats 4000000 in
theorem rL_pairs_316 {S : lwS} {Qp : Option vm_V → lwS → Prop} {o0 : Nat} {v2 : Int} {v3 : Int} {v4 : Int} {v5 : Int} {v10 : Int} {v11 : Int} {v12 : Int} {v13 : Int} (h : (19 ≤ v13 → (lG lK_pairs 444 [some (vm_r o0), none, some (vm_i v2), some (vm_i v3), some (vm_i v4), some (vm_i v5), none, none, none, none, some (vm_i v10), none, some (vm_i v12), none, none, none, none] [] S Qp)) ∧ (¬ (19 ≤ v13) → ((v5 = 0 → (lG lK_pairs 444 [some (vm_r o0), none, some (vm_i v2), some (vm_i v3), some (vm_i v4), some (vm_i v5), none, none, none, none, some (vm_i v10), none, some (vm_i v12), none, none, none, none] [] S Qp)) ∧ (¬ (v5 = 0) → (((0 : Int) ≤ v13 ∧ (0 : Int) < 2) ∧ ((¬ ((v13 % 2)) = 0 → ((vm_32 (v13 + 1)) ∧ ((vm_32 (-((v13 + 1)))) ∧ ((¬ 2 = (0 : Int) ∧ vm_32 (Int.tdiv ((-((v13 + 1)))) 2)) ∧ (lG lK_pairs 349 [some (vm_r o0), none, some (vm_i v2), some (vm_i v3), some (vm_i v4), none, none, none, none, none, some (vm_i v10), some (vm_i v11), some (vm_i v12), some (vm_i v13), none, none, none] [vm_i ((Int.tdiv ((-((v13 + 1)))) 2))] S Qp))))) ∧ (¬ (¬ ((v13 % 2)) = 0) → (((0 : Int) ≤ v13 ∧ (0 : Int) < 2) ∧ (lG lK_pairs 349 [some (vm_r o0), none, some (vm_i v2), some (vm_i v3), some (vm_i v4), none, none, none, none, none, some (vm_i v10), some (vm_i v11), some (vm_i v12), some (vm_i v13), none, none, none] [vm_i ((v13 / 2))] S Qp))))))))) : lG lK_pairs 316 [some (vm_r o0), none, some (vm_i v2), some (vm_i v3), some (vm_i v4), some (vm_i v5), none, none, none, none, some (vm_i v10), some (vm_i v11), some (vm_i v12), some (vm_i v13), none, none, none] [] S Qp := by
  refine lg_iload (k := 13) rfl (by decide +kernel : decode method_11_code 316 = .ok (.iload 13, 2)) ?_
  refine lg_bipush (n := 19) (by decide) (by decide) (by decide +kernel : decode method_11_code 318 = .ok (.bipush 19, 2)) ?_
  refine lg_icmp_ge (t := 444) (by decide +kernel : decode method_11_code 320 = .ok (.if_icmp .ge 124, 3)) (by decide) ⟨fun c => ?_, fun c => ?_⟩
  · replace h := h.1 c
    exact lg_sub (ls := [some (vm_r o0), none, some (vm_i v2), some (vm_i v3), some (vm_i v4), some (vm_i v5), none, none, none, none, some (vm_i v10), none, some (vm_i v12), none, none, none, none]) ⟨rfl, ⟨rfl, ⟨rfl, ⟨rfl, ⟨rfl, ⟨rfl, ⟨rfl, trivial⟩⟩⟩⟩⟩⟩⟩ h
  · replace h := h.2 c
    refine lg_iload (k := 5) rfl (by decide +kernel : decode method_11_code 323 = .ok (.iload 5, 2)) ?_
    refine lg_if_eq (t := 444) (by decide +kernel : decode method_11_code 325 = .ok (.ifCond .eq 119, 3)) (by decide) ⟨fun c => ?_, fun c => ?_⟩
    · replace h := h.1 c
      exact lg_sub (ls := [some (vm_r o0), none, some (vm_i v2), some (vm_i v3), some (vm_i v4), some (vm_i v5), none, none, none, none, some (vm_i v10), none, some (vm_i v12), none, none, none, none]) ⟨rfl, ⟨rfl, ⟨rfl, ⟨rfl, ⟨rfl, ⟨rfl, ⟨rfl, trivial⟩⟩⟩⟩⟩⟩⟩ h
    · replace h := h.2 c
      refine lg_iload (k := 13) rfl (by decide +kernel : decode method_11_code 328 = .ok (.iload 13, 2)) ?_
      refine lg_iconst (n := 2) (by decide) (by decide +kernel : decode method_11_code 330 = .ok (.iconst 2, 1)) ?_
      obtain ⟨h1, h⟩ := h
      refine lg_irem h1 (by decide +kernel : decode method_11_code 331 = .ok (.irem, 1)) ?_
      refine lg_if_ne (t := 342) (by decide +kernel : decode method_11_code 332 = .ok (.ifCond .ne 10, 3)) (by decide) ⟨fun c => ?_, fun c => ?_⟩
      · replace h := h.1 c
        refine lg_iload (k := 13) rfl (by decide +kernel : decode method_11_code 342 = .ok (.iload 13, 2)) ?_
        refine lg_iconst (n := 1) (by decide) (by decide +kernel : decode method_11_code 344 = .ok (.iconst 1, 1)) ?_
        obtain ⟨h1, h⟩ := h
        refine lg_iadd h1 (by decide +kernel : decode method_11_code 345 = .ok (.iadd, 1)) ?_
        obtain ⟨h1, h⟩ := h
        refine lg_ineg h1 (by decide +kernel : decode method_11_code 346 = .ok (.ineg, 1)) ?_
        refine lg_iconst (n := 2) (by decide) (by decide +kernel : decode method_11_code 347 = .ok (.iconst 2, 1)) ?_
        obtain ⟨h1, h⟩ := h
        refine lg_idivt h1 (by decide +kernel : decode method_11_code 348 = .ok (.idiv, 1)) ?_
        exact lg_sub (ls := [some (vm_r o0), none, some (vm_i v2), some (vm_i v3), some (vm_i v4), none, none, none, none, none, some (vm_i v10), some (vm_i v11), some (vm_i v12), some (vm_i v13), none, none, none]) ⟨rfl, ⟨rfl, ⟨rfl, ⟨rfl, ⟨rfl, ⟨rfl, ⟨rfl, ⟨rfl, trivial⟩⟩⟩⟩⟩⟩⟩⟩ h
      · replace h := h.2 c
        refine lg_iload (k := 13) rfl (by decide +kernel : decode method_11_code 335 = .ok (.iload 13, 2)) ?_
        refine lg_iconst (n := 2) (by decide) (by decide +kernel : decode method_11_code 337 = .ok (.iconst 2, 1)) ?_
        obtain ⟨h1, h⟩ := h
        refine lg_idiv h1 (by decide +kernel : decode method_11_code 338 = .ok (.idiv, 1)) ?_
        refine lg_goto (t := 349) (by decide +kernel : decode method_11_code 339 = .ok (.goto 10, 3)) (by decide) ?_
        exact lg_sub (ls := [some (vm_r o0), none, some (vm_i v2), some (vm_i v3), some (vm_i v4), none, none, none, none, none, some (vm_i v10), some (vm_i v11), some (vm_i v12), some (vm_i v13), none, none, none]) ⟨rfl, ⟨rfl, ⟨rfl, ⟨rfl, ⟨rfl, ⟨rfl, ⟨rfl, ⟨rfl, trivial⟩⟩⟩⟩⟩⟩⟩⟩ h
set_option maxHeartbeats 4000000 in
theorem rL_pairs_444 {S : lwS} {Qp : Option vm_V → lwS → Prop} {o0 : Nat} {v2 : Int} {v3 : Int} {v4 : Int} {v5 : Int} {v10 : Int} {v12 : Int} (h : (v5 = 0 → (Qp (some (vm_i 0)) S)) ∧ (¬ (v5 = 0) → ((vm_32 (v12 + 9)) ∧ ((¬ v10 = ((v12 + 9)) → (Qp (some (vm_i 0)) S)) ∧ (¬ (¬ v10 = ((v12 + 9))) → (lNn 120 o0 [v2, v3] S (fun z2 S1 => (vm_32 (v4 + 9)) ∧ ((¬ z2 = ((v4 + 9)) → (Qp (some (vm_i 0)) S1)) ∧ (¬ (¬ z2 = ((v4 + 9))) → (lNn 118 o0 [v2, 25, 0] S1 (fun z4 S3 => lNn 117 o0 [25, 0] S3 (fun z6 S5 => (z6 ≤ 0 → (lG lK_pairs 503 [none, none, none, none, none, none, none, none, none, none, none, none, none, none, none, none, none] [vm_i ((-1)), vm_i z4] S5 Qp)) ∧ (¬ (z6 ≤ 0) → (lNn 118 o0 [v2, 25, 0] S5 (fun z8 S7 => lG lK_pairs 503 [none, none, none, none, none, none, none, none, none, none, none, none, none, none, none, none, none] [vm_i z8, vm_i z4] S7 Qp))))))))))))))) : lG lK_pairs 444 [some (vm_r o0), none, some (vm_i v2), some (vm_i v3), some (vm_i v4), some (vm_i v5), none, none, none, none, some (vm_i v10), none, some (vm_i v12), none, none, none, none] [] S Qp := by
  refine lg_iload (k := 5) rfl (by decide +kernel : decode method_11_code 444 = .ok (.iload 5, 2)) ?_
  refine lg_if_eq (t := 510) (by decide +kernel : decode method_11_code 446 = .ok (.ifCond .eq 64, 3)) (by decide) ⟨fun c => ?_, fun c => ?_⟩
  · replace h := h.1 c
    refine lg_iconst (n := 0) (by decide) (by decide +kernel : decode method_11_code 510 = .ok (.iconst 0, 1)) ?_
    exact lg_ret (Or.inl ⟨0, (by decide +kernel : decode method_11_code 511 = .ok (.ireturn, 1)), Or.inr ⟨rfl, by decide⟩, rfl, rfl⟩) h
  · replace h := h.2 c
    refine lg_iload (k := 10) rfl (by decide +kernel : decode method_11_code 449 = .ok (.iload 10, 2)) ?_
    refine lg_iload (k := 12) rfl (by decide +kernel : decode method_11_code 451 = .ok (.iload 12, 2)) ?_
    refine lg_bipush (n := 9) (by decide) (by decide) (by decide +kernel : decode method_11_code 453 = .ok (.bipush 9, 2)) ?_
    obtain ⟨h1, h⟩ := h
    refine lg_iadd h1 (by decide +kernel : decode method_11_code 455 = .ok (.iadd, 1)) ?_
    refine lg_icmp_ne (t := 510) (by decide +kernel : decode method_11_code 456 = .ok (.if_icmp .ne 54, 3)) (by decide) ⟨fun c => ?_, fun c => ?_⟩
    · replace h := h.1 c
      refine lg_iconst (n := 0) (by decide) (by decide +kernel : decode method_11_code 510 = .ok (.iconst 0, 1)) ?_
      exact lg_ret (Or.inl ⟨0, (by decide +kernel : decode method_11_code 511 = .ok (.ireturn, 1)), Or.inr ⟨rfl, by decide⟩, rfl, rfl⟩) h
    · replace h := h.2 c
      refine lg_aload_n (k := 0) rfl rfl (by decide +kernel : decode method_11_code 459 = .ok (.aload_n 0, 1)) ?_
      refine lg_iload_n (k := 2) rfl rfl (by decide +kernel : decode method_11_code 460 = .ok (.iload_n 2, 1)) ?_
      refine lg_iload_n (k := 3) rfl rfl (by decide +kernel : decode method_11_code 461 = .ok (.iload_n 3, 1)) ?_
      refine lg_N 120 [v2, v3] (show lCls 120 2 = true by decide +kernel) (Nat.le_of_ble_eq_true rfl) (vm_hw_in (i := 1076) (by decide +kernel)) (by decide +kernel : decode method_11_code 462 = .ok (.invokevirtual 147, 3)) h (fun z2 S1 h => ?_)
      refine lg_iload (k := 4) rfl (by decide +kernel : decode method_11_code 465 = .ok (.iload 4, 2)) ?_
      refine lg_bipush (n := 9) (by decide) (by decide) (by decide +kernel : decode method_11_code 467 = .ok (.bipush 9, 2)) ?_
      obtain ⟨h1, h⟩ := h
      refine lg_iadd h1 (by decide +kernel : decode method_11_code 469 = .ok (.iadd, 1)) ?_
      refine lg_icmp_ne (t := 510) (by decide +kernel : decode method_11_code 470 = .ok (.if_icmp .ne 40, 3)) (by decide) ⟨fun c => ?_, fun c => ?_⟩
      · replace h := h.1 c
        refine lg_iconst (n := 0) (by decide) (by decide +kernel : decode method_11_code 510 = .ok (.iconst 0, 1)) ?_
        exact lg_ret (Or.inl ⟨0, (by decide +kernel : decode method_11_code 511 = .ok (.ireturn, 1)), Or.inr ⟨rfl, by decide⟩, rfl, rfl⟩) h
      · replace h := h.2 c
        refine lg_aload_n (k := 0) rfl rfl (by decide +kernel : decode method_11_code 473 = .ok (.aload_n 0, 1)) ?_
        refine lg_iload_n (k := 2) rfl rfl (by decide +kernel : decode method_11_code 474 = .ok (.iload_n 2, 1)) ?_
        refine lg_bipush (n := 25) (by decide) (by decide) (by decide +kernel : decode method_11_code 475 = .ok (.bipush 25, 2)) ?_
        refine lg_iconst (n := 0) (by decide) (by decide +kernel : decode method_11_code 477 = .ok (.iconst 0, 1)) ?_
        refine lg_N 118 [v2, 25, 0] (show lCls 118 3 = true by decide +kernel) (Nat.le_of_ble_eq_true rfl) (vm_hw_in (i := 1080) (by decide +kernel)) (by decide +kernel : decode method_11_code 478 = .ok (.invokevirtual 150, 3)) h (fun z4 S3 h => ?_)
        refine lg_aload_n (k := 0) rfl rfl (by decide +kernel : decode method_11_code 481 = .ok (.aload_n 0, 1)) ?_
        refine lg_bipush (n := 25) (by decide) (by decide) (by decide +kernel : decode method_11_code 482 = .ok (.bipush 25, 2)) ?_
        refine lg_iconst (n := 0) (by decide) (by decide +kernel : decode method_11_code 484 = .ok (.iconst 0, 1)) ?_
        refine lg_N 117 [25, 0] (show lCls 117 2 = true by decide +kernel) (Nat.le_of_ble_eq_true rfl) (vm_hw_in (i := 1117) (by decide +kernel)) (by decide +kernel : decode method_11_code 485 = .ok (.invokevirtual 171, 3)) h (fun z6 S5 h => ?_)
        refine lg_if_le (t := 502) (by decide +kernel : decode method_11_code 488 = .ok (.ifCond .le 14, 3)) (by decide) ⟨fun c => ?_, fun c => ?_⟩
        · replace h := h.1 c
          refine lg_iconst (n := (-1)) (by decide) (by decide +kernel : decode method_11_code 502 = .ok (.iconst (-1), 1)) ?_
          exact lg_sub (ls := [none, none, none, none, none, none, none, none, none, none, none, none, none, none, none, none, none]) (by trivial) h
        · replace h := h.2 c
          refine lg_aload_n (k := 0) rfl rfl (by decide +kernel : decode method_11_code 491 = .ok (.aload_n 0, 1)) ?_
          refine lg_iload_n (k := 2) rfl rfl (by decide +kernel : decode method_11_code 492 = .ok (.iload_n 2, 1)) ?_
          refine lg_bipush (n := 25) (by decide) (by decide) (by decide +kernel : decode method_11_code 493 = .ok (.bipush 25, 2)) ?_
          refine lg_iconst (n := 0) (by decide) (by decide +kernel : decode method_11_code 495 = .ok (.iconst 0, 1)) ?_
          refine lg_N 118 [v2, 25, 0] (show lCls 118 3 = true by decide +kernel) (Nat.le_of_ble_eq_true rfl) (vm_hw_in (i := 1080) (by decide +kernel)) (by decide +kernel : decode method_11_code 496 = .ok (.invokevirtual 150, 3)) h (fun z8 S7 h => ?_)
          refine lg_goto (t := 503) (by decide +kernel : decode method_11_code 499 = .ok (.goto 4, 3)) (by decide) ?_
          exact lg_sub (ls := [none, none, none, none, none, none, none, none, none, none, none, none, none, none, none, none, none]) (by trivial) h
set_option maxHeartbeats 4000000 in
theorem rL_pairs_349 {S : lwS} {Qp : Option vm_V → lwS → Prop} {o0 : Nat} {v2 : Int} {v3 : Int} {v4 : Int} {v10 : Int} {v11 : Int} {v12 : Int} {v13 : Int} {x0 : Int} (h : lNn 107 o0 [v2, v3, x0] S (fun z2 S1 => lNn 115 o0 [3] S1 (fun z4 S3 => lNn 119 o0 [v2, v3, z4] S3 (fun z6 S5 => (vm_32 (z6 - 9)) ∧ (lNn 118 o0 [v2, v3, (z6 - 9)] S5 (fun z8 S7 => lNn 115 o0 [3] S7 (fun z10 S9 => (vm_32 (z8 - z10)) ∧ ((vm_32 (0 - ((z8 - z10)))) ∧ ((v11 ≤ ((if 0 ≤ ((z8 - z10)) then ((z8 - z10)) else 0 - ((z8 - z10)))) → (lG lK_pairs 406 [some (vm_r o0), none, some (vm_i v2), some (vm_i v3), some (vm_i v4), none, none, none, none, none, some (vm_i v10), some (vm_i v11), none, some (vm_i v13), none, some (vm_i z2), some (vm_i ((if 0 ≤ ((z8 - z10)) then ((z8 - z10)) else 0 - ((z8 - z10)))))] [vm_i v12] S9 Qp)) ∧ (¬ (v11 ≤ ((if 0 ≤ ((z8 - z10)) then ((z8 - z10)) else 0 - ((z8 - z10))))) → (lG lK_pairs 406 [some (vm_r o0), none, some (vm_i v2), some (vm_i v3), some (vm_i v4), none, none, none, none, none, some (vm_i v10), some (vm_i v11), none, some (vm_i v13), none, some (vm_i z2), some (vm_i ((if 0 ≤ ((z8 - z10)) then ((z8 - z10)) else 0 - ((z8 - z10)))))] [vm_i x0] S9 Qp))))))))))) : lG lK_pairs 349 [some (vm_r o0), none, some (vm_i v2), some (vm_i v3), some (vm_i v4), none, none, none, none, none, some (vm_i v10), some (vm_i v11), some (vm_i v12), some (vm_i v13), none, none, none] [vm_i x0] S Qp := by
  refine lg_istore (k := 14) (l1 := [some (vm_r o0), none, some (vm_i v2), some (vm_i v3), some (vm_i v4), none, none, none, none, none, some (vm_i v10), some (vm_i v11), some (vm_i v12), some (vm_i v13), some (vm_i x0), none, none]) rfl rfl (by decide +kernel : decode method_11_code 349 = .ok (.istore 14, 2)) ?_
  refine lg_aload_n (k := 0) rfl rfl (by decide +kernel : decode method_11_code 351 = .ok (.aload_n 0, 1)) ?_
  refine lg_iload_n (k := 2) rfl rfl (by decide +kernel : decode method_11_code 352 = .ok (.iload_n 2, 1)) ?_
  refine lg_iload_n (k := 3) rfl rfl (by decide +kernel : decode method_11_code 353 = .ok (.iload_n 3, 1)) ?_
  refine lg_iload (k := 14) rfl (by decide +kernel : decode method_11_code 354 = .ok (.iload 14, 2)) ?_
  refine lg_N 107 [v2, v3, x0] (show lCls 107 3 = true by decide +kernel) (Nat.le_of_ble_eq_true rfl) (vm_hw_in (i := 1047) (by decide +kernel)) (by decide +kernel : decode method_11_code 356 = .ok (.invokevirtual 133, 3)) h (fun z2 S1 h => ?_)
  refine lg_istore (k := 15) (l1 := [some (vm_r o0), none, some (vm_i v2), some (vm_i v3), some (vm_i v4), none, none, none, none, none, some (vm_i v10), some (vm_i v11), some (vm_i v12), some (vm_i v13), some (vm_i x0), some (vm_i z2), none]) rfl rfl (by decide +kernel : decode method_11_code 359 = .ok (.istore 15, 2)) ?_
  refine lg_aload_n (k := 0) rfl rfl (by decide +kernel : decode method_11_code 361 = .ok (.aload_n 0, 1)) ?_
  refine lg_iload_n (k := 2) rfl rfl (by decide +kernel : decode method_11_code 362 = .ok (.iload_n 2, 1)) ?_
  refine lg_iload_n (k := 3) rfl rfl (by decide +kernel : decode method_11_code 363 = .ok (.iload_n 3, 1)) ?_
  refine lg_aload_n (k := 0) rfl rfl (by decide +kernel : decode method_11_code 364 = .ok (.aload_n 0, 1)) ?_
  refine lg_iload_n (k := 2) rfl rfl (by decide +kernel : decode method_11_code 365 = .ok (.iload_n 2, 1)) ?_
  refine lg_iload_n (k := 3) rfl rfl (by decide +kernel : decode method_11_code 366 = .ok (.iload_n 3, 1)) ?_
  refine lg_aload_n (k := 0) rfl rfl (by decide +kernel : decode method_11_code 367 = .ok (.aload_n 0, 1)) ?_
  refine lg_iconst (n := 3) (by decide) (by decide +kernel : decode method_11_code 368 = .ok (.iconst 3, 1)) ?_
  refine lg_N 115 [3] (show lCls 115 1 = true by decide +kernel) (Nat.le_of_ble_eq_true rfl) (vm_hw_in (i := 604) (by decide +kernel)) (by decide +kernel : decode method_11_code 369 = .ok (.invokevirtual 40, 3)) h (fun z4 S3 h => ?_)
  refine lg_N 119 [v2, v3, z4] (show lCls 119 3 = true by decide +kernel) (Nat.le_of_ble_eq_true rfl) (vm_hw_in (i := 1085) (by decide +kernel)) (by decide +kernel : decode method_11_code 372 = .ok (.invokevirtual 153, 3)) h (fun z6 S5 h => ?_)
  refine lg_bipush (n := 9) (by decide) (by decide) (by decide +kernel : decode method_11_code 375 = .ok (.bipush 9, 2)) ?_
  obtain ⟨h1, h⟩ := h
  refine lg_isub h1 (by decide +kernel : decode method_11_code 377 = .ok (.isub, 1)) ?_
  refine lg_N 118 [v2, v3, (z6 - 9)] (show lCls 118 3 = true by decide +kernel) (Nat.le_of_ble_eq_true rfl) (vm_hw_in (i := 1080) (by decide +kernel)) (by decide +kernel : decode method_11_code 378 = .ok (.invokevirtual 150, 3)) h (fun z8 S7 h => ?_)
  refine lg_aload_n (k := 0) rfl rfl (by decide +kernel : decode method_11_code 381 = .ok (.aload_n 0, 1)) ?_
  refine lg_iconst (n := 3) (by decide) (by decide +kernel : decode method_11_code 382 = .ok (.iconst 3, 1)) ?_
  refine lg_N 115 [3] (show lCls 115 1 = true by decide +kernel) (Nat.le_of_ble_eq_true rfl) (vm_hw_in (i := 604) (by decide +kernel)) (by decide +kernel : decode method_11_code 383 = .ok (.invokevirtual 40, 3)) h (fun z10 S9 h => ?_)
  obtain ⟨h1, h⟩ := h
  refine lg_isub h1 (by decide +kernel : decode method_11_code 386 = .ok (.isub, 1)) ?_
  obtain ⟨h1, h⟩ := h
  refine lg_abs (Nat.le_of_ble_eq_true rfl) h1 (vm_hw_in (i := 1107) (by decide +kernel)) (by decide +kernel : decode method_11_code 387 = .ok (.invokestatic 162, 3)) ?_
  refine lg_istore (k := 16) (l1 := [some (vm_r o0), none, some (vm_i v2), some (vm_i v3), some (vm_i v4), none, none, none, none, none, some (vm_i v10), some (vm_i v11), some (vm_i v12), some (vm_i v13), some (vm_i x0), some (vm_i z2), some (vm_i ((if 0 ≤ ((z8 - z10)) then ((z8 - z10)) else 0 - ((z8 - z10)))))]) rfl rfl (by decide +kernel : decode method_11_code 390 = .ok (.istore 16, 2)) ?_
  refine lg_iload (k := 16) rfl (by decide +kernel : decode method_11_code 392 = .ok (.iload 16, 2)) ?_
  refine lg_iload (k := 11) rfl (by decide +kernel : decode method_11_code 394 = .ok (.iload 11, 2)) ?_
  refine lg_icmp_ge (t := 404) (by decide +kernel : decode method_11_code 396 = .ok (.if_icmp .ge 8, 3)) (by decide) ⟨fun c => ?_, fun c => ?_⟩
  · replace h := h.1 c
    refine lg_iload (k := 12) rfl (by decide +kernel : decode method_11_code 404 = .ok (.iload 12, 2)) ?_
    exact lg_sub (ls := [some (vm_r o0), none, some (vm_i v2), some (vm_i v3), some (vm_i v4), none, none, none, none, none, some (vm_i v10), some (vm_i v11), none, some (vm_i v13), none, some (vm_i z2), some (vm_i ((if 0 ≤ ((z8 - z10)) then ((z8 - z10)) else 0 - ((z8 - z10)))))]) ⟨rfl, ⟨rfl, ⟨rfl, ⟨rfl, ⟨rfl, ⟨rfl, ⟨rfl, ⟨rfl, ⟨rfl, trivial⟩⟩⟩⟩⟩⟩⟩⟩⟩ h
  · replace h := h.2 c
    refine lg_iload (k := 14) rfl (by decide +kernel : decode method_11_code 399 = .ok (.iload 14, 2)) ?_
    refine lg_goto (t := 406) (by decide +kernel : decode method_11_code 401 = .ok (.goto 5, 3)) (by decide) ?_
    exact lg_sub (ls := [some (vm_r o0), none, some (vm_i v2), some (vm_i v3), some (vm_i v4), none, none, none, none, none, some (vm_i v10), some (vm_i v11), none, some (vm_i v13), none, some (vm_i z2), some (vm_i ((if 0 ≤ ((z8 - z10)) then ((z8 - z10)) else 0 - ((z8 - z10)))))]) ⟨rfl, ⟨rfl, ⟨rfl, ⟨rfl, ⟨rfl, ⟨rfl, ⟨rfl, ⟨rfl, ⟨rfl, trivial⟩⟩⟩⟩⟩⟩⟩⟩⟩ h
set_option maxHeartbeats 4000000 in
theorem rL_pairs_503 {S : lwS} {Qp : Option vm_V → lwS → Prop} {x0 : Int} {x1 : Int} (h : (¬ x1 = x0 → (Qp (some (vm_i 0)) S)) ∧ (¬ (¬ x1 = x0) → (Qp (some (vm_i 1)) S))) : lG lK_pairs 503 [none, none, none, none, none, none, none, none, none, none, none, none, none, none, none, none, none] [vm_i x0, vm_i x1] S Qp := by
  refine lg_icmp_ne (t := 510) (by decide +kernel : decode method_11_code 503 = .ok (.if_icmp .ne 7, 3)) (by decide) ⟨fun c => ?_, fun c => ?_⟩
  · replace h := h.1 c
    refine lg_iconst (n := 0) (by decide) (by decide +kernel : decode method_11_code 510 = .ok (.iconst 0, 1)) ?_
    exact lg_ret (Or.inl ⟨0, (by decide +kernel : decode method_11_code 511 = .ok (.ireturn, 1)), Or.inr ⟨rfl, by decide⟩, rfl, rfl⟩) h
  · replace h := h.2 c
    refine lg_iconst (n := 1) (by decide) (by decide +kernel : decode method_11_code 506 = .ok (.iconst 1, 1)) ?_
    refine lg_goto (t := 511) (by decide +kernel : decode method_11_code 507 = .ok (.goto 4, 3)) (by decide) ?_
    exact lg_ret (Or.inl ⟨1, (by decide +kernel : decode method_11_code 511 = .ok (.ireturn, 1)), Or.inr ⟨rfl, by decide⟩, rfl, rfl⟩) h
set_option maxHeartbeats 4000000 in
theorem rL_pairs_406 {S : lwS} {Qp : Option vm_V → lwS → Prop} {o0 : Nat} {v2 : Int} {v3 : Int} {v4 : Int} {v10 : Int} {v11 : Int} {v13 : Int} {v15 : Int} {v16 : Int} {x0 : Int} (h : (v15 = ((-2)) → (lG lK_pairs 436 [some (vm_r o0), none, some (vm_i v2), some (vm_i v3), some (vm_i v4), none, none, none, none, none, some (vm_i v10), some (vm_i ((if v16 < v11 then v16 else v11))), some (vm_i x0), some (vm_i v13), none, none, none] [vm_i 1] S Qp)) ∧ (¬ (v15 = ((-2))) → (lNn 113 o0 [] S (fun z2 S1 => (z2 < 0 → (lG lK_pairs 436 [some (vm_r o0), none, some (vm_i v2), some (vm_i v3), some (vm_i v4), none, none, none, none, none, some (vm_i v10), some (vm_i ((if v16 < v11 then v16 else v11))), some (vm_i x0), some (vm_i v13), none, none, none] [vm_i 0] S1 Qp)) ∧ (¬ (z2 < 0) → (lG lK_pairs 436 [some (vm_r o0), none, some (vm_i v2), some (vm_i v3), some (vm_i v4), none, none, none, none, none, some (vm_i v10), some (vm_i ((if v16 < v11 then v16 else v11))), some (vm_i x0), some (vm_i v13), none, none, none] [vm_i 1] S1 Qp)))))) : lG lK_pairs 406 [some (vm_r o0), none, some (vm_i v2), some (vm_i v3), some (vm_i v4), none, none, none, none, none, some (vm_i v10), some (vm_i v11), none, some (vm_i v13), none, some (vm_i v15), some (vm_i v16)] [vm_i x0] S Qp := by
  refine lg_istore (k := 12) (l1 := [some (vm_r o0), none, some (vm_i v2), some (vm_i v3), some (vm_i v4), none, none, none, none, none, some (vm_i v10), some (vm_i v11), some (vm_i x0), some (vm_i v13), none, some (vm_i v15), some (vm_i v16)]) rfl rfl (by decide +kernel : decode method_11_code 406 = .ok (.istore 12, 2)) ?_
  refine lg_iload (k := 11) rfl (by decide +kernel : decode method_11_code 408 = .ok (.iload 11, 2)) ?_
  refine lg_iload (k := 16) rfl (by decide +kernel : decode method_11_code 410 = .ok (.iload 16, 2)) ?_
  refine lg_min (Nat.le_of_ble_eq_true rfl) (vm_hw_in (i := 1108) (by decide +kernel)) (by decide +kernel : decode method_11_code 412 = .ok (.invokestatic 165, 3)) ?_
  refine lg_istore (k := 11) (l1 := [some (vm_r o0), none, some (vm_i v2), some (vm_i v3), some (vm_i v4), none, none, none, none, none, some (vm_i v10), some (vm_i ((if v16 < v11 then v16 else v11))), some (vm_i x0), some (vm_i v13), none, some (vm_i v15), some (vm_i v16)]) rfl rfl (by decide +kernel : decode method_11_code 415 = .ok (.istore 11, 2)) ?_
  refine lg_iload (k := 15) rfl (by decide +kernel : decode method_11_code 417 = .ok (.iload 15, 2)) ?_
  refine lg_bipush (n := (-2)) (by decide) (by decide) (by decide +kernel : decode method_11_code 419 = .ok (.bipush (-2), 2)) ?_
  refine lg_icmp_eq (t := 431) (by decide +kernel : decode method_11_code 421 = .ok (.if_icmp .eq 10, 3)) (by decide) ⟨fun c => ?_, fun c => ?_⟩
  · replace h := h.1 c
    refine lg_iconst (n := 1) (by decide) (by decide +kernel : decode method_11_code 431 = .ok (.iconst 1, 1)) ?_
    refine lg_goto (t := 436) (by decide +kernel : decode method_11_code 432 = .ok (.goto 4, 3)) (by decide) ?_
    exact lg_sub (ls := [some (vm_r o0), none, some (vm_i v2), some (vm_i v3), some (vm_i v4), none, none, none, none, none, some (vm_i v10), some (vm_i ((if v16 < v11 then v16 else v11))), some (vm_i x0), some (vm_i v13), none, none, none]) ⟨rfl, ⟨rfl, ⟨rfl, ⟨rfl, ⟨rfl, ⟨rfl, ⟨rfl, ⟨rfl, trivial⟩⟩⟩⟩⟩⟩⟩⟩ h
  · replace h := h.2 c
    refine lg_aload_n (k := 0) rfl rfl (by decide +kernel : decode method_11_code 424 = .ok (.aload_n 0, 1)) ?_
    refine lg_N 113 [] (show lCls 113 0 = true by decide +kernel) (Nat.le_of_ble_eq_true rfl) (vm_hw_in (i := 1109) (by decide +kernel)) (by decide +kernel : decode method_11_code 425 = .ok (.invokevirtual 168, 3)) h (fun z2 S1 h => ?_)
    refine lg_if_lt (t := 435) (by decide +kernel : decode method_11_code 428 = .ok (.ifCond .lt 7, 3)) (by decide) ⟨fun c => ?_, fun c => ?_⟩
    · replace h := h.1 c
      refine lg_iconst (n := 0) (by decide) (by decide +kernel : decode method_11_code 435 = .ok (.iconst 0, 1)) ?_
      exact lg_sub (ls := [some (vm_r o0), none, some (vm_i v2), some (vm_i v3), some (vm_i v4), none, none, none, none, none, some (vm_i v10), some (vm_i ((if v16 < v11 then v16 else v11))), some (vm_i x0), some (vm_i v13), none, none, none]) ⟨rfl, ⟨rfl, ⟨rfl, ⟨rfl, ⟨rfl, ⟨rfl, ⟨rfl, ⟨rfl, trivial⟩⟩⟩⟩⟩⟩⟩⟩ h
    · replace h := h.2 c
      refine lg_iconst (n := 1) (by decide) (by decide +kernel : decode method_11_code 431 = .ok (.iconst 1, 1)) ?_
      refine lg_goto (t := 436) (by decide +kernel : decode method_11_code 432 = .ok (.goto 4, 3)) (by decide) ?_
      exact lg_sub (ls := [some (vm_r o0), none, some (vm_i v2), some (vm_i v3), some (vm_i v4), none, none, none, none, none, some (vm_i v10), some (vm_i ((if v16 < v11 then v16 else v11))), some (vm_i x0), some (vm_i v13), none, none, none]) ⟨rfl, ⟨rfl, ⟨rfl, ⟨rfl, ⟨rfl, ⟨rfl, ⟨rfl, ⟨rfl, trivial⟩⟩⟩⟩⟩⟩⟩⟩ h
set_option maxHeartbeats 4000000 in
theorem rL_pairs_436 {S : lwS} {Qp : Option vm_V → lwS → Prop} {o0 : Nat} {v2 : Int} {v3 : Int} {v4 : Int} {v10 : Int} {v11 : Int} {v12 : Int} {v13 : Int} {x0 : Int} (h : (vm_32 (v13 + 1)) ∧ (lG lK_pairs 316 [some (vm_r o0), none, some (vm_i v2), some (vm_i v3), some (vm_i v4), some (vm_i x0), none, none, none, none, some (vm_i v10), some (vm_i v11), some (vm_i v12), some (vm_i ((v13 + 1))), none, none, none] [] S Qp)) : lG lK_pairs 436 [some (vm_r o0), none, some (vm_i v2), some (vm_i v3), some (vm_i v4), none, none, none, none, none, some (vm_i v10), some (vm_i v11), some (vm_i v12), some (vm_i v13), none, none, none] [vm_i x0] S Qp := by
  refine lg_istore (k := 5) (l1 := [some (vm_r o0), none, some (vm_i v2), some (vm_i v3), some (vm_i v4), some (vm_i x0), none, none, none, none, some (vm_i v10), some (vm_i v11), some (vm_i v12), some (vm_i v13), none, none, none]) rfl rfl (by decide +kernel : decode method_11_code 436 = .ok (.istore 5, 2)) ?_
  obtain ⟨h1, h⟩ := h
  refine lg_iinc (k := 13) (l1 := [some (vm_r o0), none, some (vm_i v2), some (vm_i v3), some (vm_i v4), some (vm_i x0), none, none, none, none, some (vm_i v10), some (vm_i v11), some (vm_i v12), some (vm_i ((v13 + 1))), none, none, none]) rfl rfl rfl h1 (by decide +kernel : decode method_11_code 438 = .ok (.iinc 13 1, 3)) ?_
  refine lg_goto (t := 316) (by decide +kernel : decode method_11_code 441 = .ok (.goto (-125), 3)) (by decide) ?_
  exact h
