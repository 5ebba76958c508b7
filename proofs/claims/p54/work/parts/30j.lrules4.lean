/-! ===== rules of the law (printed): stands ===== -/
set_option maxHeartbeats 4000000 in
theorem rL_stands_0 {S : lwS} {Qp : Option vm_V → lwS → Prop} {o0 : Nat} (h : lNn 115 o0 [12] S (fun z2 S1 => (0 < z2 → (lG lK_stands 32 [some (vm_r o0), some (vm_i z2), some (vm_i 0), some (vm_i 0), none, none, none, none, none, none, none, none, none, none, none, none, none, none, none, none, none, none, none, none] [vm_i 1] S1 Qp)) ∧ (¬ (0 < z2) → (lNn 115 o0 [11] S1 (fun z4 S3 => (¬ z4 = 0 → (lG lK_stands 32 [some (vm_r o0), some (vm_i z2), some (vm_i 0), some (vm_i 0), none, none, none, none, none, none, none, none, none, none, none, none, none, none, none, none, none, none, none, none] [vm_i 0] S3 Qp)) ∧ (¬ (¬ z4 = 0) → (lG lK_stands 32 [some (vm_r o0), some (vm_i z2), some (vm_i 0), some (vm_i 0), none, none, none, none, none, none, none, none, none, none, none, none, none, none, none, none, none, none, none, none] [vm_i 1] S3 Qp))))))) : lG lK_stands 0 [some (vm_r o0), none, none, none, none, none, none, none, none, none, none, none, none, none, none, none, none, none, none, none, none, none, none, none] [] S Qp := by
  refine lg_aload_n (k := 0) rfl rfl (by decide +kernel : decode method_12_code 0 = .ok (.aload_n 0, 1)) ?_
  refine lg_bipush (n := 12) (by decide) (by decide) (by decide +kernel : decode method_12_code 1 = .ok (.bipush 12, 2)) ?_
  refine lg_N 115 [12] (show lCls 115 1 = true by decide +kernel) (Nat.le_of_ble_eq_true rfl) (vm_hw_in (i := 604) (by decide +kernel)) (by decide +kernel : decode method_12_code 3 = .ok (.invokevirtual 40, 3)) h (fun z2 S1 h => ?_)
  refine lg_istore_n (k := 1) (l1 := [some (vm_r o0), some (vm_i z2), none, none, none, none, none, none, none, none, none, none, none, none, none, none, none, none, none, none, none, none, none, none]) rfl rfl rfl (by decide +kernel : decode method_12_code 6 = .ok (.istore_n 1, 1)) ?_
  refine lg_iconst (n := 0) (by decide) (by decide +kernel : decode method_12_code 7 = .ok (.iconst 0, 1)) ?_
  refine lg_istore_n (k := 2) (l1 := [some (vm_r o0), some (vm_i z2), some (vm_i 0), none, none, none, none, none, none, none, none, none, none, none, none, none, none, none, none, none, none, none, none, none]) rfl rfl rfl (by decide +kernel : decode method_12_code 8 = .ok (.istore_n 2, 1)) ?_
  refine lg_iconst (n := 0) (by decide) (by decide +kernel : decode method_12_code 9 = .ok (.iconst 0, 1)) ?_
  refine lg_istore_n (k := 3) (l1 := [some (vm_r o0), some (vm_i z2), some (vm_i 0), some (vm_i 0), none, none, none, none, none, none, none, none, none, none, none, none, none, none, none, none, none, none, none, none]) rfl rfl rfl (by decide +kernel : decode method_12_code 10 = .ok (.istore_n 3, 1)) ?_
  refine lg_iconst (n := (-1)) (by decide) (by decide +kernel : decode method_12_code 11 = .ok (.iconst (-1), 1)) ?_
  refine lg_istore (k := 4) (l1 := [some (vm_r o0), some (vm_i z2), some (vm_i 0), some (vm_i 0), some (vm_i ((-1))), none, none, none, none, none, none, none, none, none, none, none, none, none, none, none, none, none, none, none]) rfl rfl (by decide +kernel : decode method_12_code 12 = .ok (.istore 4, 2)) ?_
  refine lg_iload_n (k := 1) rfl rfl (by decide +kernel : decode method_12_code 14 = .ok (.iload_n 1, 1)) ?_
  refine lg_if_gt (t := 27) (by decide +kernel : decode method_12_code 15 = .ok (.ifCond .gt 12, 3)) (by decide) ⟨fun c => ?_, fun c => ?_⟩
  · replace h := h.1 c
    refine lg_iconst (n := 1) (by decide) (by decide +kernel : decode method_12_code 27 = .ok (.iconst 1, 1)) ?_
    refine lg_goto (t := 32) (by decide +kernel : decode method_12_code 28 = .ok (.goto 4, 3)) (by decide) ?_
    exact lg_sub (ls := [some (vm_r o0), some (vm_i z2), some (vm_i 0), some (vm_i 0), none, none, none, none, none, none, none, none, none, none, none, none, none, none, none, none, none, none, none, none]) ⟨rfl, ⟨rfl, ⟨rfl, ⟨rfl, trivial⟩⟩⟩⟩ h
  · replace h := h.2 c
    refine lg_aload_n (k := 0) rfl rfl (by decide +kernel : decode method_12_code 18 = .ok (.aload_n 0, 1)) ?_
    refine lg_bipush (n := 11) (by decide) (by decide) (by decide +kernel : decode method_12_code 19 = .ok (.bipush 11, 2)) ?_
    refine lg_N 115 [11] (show lCls 115 1 = true by decide +kernel) (Nat.le_of_ble_eq_true rfl) (vm_hw_in (i := 604) (by decide +kernel)) (by decide +kernel : decode method_12_code 21 = .ok (.invokevirtual 40, 3)) h (fun z4 S3 h => ?_)
    refine lg_if_ne (t := 31) (by decide +kernel : decode method_12_code 24 = .ok (.ifCond .ne 7, 3)) (by decide) ⟨fun c => ?_, fun c => ?_⟩
    · replace h := h.1 c
      refine lg_iconst (n := 0) (by decide) (by decide +kernel : decode method_12_code 31 = .ok (.iconst 0, 1)) ?_
      exact lg_sub (ls := [some (vm_r o0), some (vm_i z2), some (vm_i 0), some (vm_i 0), none, none, none, none, none, none, none, none, none, none, none, none, none, none, none, none, none, none, none, none]) ⟨rfl, ⟨rfl, ⟨rfl, ⟨rfl, trivial⟩⟩⟩⟩ h
    · replace h := h.2 c
      refine lg_iconst (n := 1) (by decide) (by decide +kernel : decode method_12_code 27 = .ok (.iconst 1, 1)) ?_
      refine lg_goto (t := 32) (by decide +kernel : decode method_12_code 28 = .ok (.goto 4, 3)) (by decide) ?_
      exact lg_sub (ls := [some (vm_r o0), some (vm_i z2), some (vm_i 0), some (vm_i 0), none, none, none, none, none, none, none, none, none, none, none, none, none, none, none, none, none, none, none, none]) ⟨rfl, ⟨rfl, ⟨rfl, ⟨rfl, trivial⟩⟩⟩⟩ h
set_option maxHeartbeats 4000000 in
theorem rL_stands_32 {S : lwS} {Qp : Option vm_V → lwS → Prop} {o0 : Nat} {v1 : Int} {v2 : Int} {v3 : Int} {x0 : Int} (h : (12 < v1 → (lG lK_stands 45 [some (vm_r o0), some (vm_i v1), some (vm_i v2), some (vm_i v3), none, some (vm_i x0), none, none, none, none, none, none, none, none, none, none, none, none, none, none, none, none, none, none] [vm_i 0] S Qp)) ∧ (¬ (12 < v1) → (lG lK_stands 45 [some (vm_r o0), some (vm_i v1), some (vm_i v2), some (vm_i v3), none, some (vm_i x0), none, none, none, none, none, none, none, none, none, none, none, none, none, none, none, none, none, none] [vm_i 1] S Qp))) : lG lK_stands 32 [some (vm_r o0), some (vm_i v1), some (vm_i v2), some (vm_i v3), none, none, none, none, none, none, none, none, none, none, none, none, none, none, none, none, none, none, none, none] [vm_i x0] S Qp := by
  refine lg_istore (k := 5) (l1 := [some (vm_r o0), some (vm_i v1), some (vm_i v2), some (vm_i v3), none, some (vm_i x0), none, none, none, none, none, none, none, none, none, none, none, none, none, none, none, none, none, none]) rfl rfl (by decide +kernel : decode method_12_code 32 = .ok (.istore 5, 2)) ?_
  refine lg_iload_n (k := 1) rfl rfl (by decide +kernel : decode method_12_code 34 = .ok (.iload_n 1, 1)) ?_
  refine lg_bipush (n := 12) (by decide) (by decide) (by decide +kernel : decode method_12_code 35 = .ok (.bipush 12, 2)) ?_
  refine lg_icmp_gt (t := 44) (by decide +kernel : decode method_12_code 37 = .ok (.if_icmp .gt 7, 3)) (by decide) ⟨fun c => ?_, fun c => ?_⟩
  · replace h := h.1 c
    refine lg_iconst (n := 0) (by decide) (by decide +kernel : decode method_12_code 44 = .ok (.iconst 0, 1)) ?_
    exact h
  · replace h := h.2 c
    refine lg_iconst (n := 1) (by decide) (by decide +kernel : decode method_12_code 40 = .ok (.iconst 1, 1)) ?_
    refine lg_goto (t := 45) (by decide +kernel : decode method_12_code 41 = .ok (.goto 4, 3)) (by decide) ?_
    exact h
set_option maxHeartbeats 4000000 in
theorem rL_stands_45 {S : lwS} {Qp : Option vm_V → lwS → Prop} {o0 : Nat} {v1 : Int} {v2 : Int} {v3 : Int} {v5 : Int} {x0 : Int} (h : lG lK_stands 59 [some (vm_r o0), some (vm_i v1), some (vm_i v2), some (vm_i v3), none, some (vm_i v5), some (vm_i x0), some (vm_l 0), none, some (vm_d 0), none, some (vm_i 0), some (vm_i 0), none, none, none, none, none, none, none, none, none, none, none] [] S Qp) : lG lK_stands 45 [some (vm_r o0), some (vm_i v1), some (vm_i v2), some (vm_i v3), none, some (vm_i v5), none, none, none, none, none, none, none, none, none, none, none, none, none, none, none, none, none, none] [vm_i x0] S Qp := by
  refine lg_istore (k := 6) (l1 := [some (vm_r o0), some (vm_i v1), some (vm_i v2), some (vm_i v3), none, some (vm_i v5), some (vm_i x0), none, none, none, none, none, none, none, none, none, none, none, none, none, none, none, none, none]) rfl rfl (by decide +kernel : decode method_12_code 45 = .ok (.istore 6, 2)) ?_
  refine lg_lconst (n := 0) (by decide) (by decide) (by decide +kernel : decode method_12_code 47 = .ok (.lconst 0, 1)) ?_
  refine lg_lstore (k := 7) (l1 := [some (vm_r o0), some (vm_i v1), some (vm_i v2), some (vm_i v3), none, some (vm_i v5), some (vm_i x0), some (vm_l 0), none, none, none, none, none, none, none, none, none, none, none, none, none, none, none, none]) rfl rfl (by decide +kernel : decode method_12_code 48 = .ok (.lstore 7, 2)) ?_
  refine lg_dconst (by decide) (by decide +kernel : decode method_12_code 50 = .ok (.dconst 0, 1)) ?_
  refine lg_dstore (k := 9) (l1 := [some (vm_r o0), some (vm_i v1), some (vm_i v2), some (vm_i v3), none, some (vm_i v5), some (vm_i x0), some (vm_l 0), none, some (vm_d 0), none, none, none, none, none, none, none, none, none, none, none, none, none, none]) rfl rfl (by decide +kernel : decode method_12_code 51 = .ok (.dstore 9, 2)) ?_
  refine lg_iconst (n := 0) (by decide) (by decide +kernel : decode method_12_code 53 = .ok (.iconst 0, 1)) ?_
  refine lg_istore (k := 11) (l1 := [some (vm_r o0), some (vm_i v1), some (vm_i v2), some (vm_i v3), none, some (vm_i v5), some (vm_i x0), some (vm_l 0), none, some (vm_d 0), none, some (vm_i 0), none, none, none, none, none, none, none, none, none, none, none, none]) rfl rfl (by decide +kernel : decode method_12_code 54 = .ok (.istore 11, 2)) ?_
  refine lg_iconst (n := 0) (by decide) (by decide +kernel : decode method_12_code 56 = .ok (.iconst 0, 1)) ?_
  refine lg_istore (k := 12) (l1 := [some (vm_r o0), some (vm_i v1), some (vm_i v2), some (vm_i v3), none, some (vm_i v5), some (vm_i x0), some (vm_l 0), none, some (vm_d 0), none, some (vm_i 0), some (vm_i 0), none, none, none, none, none, none, none, none, none, none, none]) rfl rfl (by decide +kernel : decode method_12_code 57 = .ok (.istore 12, 2)) ?_
  exact h
set_option maxHeartbeats 4000000 in
theorem rL_stands_59 {S : lwS} {Qp : Option vm_V → lwS → Prop} {o0 : Nat} {v1 : Int} {v2 : Int} {v3 : Int} {v5 : Int} {v6 : Int} {w7 : Int} {e9 : UInt64} {v11 : Int} {v12 : Int} (h : (v1 ≤ v12 → (lG lK_stands 885 [some (vm_r o0), some (vm_i v1), some (vm_i v2), some (vm_i v3), none, some (vm_i v5), some (vm_i v6), some (vm_l w7), none, some (vm_d e9), none, some (vm_i v11), none, none, none, none, none, none, none, none, none, none, none, none] [] S Qp)) ∧ (¬ (v1 ≤ v12) → ((v6 = 0 → (lG lK_stands 885 [some (vm_r o0), some (vm_i v1), some (vm_i v2), some (vm_i v3), none, some (vm_i v5), some (vm_i v6), some (vm_l w7), none, some (vm_d e9), none, some (vm_i v11), none, none, none, none, none, none, none, none, none, none, none, none] [] S Qp)) ∧ (¬ (v6 = 0) → (lNn 128 o0 [v12, 1] S (fun z2 S1 => lNn 128 o0 [v12, 3] S1 (fun z4 S3 => lNn 128 o0 [v12, 4] S3 (fun z6 S5 => lNn 115 o0 [0] S5 (fun z8 S7 => (z2 ≤ 0 → (lG lK_stands 248 [some (vm_r o0), some (vm_i v1), some (vm_i v2), some (vm_i v3), none, some (vm_i v5), none, some (vm_l w7), none, some (vm_d e9), none, some (vm_i v11), some (vm_i v12), some (vm_i z2), some (vm_i z4), some (vm_i z6), some (vm_i z8), none, none, none, none, none, none, none] [vm_i 0] S7 Qp)) ∧ (¬ (z2 ≤ 0) → (lNn 128 o0 [v12, 0] S7 (fun z10 S9 => (¬ z10 = v2 → (lG lK_stands 248 [some (vm_r o0), some (vm_i v1), some (vm_i v2), some (vm_i v3), none, some (vm_i v5), none, some (vm_l w7), none, some (vm_d e9), none, some (vm_i v11), some (vm_i v12), some (vm_i z2), some (vm_i z4), some (vm_i z6), some (vm_i z8), none, none, none, none, none, none, none] [vm_i 0] S9 Qp)) ∧ (¬ (¬ z10 = v2) → (lNn 128 o0 [v12, 6] S9 (fun z12 S11 => (vm_32 (z8 - z6)) ∧ ((¬ z12 = ((if 0 < ((z8 - z6)) then ((z8 - z6)) else 0)) → (lG lK_stands 248 [some (vm_r o0), some (vm_i v1), some (vm_i v2), some (vm_i v3), none, some (vm_i v5), none, some (vm_l w7), none, some (vm_d e9), none, some (vm_i v11), some (vm_i v12), some (vm_i z2), some (vm_i z4), some (vm_i z6), some (vm_i z8), none, none, none, none, none, none, none] [vm_i 0] S11 Qp)) ∧ (¬ (¬ z12 = ((if 0 < ((z8 - z6)) then ((z8 - z6)) else 0))) → (lNn 128 o0 [v12, 5] S11 (fun z14 S13 => (vm_32 (z8 - z6)) ∧ (((0 : Int) ≤ ((if 0 < ((z8 - z6)) then ((z8 - z6)) else 0)) ∧ (0 : Int) < 2) ∧ ((¬ z14 = ((((if 0 < ((z8 - z6)) then ((z8 - z6)) else 0)) / 2)) → (lG lK_stands 248 [some (vm_r o0), some (vm_i v1), some (vm_i v2), some (vm_i v3), none, some (vm_i v5), none, some (vm_l w7), none, some (vm_d e9), none, some (vm_i v11), some (vm_i v12), some (vm_i z2), some (vm_i z4), some (vm_i z6), some (vm_i z8), none, none, none, none, none, none, none] [vm_i 0] S13 Qp)) ∧ (¬ (¬ z14 = ((((if 0 < ((z8 - z6)) then ((z8 - z6)) else 0)) / 2))) → (lNn 130 o0 [v12, 0] S13 (fun z16 S15 => lNn 128 o0 [v12, 5] S15 (fun z18 S17 => (vm_32 (z18 + 1000)) ∧ ((¬ z16 = ((z18 + 1000)) → (lG lK_stands 248 [some (vm_r o0), some (vm_i v1), some (vm_i v2), some (vm_i v3), none, some (vm_i v5), none, some (vm_l w7), none, some (vm_d e9), none, some (vm_i v11), some (vm_i v12), some (vm_i z2), some (vm_i z4), some (vm_i z6), some (vm_i z8), none, none, none, none, none, none, none] [vm_i 0] S17 Qp)) ∧ (¬ (¬ z16 = ((z18 + 1000))) → (lNf 150 o0 [v12] S17 (fun z20 S19 => (vf_n32 (FP.fdiv ((FP.i2f (Int32.ofInt z6))) ((FP.i2f (Int32.ofInt z8))))) ∧ ((¬ ((Op.cmpValue (FP.fcmp z20 ((FP.fdiv ((FP.i2f (Int32.ofInt z6))) ((FP.i2f (Int32.ofInt z8)))))) .l).toInt) = 0 → (lG lK_stands 248 [some (vm_r o0), some (vm_i v1), some (vm_i v2), some (vm_i v3), none, some (vm_i v5), none, some (vm_l w7), none, some (vm_d e9), none, some (vm_i v11), some (vm_i v12), some (vm_i z2), some (vm_i z4), some (vm_i z6), some (vm_i z8), none, none, none, none, none, none, none] [vm_i 0] S19 Qp)) ∧ (¬ (¬ ((Op.cmpValue (FP.fcmp z20 ((FP.fdiv ((FP.i2f (Int32.ofInt z6))) ((FP.i2f (Int32.ofInt z8)))))) .l).toInt) = 0) → (lNn 115 o0 [3] S19 (fun z22 S21 => (z4 < z22 → (lG lK_stands 248 [some (vm_r o0), some (vm_i v1), some (vm_i v2), some (vm_i v3), none, some (vm_i v5), none, some (vm_l w7), none, some (vm_d e9), none, some (vm_i v11), some (vm_i v12), some (vm_i z2), some (vm_i z4), some (vm_i z6), some (vm_i z8), none, none, none, none, none, none, none] [vm_i 0] S21 Qp)) ∧ (¬ (z4 < z22) → (lNn 115 o0 [8] S21 (fun z24 S23 => (¬ z24 = 1 → (lNn 115 o0 [3] S23 (fun z26 S25 => (¬ z4 = z26 → (lG lK_stands 248 [some (vm_r o0), some (vm_i v1), some (vm_i v2), some (vm_i v3), none, some (vm_i v5), none, some (vm_l w7), none, some (vm_d e9), none, some (vm_i v11), some (vm_i v12), some (vm_i z2), some (vm_i z4), some (vm_i z6), some (vm_i z8), none, none, none, none, none, none, none] [vm_i 0] S25 Qp)) ∧ (¬ (¬ z4 = z26) → (lG lK_stands 248 [some (vm_r o0), some (vm_i v1), some (vm_i v2), some (vm_i v3), none, some (vm_i v5), none, some (vm_l w7), none, some (vm_d e9), none, some (vm_i v11), some (vm_i v12), some (vm_i z2), some (vm_i z4), some (vm_i z6), some (vm_i z8), none, none, none, none, none, none, none] [vm_i 1] S25 Qp))))) ∧ (¬ (¬ z24 = 1) → (lNn 145 o0 [v12] S23 (fun z28 S27 => (¬ z4 = z28 → (lG lK_stands 248 [some (vm_r o0), some (vm_i v1), some (vm_i v2), some (vm_i v3), none, some (vm_i v5), none, some (vm_l w7), none, some (vm_d e9), none, some (vm_i v11), some (vm_i v12), some (vm_i z2), some (vm_i z4), some (vm_i z6), some (vm_i z8), none, none, none, none, none, none, none] [vm_i 0] S27 Qp)) ∧ (¬ (¬ z4 = z28) → (lG lK_stands 248 [some (vm_r o0), some (vm_i v1), some (vm_i v2), some (vm_i v3), none, some (vm_i v5), none, some (vm_l w7), none, some (vm_d e9), none, some (vm_i v11), some (vm_i v12), some (vm_i z2), some (vm_i z4), some (vm_i z6), some (vm_i z8), none, none, none, none, none, none, none] [vm_i 1] S27 Qp))))))))))))))))))))))))))))))))))))))))) : lG lK_stands 59 [some (vm_r o0), some (vm_i v1), some (vm_i v2), some (vm_i v3), none, some (vm_i v5), some (vm_i v6), some (vm_l w7), none, some (vm_d e9), none, some (vm_i v11), some (vm_i v12), none, none, none, none, none, none, none, none, none, none, none] [] S Qp := by
  refine lg_iload (k := 12) rfl (by decide +kernel : decode method_12_code 59 = .ok (.iload 12, 2)) ?_
  refine lg_iload_n (k := 1) rfl rfl (by decide +kernel : decode method_12_code 61 = .ok (.iload_n 1, 1)) ?_
  refine lg_icmp_ge (t := 885) (by decide +kernel : decode method_12_code 62 = .ok (.if_icmp .ge 823, 3)) (by decide) ⟨fun c => ?_, fun c => ?_⟩
  · replace h := h.1 c
    exact lg_sub (ls := [some (vm_r o0), some (vm_i v1), some (vm_i v2), some (vm_i v3), none, some (vm_i v5), some (vm_i v6), some (vm_l w7), none, some (vm_d e9), none, some (vm_i v11), none, none, none, none, none, none, none, none, none, none, none, none]) ⟨rfl, ⟨rfl, ⟨rfl, ⟨rfl, ⟨rfl, ⟨rfl, ⟨rfl, ⟨rfl, ⟨rfl, trivial⟩⟩⟩⟩⟩⟩⟩⟩⟩ h
  · replace h := h.2 c
    refine lg_iload (k := 6) rfl (by decide +kernel : decode method_12_code 65 = .ok (.iload 6, 2)) ?_
    refine lg_if_eq (t := 885) (by decide +kernel : decode method_12_code 67 = .ok (.ifCond .eq 818, 3)) (by decide) ⟨fun c => ?_, fun c => ?_⟩
    · replace h := h.1 c
      exact lg_sub (ls := [some (vm_r o0), some (vm_i v1), some (vm_i v2), some (vm_i v3), none, some (vm_i v5), some (vm_i v6), some (vm_l w7), none, some (vm_d e9), none, some (vm_i v11), none, none, none, none, none, none, none, none, none, none, none, none]) ⟨rfl, ⟨rfl, ⟨rfl, ⟨rfl, ⟨rfl, ⟨rfl, ⟨rfl, ⟨rfl, ⟨rfl, trivial⟩⟩⟩⟩⟩⟩⟩⟩⟩ h
    · replace h := h.2 c
      refine lg_aload_n (k := 0) rfl rfl (by decide +kernel : decode method_12_code 70 = .ok (.aload_n 0, 1)) ?_
      refine lg_iload (k := 12) rfl (by decide +kernel : decode method_12_code 71 = .ok (.iload 12, 2)) ?_
      refine lg_iconst (n := 1) (by decide) (by decide +kernel : decode method_12_code 73 = .ok (.iconst 1, 1)) ?_
      refine lg_N 128 [v12, 1] (show lCls 128 2 = true by decide +kernel) (Nat.le_of_ble_eq_true rfl) (vm_hw_in (i := 1136) (by decide +kernel)) (by decide +kernel : decode method_12_code 74 = .ok (.invokevirtual 174, 3)) h (fun z2 S1 h => ?_)
      refine lg_istore (k := 13) (l1 := [some (vm_r o0), some (vm_i v1), some (vm_i v2), some (vm_i v3), none, some (vm_i v5), some (vm_i v6), some (vm_l w7), none, some (vm_d e9), none, some (vm_i v11), some (vm_i v12), some (vm_i z2), none, none, none, none, none, none, none, none, none, none]) rfl rfl (by decide +kernel : decode method_12_code 77 = .ok (.istore 13, 2)) ?_
      refine lg_aload_n (k := 0) rfl rfl (by decide +kernel : decode method_12_code 79 = .ok (.aload_n 0, 1)) ?_
      refine lg_iload (k := 12) rfl (by decide +kernel : decode method_12_code 80 = .ok (.iload 12, 2)) ?_
      refine lg_iconst (n := 3) (by decide) (by decide +kernel : decode method_12_code 82 = .ok (.iconst 3, 1)) ?_
      refine lg_N 128 [v12, 3] (show lCls 128 2 = true by decide +kernel) (Nat.le_of_ble_eq_true rfl) (vm_hw_in (i := 1136) (by decide +kernel)) (by decide +kernel : decode method_12_code 83 = .ok (.invokevirtual 174, 3)) h (fun z4 S3 h => ?_)
      refine lg_istore (k := 14) (l1 := [some (vm_r o0), some (vm_i v1), some (vm_i v2), some (vm_i v3), none, some (vm_i v5), some (vm_i v6), some (vm_l w7), none, some (vm_d e9), none, some (vm_i v11), some (vm_i v12), some (vm_i z2), some (vm_i z4), none, none, none, none, none, none, none, none, none]) rfl rfl (by decide +kernel : decode method_12_code 86 = .ok (.istore 14, 2)) ?_
      refine lg_aload_n (k := 0) rfl rfl (by decide +kernel : decode method_12_code 88 = .ok (.aload_n 0, 1)) ?_
      refine lg_iload (k := 12) rfl (by decide +kernel : decode method_12_code 89 = .ok (.iload 12, 2)) ?_
      refine lg_iconst (n := 4) (by decide) (by decide +kernel : decode method_12_code 91 = .ok (.iconst 4, 1)) ?_
      refine lg_N 128 [v12, 4] (show lCls 128 2 = true by decide +kernel) (Nat.le_of_ble_eq_true rfl) (vm_hw_in (i := 1136) (by decide +kernel)) (by decide +kernel : decode method_12_code 92 = .ok (.invokevirtual 174, 3)) h (fun z6 S5 h => ?_)
      refine lg_istore (k := 15) (l1 := [some (vm_r o0), some (vm_i v1), some (vm_i v2), some (vm_i v3), none, some (vm_i v5), some (vm_i v6), some (vm_l w7), none, some (vm_d e9), none, some (vm_i v11), some (vm_i v12), some (vm_i z2), some (vm_i z4), some (vm_i z6), none, none, none, none, none, none, none, none]) rfl rfl (by decide +kernel : decode method_12_code 95 = .ok (.istore 15, 2)) ?_
      refine lg_aload_n (k := 0) rfl rfl (by decide +kernel : decode method_12_code 97 = .ok (.aload_n 0, 1)) ?_
      refine lg_iconst (n := 0) (by decide) (by decide +kernel : decode method_12_code 98 = .ok (.iconst 0, 1)) ?_
      refine lg_N 115 [0] (show lCls 115 1 = true by decide +kernel) (Nat.le_of_ble_eq_true rfl) (vm_hw_in (i := 604) (by decide +kernel)) (by decide +kernel : decode method_12_code 99 = .ok (.invokevirtual 40, 3)) h (fun z8 S7 h => ?_)
      refine lg_istore (k := 16) (l1 := [some (vm_r o0), some (vm_i v1), some (vm_i v2), some (vm_i v3), none, some (vm_i v5), some (vm_i v6), some (vm_l w7), none, some (vm_d e9), none, some (vm_i v11), some (vm_i v12), some (vm_i z2), some (vm_i z4), some (vm_i z6), some (vm_i z8), none, none, none, none, none, none, none]) rfl rfl (by decide +kernel : decode method_12_code 102 = .ok (.istore 16, 2)) ?_
      refine lg_iload (k := 13) rfl (by decide +kernel : decode method_12_code 104 = .ok (.iload 13, 2)) ?_
      refine lg_if_le (t := 247) (by decide +kernel : decode method_12_code 106 = .ok (.ifCond .le 141, 3)) (by decide) ⟨fun c => ?_, fun c => ?_⟩
      · replace h := h.1 c
        refine lg_iconst (n := 0) (by decide) (by decide +kernel : decode method_12_code 247 = .ok (.iconst 0, 1)) ?_
        exact lg_sub (ls := [some (vm_r o0), some (vm_i v1), some (vm_i v2), some (vm_i v3), none, some (vm_i v5), none, some (vm_l w7), none, some (vm_d e9), none, some (vm_i v11), some (vm_i v12), some (vm_i z2), some (vm_i z4), some (vm_i z6), some (vm_i z8), none, none, none, none, none, none, none]) ⟨rfl, ⟨rfl, ⟨rfl, ⟨rfl, ⟨rfl, ⟨rfl, ⟨rfl, ⟨rfl, ⟨rfl, ⟨rfl, ⟨rfl, ⟨rfl, ⟨rfl, trivial⟩⟩⟩⟩⟩⟩⟩⟩⟩⟩⟩⟩⟩ h
      · replace h := h.2 c
        refine lg_aload_n (k := 0) rfl rfl (by decide +kernel : decode method_12_code 109 = .ok (.aload_n 0, 1)) ?_
        refine lg_iload (k := 12) rfl (by decide +kernel : decode method_12_code 110 = .ok (.iload 12, 2)) ?_
        refine lg_iconst (n := 0) (by decide) (by decide +kernel : decode method_12_code 112 = .ok (.iconst 0, 1)) ?_
        refine lg_N 128 [v12, 0] (show lCls 128 2 = true by decide +kernel) (Nat.le_of_ble_eq_true rfl) (vm_hw_in (i := 1136) (by decide +kernel)) (by decide +kernel : decode method_12_code 113 = .ok (.invokevirtual 174, 3)) h (fun z10 S9 h => ?_)
        refine lg_iload_n (k := 2) rfl rfl (by decide +kernel : decode method_12_code 116 = .ok (.iload_n 2, 1)) ?_
        refine lg_icmp_ne (t := 247) (by decide +kernel : decode method_12_code 117 = .ok (.if_icmp .ne 130, 3)) (by decide) ⟨fun c => ?_, fun c => ?_⟩
        · replace h := h.1 c
          refine lg_iconst (n := 0) (by decide) (by decide +kernel : decode method_12_code 247 = .ok (.iconst 0, 1)) ?_
          exact lg_sub (ls := [some (vm_r o0), some (vm_i v1), some (vm_i v2), some (vm_i v3), none, some (vm_i v5), none, some (vm_l w7), none, some (vm_d e9), none, some (vm_i v11), some (vm_i v12), some (vm_i z2), some (vm_i z4), some (vm_i z6), some (vm_i z8), none, none, none, none, none, none, none]) ⟨rfl, ⟨rfl, ⟨rfl, ⟨rfl, ⟨rfl, ⟨rfl, ⟨rfl, ⟨rfl, ⟨rfl, ⟨rfl, ⟨rfl, ⟨rfl, ⟨rfl, trivial⟩⟩⟩⟩⟩⟩⟩⟩⟩⟩⟩⟩⟩ h
        · replace h := h.2 c
          refine lg_aload_n (k := 0) rfl rfl (by decide +kernel : decode method_12_code 120 = .ok (.aload_n 0, 1)) ?_
          refine lg_iload (k := 12) rfl (by decide +kernel : decode method_12_code 121 = .ok (.iload 12, 2)) ?_
          refine lg_bipush (n := 6) (by decide) (by decide) (by decide +kernel : decode method_12_code 123 = .ok (.bipush 6, 2)) ?_
          refine lg_N 128 [v12, 6] (show lCls 128 2 = true by decide +kernel) (Nat.le_of_ble_eq_true rfl) (vm_hw_in (i := 1136) (by decide +kernel)) (by decide +kernel : decode method_12_code 125 = .ok (.invokevirtual 174, 3)) h (fun z12 S11 h => ?_)
          refine lg_iconst (n := 0) (by decide) (by decide +kernel : decode method_12_code 128 = .ok (.iconst 0, 1)) ?_
          refine lg_iload (k := 16) rfl (by decide +kernel : decode method_12_code 129 = .ok (.iload 16, 2)) ?_
          refine lg_iload (k := 15) rfl (by decide +kernel : decode method_12_code 131 = .ok (.iload 15, 2)) ?_
          obtain ⟨h1, h⟩ := h
          refine lg_isub h1 (by decide +kernel : decode method_12_code 133 = .ok (.isub, 1)) ?_
          refine lg_max (Nat.le_of_ble_eq_true rfl) (vm_hw_in (i := 1040) (by decide +kernel)) (by decide +kernel : decode method_12_code 134 = .ok (.invokestatic 124, 3)) ?_
          refine lg_icmp_ne (t := 247) (by decide +kernel : decode method_12_code 137 = .ok (.if_icmp .ne 110, 3)) (by decide) ⟨fun c => ?_, fun c => ?_⟩
          · replace h := h.1 c
            refine lg_iconst (n := 0) (by decide) (by decide +kernel : decode method_12_code 247 = .ok (.iconst 0, 1)) ?_
            exact lg_sub (ls := [some (vm_r o0), some (vm_i v1), some (vm_i v2), some (vm_i v3), none, some (vm_i v5), none, some (vm_l w7), none, some (vm_d e9), none, some (vm_i v11), some (vm_i v12), some (vm_i z2), some (vm_i z4), some (vm_i z6), some (vm_i z8), none, none, none, none, none, none, none]) ⟨rfl, ⟨rfl, ⟨rfl, ⟨rfl, ⟨rfl, ⟨rfl, ⟨rfl, ⟨rfl, ⟨rfl, ⟨rfl, ⟨rfl, ⟨rfl, ⟨rfl, trivial⟩⟩⟩⟩⟩⟩⟩⟩⟩⟩⟩⟩⟩ h
          · replace h := h.2 c
            refine lg_aload_n (k := 0) rfl rfl (by decide +kernel : decode method_12_code 140 = .ok (.aload_n 0, 1)) ?_
            refine lg_iload (k := 12) rfl (by decide +kernel : decode method_12_code 141 = .ok (.iload 12, 2)) ?_
            refine lg_iconst (n := 5) (by decide) (by decide +kernel : decode method_12_code 143 = .ok (.iconst 5, 1)) ?_
            refine lg_N 128 [v12, 5] (show lCls 128 2 = true by decide +kernel) (Nat.le_of_ble_eq_true rfl) (vm_hw_in (i := 1136) (by decide +kernel)) (by decide +kernel : decode method_12_code 144 = .ok (.invokevirtual 174, 3)) h (fun z14 S13 h => ?_)
            refine lg_iconst (n := 0) (by decide) (by decide +kernel : decode method_12_code 147 = .ok (.iconst 0, 1)) ?_
            refine lg_iload (k := 16) rfl (by decide +kernel : decode method_12_code 148 = .ok (.iload 16, 2)) ?_
            refine lg_iload (k := 15) rfl (by decide +kernel : decode method_12_code 150 = .ok (.iload 15, 2)) ?_
            obtain ⟨h1, h⟩ := h
            refine lg_isub h1 (by decide +kernel : decode method_12_code 152 = .ok (.isub, 1)) ?_
            refine lg_max (Nat.le_of_ble_eq_true rfl) (vm_hw_in (i := 1040) (by decide +kernel)) (by decide +kernel : decode method_12_code 153 = .ok (.invokestatic 124, 3)) ?_
            refine lg_iconst (n := 2) (by decide) (by decide +kernel : decode method_12_code 156 = .ok (.iconst 2, 1)) ?_
            obtain ⟨h1, h⟩ := h
            refine lg_idiv h1 (by decide +kernel : decode method_12_code 157 = .ok (.idiv, 1)) ?_
            refine lg_icmp_ne (t := 247) (by decide +kernel : decode method_12_code 158 = .ok (.if_icmp .ne 89, 3)) (by decide) ⟨fun c => ?_, fun c => ?_⟩
            · replace h := h.1 c
              refine lg_iconst (n := 0) (by decide) (by decide +kernel : decode method_12_code 247 = .ok (.iconst 0, 1)) ?_
              exact lg_sub (ls := [some (vm_r o0), some (vm_i v1), some (vm_i v2), some (vm_i v3), none, some (vm_i v5), none, some (vm_l w7), none, some (vm_d e9), none, some (vm_i v11), some (vm_i v12), some (vm_i z2), some (vm_i z4), some (vm_i z6), some (vm_i z8), none, none, none, none, none, none, none]) ⟨rfl, ⟨rfl, ⟨rfl, ⟨rfl, ⟨rfl, ⟨rfl, ⟨rfl, ⟨rfl, ⟨rfl, ⟨rfl, ⟨rfl, ⟨rfl, ⟨rfl, trivial⟩⟩⟩⟩⟩⟩⟩⟩⟩⟩⟩⟩⟩ h
            · replace h := h.2 c
              refine lg_aload_n (k := 0) rfl rfl (by decide +kernel : decode method_12_code 161 = .ok (.aload_n 0, 1)) ?_
              refine lg_iload (k := 12) rfl (by decide +kernel : decode method_12_code 162 = .ok (.iload 12, 2)) ?_
              refine lg_iconst (n := 0) (by decide) (by decide +kernel : decode method_12_code 164 = .ok (.iconst 0, 1)) ?_
              refine lg_N 130 [v12, 0] (show lCls 130 2 = true by decide +kernel) (Nat.le_of_ble_eq_true rfl) (vm_hw_in (i := 1151) (by decide +kernel)) (by decide +kernel : decode method_12_code 165 = .ok (.invokevirtual 177, 3)) h (fun z16 S15 h => ?_)
              refine lg_aload_n (k := 0) rfl rfl (by decide +kernel : decode method_12_code 168 = .ok (.aload_n 0, 1)) ?_
              refine lg_iload (k := 12) rfl (by decide +kernel : decode method_12_code 169 = .ok (.iload 12, 2)) ?_
              refine lg_iconst (n := 5) (by decide) (by decide +kernel : decode method_12_code 171 = .ok (.iconst 5, 1)) ?_
              refine lg_N 128 [v12, 5] (show lCls 128 2 = true by decide +kernel) (Nat.le_of_ble_eq_true rfl) (vm_hw_in (i := 1136) (by decide +kernel)) (by decide +kernel : decode method_12_code 172 = .ok (.invokevirtual 174, 3)) h (fun z18 S17 h => ?_)
              refine lg_sipush (n := 1000) (by decide) (by decide) (by decide +kernel : decode method_12_code 175 = .ok (.sipush 1000, 3)) ?_
              obtain ⟨h1, h⟩ := h
              refine lg_iadd h1 (by decide +kernel : decode method_12_code 178 = .ok (.iadd, 1)) ?_
              refine lg_icmp_ne (t := 247) (by decide +kernel : decode method_12_code 179 = .ok (.if_icmp .ne 68, 3)) (by decide) ⟨fun c => ?_, fun c => ?_⟩
              · replace h := h.1 c
                refine lg_iconst (n := 0) (by decide) (by decide +kernel : decode method_12_code 247 = .ok (.iconst 0, 1)) ?_
                exact lg_sub (ls := [some (vm_r o0), some (vm_i v1), some (vm_i v2), some (vm_i v3), none, some (vm_i v5), none, some (vm_l w7), none, some (vm_d e9), none, some (vm_i v11), some (vm_i v12), some (vm_i z2), some (vm_i z4), some (vm_i z6), some (vm_i z8), none, none, none, none, none, none, none]) ⟨rfl, ⟨rfl, ⟨rfl, ⟨rfl, ⟨rfl, ⟨rfl, ⟨rfl, ⟨rfl, ⟨rfl, ⟨rfl, ⟨rfl, ⟨rfl, ⟨rfl, trivial⟩⟩⟩⟩⟩⟩⟩⟩⟩⟩⟩⟩⟩ h
              · replace h := h.2 c
                refine lg_aload_n (k := 0) rfl rfl (by decide +kernel : decode method_12_code 182 = .ok (.aload_n 0, 1)) ?_
                refine lg_iload (k := 12) rfl (by decide +kernel : decode method_12_code 183 = .ok (.iload 12, 2)) ?_
                refine lg_Nf 150 [v12] (show lCls 150 1 = true by decide +kernel) (Nat.le_of_ble_eq_true rfl) (vm_hw_in (i := 1159) (by decide +kernel)) (by decide +kernel : decode method_12_code 185 = .ok (.invokevirtual 180, 3)) h (fun z20 S19 h => ?_)
                refine lg_iload (k := 15) rfl (by decide +kernel : decode method_12_code 188 = .ok (.iload 15, 2)) ?_
                refine lg_i2f (by decide +kernel : decode method_12_code 190 = .ok (.i2f, 1)) ?_
                refine lg_iload (k := 16) rfl (by decide +kernel : decode method_12_code 191 = .ok (.iload 16, 2)) ?_
                refine lg_i2f (by decide +kernel : decode method_12_code 193 = .ok (.i2f, 1)) ?_
                obtain ⟨h1, h⟩ := h
                refine lg_fdiv h1 (by decide +kernel : decode method_12_code 194 = .ok (.fdiv, 1)) ?_
                refine lg_fcmp (by decide +kernel : decode method_12_code 195 = .ok (.fcmp .l, 1)) ?_
                refine lg_if_ne (t := 247) (by decide +kernel : decode method_12_code 196 = .ok (.ifCond .ne 51, 3)) (by decide) ⟨fun c => ?_, fun c => ?_⟩
                · replace h := h.1 c
                  refine lg_iconst (n := 0) (by decide) (by decide +kernel : decode method_12_code 247 = .ok (.iconst 0, 1)) ?_
                  exact lg_sub (ls := [some (vm_r o0), some (vm_i v1), some (vm_i v2), some (vm_i v3), none, some (vm_i v5), none, some (vm_l w7), none, some (vm_d e9), none, some (vm_i v11), some (vm_i v12), some (vm_i z2), some (vm_i z4), some (vm_i z6), some (vm_i z8), none, none, none, none, none, none, none]) ⟨rfl, ⟨rfl, ⟨rfl, ⟨rfl, ⟨rfl, ⟨rfl, ⟨rfl, ⟨rfl, ⟨rfl, ⟨rfl, ⟨rfl, ⟨rfl, ⟨rfl, trivial⟩⟩⟩⟩⟩⟩⟩⟩⟩⟩⟩⟩⟩ h
                · replace h := h.2 c
                  refine lg_iload (k := 14) rfl (by decide +kernel : decode method_12_code 199 = .ok (.iload 14, 2)) ?_
                  refine lg_aload_n (k := 0) rfl rfl (by decide +kernel : decode method_12_code 201 = .ok (.aload_n 0, 1)) ?_
                  refine lg_iconst (n := 3) (by decide) (by decide +kernel : decode method_12_code 202 = .ok (.iconst 3, 1)) ?_
                  refine lg_N 115 [3] (show lCls 115 1 = true by decide +kernel) (Nat.le_of_ble_eq_true rfl) (vm_hw_in (i := 604) (by decide +kernel)) (by decide +kernel : decode method_12_code 203 = .ok (.invokevirtual 40, 3)) h (fun z22 S21 h => ?_)
                  refine lg_icmp_lt (t := 247) (by decide +kernel : decode method_12_code 206 = .ok (.if_icmp .lt 41, 3)) (by decide) ⟨fun c => ?_, fun c => ?_⟩
                  · replace h := h.1 c
                    refine lg_iconst (n := 0) (by decide) (by decide +kernel : decode method_12_code 247 = .ok (.iconst 0, 1)) ?_
                    exact lg_sub (ls := [some (vm_r o0), some (vm_i v1), some (vm_i v2), some (vm_i v3), none, some (vm_i v5), none, some (vm_l w7), none, some (vm_d e9), none, some (vm_i v11), some (vm_i v12), some (vm_i z2), some (vm_i z4), some (vm_i z6), some (vm_i z8), none, none, none, none, none, none, none]) ⟨rfl, ⟨rfl, ⟨rfl, ⟨rfl, ⟨rfl, ⟨rfl, ⟨rfl, ⟨rfl, ⟨rfl, ⟨rfl, ⟨rfl, ⟨rfl, ⟨rfl, trivial⟩⟩⟩⟩⟩⟩⟩⟩⟩⟩⟩⟩⟩ h
                  · replace h := h.2 c
                    refine lg_aload_n (k := 0) rfl rfl (by decide +kernel : decode method_12_code 209 = .ok (.aload_n 0, 1)) ?_
                    refine lg_bipush (n := 8) (by decide) (by decide) (by decide +kernel : decode method_12_code 210 = .ok (.bipush 8, 2)) ?_
                    refine lg_N 115 [8] (show lCls 115 1 = true by decide +kernel) (Nat.le_of_ble_eq_true rfl) (vm_hw_in (i := 604) (by decide +kernel)) (by decide +kernel : decode method_12_code 212 = .ok (.invokevirtual 40, 3)) h (fun z24 S23 h => ?_)
                    refine lg_iconst (n := 1) (by decide) (by decide +kernel : decode method_12_code 215 = .ok (.iconst 1, 1)) ?_
                    refine lg_icmp_ne (t := 233) (by decide +kernel : decode method_12_code 216 = .ok (.if_icmp .ne 17, 3)) (by decide) ⟨fun c => ?_, fun c => ?_⟩
                    · replace h := h.1 c
                      refine lg_iload (k := 14) rfl (by decide +kernel : decode method_12_code 233 = .ok (.iload 14, 2)) ?_
                      refine lg_aload_n (k := 0) rfl rfl (by decide +kernel : decode method_12_code 235 = .ok (.aload_n 0, 1)) ?_
                      refine lg_iconst (n := 3) (by decide) (by decide +kernel : decode method_12_code 236 = .ok (.iconst 3, 1)) ?_
                      refine lg_N 115 [3] (show lCls 115 1 = true by decide +kernel) (Nat.le_of_ble_eq_true rfl) (vm_hw_in (i := 604) (by decide +kernel)) (by decide +kernel : decode method_12_code 237 = .ok (.invokevirtual 40, 3)) h (fun z26 S25 h => ?_)
                      refine lg_icmp_ne (t := 247) (by decide +kernel : decode method_12_code 240 = .ok (.if_icmp .ne 7, 3)) (by decide) ⟨fun c => ?_, fun c => ?_⟩
                      · replace h := h.1 c
                        refine lg_iconst (n := 0) (by decide) (by decide +kernel : decode method_12_code 247 = .ok (.iconst 0, 1)) ?_
                        exact lg_sub (ls := [some (vm_r o0), some (vm_i v1), some (vm_i v2), some (vm_i v3), none, some (vm_i v5), none, some (vm_l w7), none, some (vm_d e9), none, some (vm_i v11), some (vm_i v12), some (vm_i z2), some (vm_i z4), some (vm_i z6), some (vm_i z8), none, none, none, none, none, none, none]) ⟨rfl, ⟨rfl, ⟨rfl, ⟨rfl, ⟨rfl, ⟨rfl, ⟨rfl, ⟨rfl, ⟨rfl, ⟨rfl, ⟨rfl, ⟨rfl, ⟨rfl, trivial⟩⟩⟩⟩⟩⟩⟩⟩⟩⟩⟩⟩⟩ h
                      · replace h := h.2 c
                        refine lg_iconst (n := 1) (by decide) (by decide +kernel : decode method_12_code 243 = .ok (.iconst 1, 1)) ?_
                        refine lg_goto (t := 248) (by decide +kernel : decode method_12_code 244 = .ok (.goto 4, 3)) (by decide) ?_
                        exact lg_sub (ls := [some (vm_r o0), some (vm_i v1), some (vm_i v2), some (vm_i v3), none, some (vm_i v5), none, some (vm_l w7), none, some (vm_d e9), none, some (vm_i v11), some (vm_i v12), some (vm_i z2), some (vm_i z4), some (vm_i z6), some (vm_i z8), none, none, none, none, none, none, none]) ⟨rfl, ⟨rfl, ⟨rfl, ⟨rfl, ⟨rfl, ⟨rfl, ⟨rfl, ⟨rfl, ⟨rfl, ⟨rfl, ⟨rfl, ⟨rfl, ⟨rfl, trivial⟩⟩⟩⟩⟩⟩⟩⟩⟩⟩⟩⟩⟩ h
                    · replace h := h.2 c
                      refine lg_iload (k := 14) rfl (by decide +kernel : decode method_12_code 219 = .ok (.iload 14, 2)) ?_
                      refine lg_aload_n (k := 0) rfl rfl (by decide +kernel : decode method_12_code 221 = .ok (.aload_n 0, 1)) ?_
                      refine lg_iload (k := 12) rfl (by decide +kernel : decode method_12_code 222 = .ok (.iload 12, 2)) ?_
                      refine lg_N 145 [v12] (show lCls 145 1 = true by decide +kernel) (Nat.le_of_ble_eq_true rfl) (vm_hw_in (i := 1164) (by decide +kernel)) (by decide +kernel : decode method_12_code 224 = .ok (.invokevirtual 184, 3)) h (fun z28 S27 h => ?_)
                      refine lg_icmp_ne (t := 247) (by decide +kernel : decode method_12_code 227 = .ok (.if_icmp .ne 20, 3)) (by decide) ⟨fun c => ?_, fun c => ?_⟩
                      · replace h := h.1 c
                        refine lg_iconst (n := 0) (by decide) (by decide +kernel : decode method_12_code 247 = .ok (.iconst 0, 1)) ?_
                        exact lg_sub (ls := [some (vm_r o0), some (vm_i v1), some (vm_i v2), some (vm_i v3), none, some (vm_i v5), none, some (vm_l w7), none, some (vm_d e9), none, some (vm_i v11), some (vm_i v12), some (vm_i z2), some (vm_i z4), some (vm_i z6), some (vm_i z8), none, none, none, none, none, none, none]) ⟨rfl, ⟨rfl, ⟨rfl, ⟨rfl, ⟨rfl, ⟨rfl, ⟨rfl, ⟨rfl, ⟨rfl, ⟨rfl, ⟨rfl, ⟨rfl, ⟨rfl, trivial⟩⟩⟩⟩⟩⟩⟩⟩⟩⟩⟩⟩⟩ h
                      · replace h := h.2 c
                        refine lg_goto (t := 243) (by decide +kernel : decode method_12_code 230 = .ok (.goto 13, 3)) (by decide) ?_
                        refine lg_iconst (n := 1) (by decide) (by decide +kernel : decode method_12_code 243 = .ok (.iconst 1, 1)) ?_
                        refine lg_goto (t := 248) (by decide +kernel : decode method_12_code 244 = .ok (.goto 4, 3)) (by decide) ?_
                        exact lg_sub (ls := [some (vm_r o0), some (vm_i v1), some (vm_i v2), some (vm_i v3), none, some (vm_i v5), none, some (vm_l w7), none, some (vm_d e9), none, some (vm_i v11), some (vm_i v12), some (vm_i z2), some (vm_i z4), some (vm_i z6), some (vm_i z8), none, none, none, none, none, none, none]) ⟨rfl, ⟨rfl, ⟨rfl, ⟨rfl, ⟨rfl, ⟨rfl, ⟨rfl, ⟨rfl, ⟨rfl, ⟨rfl, ⟨rfl, ⟨rfl, ⟨rfl, trivial⟩⟩⟩⟩⟩⟩⟩⟩⟩⟩⟩⟩⟩ h
set_option maxHeartbeats 4000000 in
theorem rL_stands_885 {S : lwS} {Qp : Option vm_V → lwS → Prop} {o0 : Nat} {v1 : Int} {v2 : Int} {v3 : Int} {v5 : Int} {v6 : Int} {w7 : Int} {e9 : UInt64} {v11 : Int} (h : (v5 = 0 → (lG lK_stands 904 [some (vm_r o0), some (vm_i v1), some (vm_i v2), some (vm_i v3), none, none, some (vm_i v6), some (vm_l w7), none, some (vm_d e9), none, some (vm_i v11), none, none, none, none, none, none, none, none, none, none, none, none] [vm_i 0] S Qp)) ∧ (¬ (v5 = 0) → (lNn 115 o0 [1] S (fun z2 S1 => (z2 < v3 → (lG lK_stands 904 [some (vm_r o0), some (vm_i v1), some (vm_i v2), some (vm_i v3), none, none, some (vm_i v6), some (vm_l w7), none, some (vm_d e9), none, some (vm_i v11), none, none, none, none, none, none, none, none, none, none, none, none] [vm_i 0] S1 Qp)) ∧ (¬ (z2 < v3) → (lG lK_stands 904 [some (vm_r o0), some (vm_i v1), some (vm_i v2), some (vm_i v3), none, none, some (vm_i v6), some (vm_l w7), none, some (vm_d e9), none, some (vm_i v11), none, none, none, none, none, none, none, none, none, none, none, none] [vm_i 1] S1 Qp)))))) : lG lK_stands 885 [some (vm_r o0), some (vm_i v1), some (vm_i v2), some (vm_i v3), none, some (vm_i v5), some (vm_i v6), some (vm_l w7), none, some (vm_d e9), none, some (vm_i v11), none, none, none, none, none, none, none, none, none, none, none, none] [] S Qp := by
  refine lg_iload (k := 5) rfl (by decide +kernel : decode method_12_code 885 = .ok (.iload 5, 2)) ?_
  refine lg_if_eq (t := 903) (by decide +kernel : decode method_12_code 887 = .ok (.ifCond .eq 16, 3)) (by decide) ⟨fun c => ?_, fun c => ?_⟩
  · replace h := h.1 c
    refine lg_iconst (n := 0) (by decide) (by decide +kernel : decode method_12_code 903 = .ok (.iconst 0, 1)) ?_
    exact lg_sub (ls := [some (vm_r o0), some (vm_i v1), some (vm_i v2), some (vm_i v3), none, none, some (vm_i v6), some (vm_l w7), none, some (vm_d e9), none, some (vm_i v11), none, none, none, none, none, none, none, none, none, none, none, none]) ⟨rfl, ⟨rfl, ⟨rfl, ⟨rfl, ⟨rfl, ⟨rfl, ⟨rfl, ⟨rfl, trivial⟩⟩⟩⟩⟩⟩⟩⟩ h
  · replace h := h.2 c
    refine lg_iload_n (k := 3) rfl rfl (by decide +kernel : decode method_12_code 890 = .ok (.iload_n 3, 1)) ?_
    refine lg_aload_n (k := 0) rfl rfl (by decide +kernel : decode method_12_code 891 = .ok (.aload_n 0, 1)) ?_
    refine lg_iconst (n := 1) (by decide) (by decide +kernel : decode method_12_code 892 = .ok (.iconst 1, 1)) ?_
    refine lg_N 115 [1] (show lCls 115 1 = true by decide +kernel) (Nat.le_of_ble_eq_true rfl) (vm_hw_in (i := 604) (by decide +kernel)) (by decide +kernel : decode method_12_code 893 = .ok (.invokevirtual 40, 3)) h (fun z2 S1 h => ?_)
    refine lg_icmp_gt (t := 903) (by decide +kernel : decode method_12_code 896 = .ok (.if_icmp .gt 7, 3)) (by decide) ⟨fun c => ?_, fun c => ?_⟩
    · replace h := h.1 c
      refine lg_iconst (n := 0) (by decide) (by decide +kernel : decode method_12_code 903 = .ok (.iconst 0, 1)) ?_
      exact lg_sub (ls := [some (vm_r o0), some (vm_i v1), some (vm_i v2), some (vm_i v3), none, none, some (vm_i v6), some (vm_l w7), none, some (vm_d e9), none, some (vm_i v11), none, none, none, none, none, none, none, none, none, none, none, none]) ⟨rfl, ⟨rfl, ⟨rfl, ⟨rfl, ⟨rfl, ⟨rfl, ⟨rfl, ⟨rfl, trivial⟩⟩⟩⟩⟩⟩⟩⟩ h
    · replace h := h.2 c
      refine lg_iconst (n := 1) (by decide) (by decide +kernel : decode method_12_code 899 = .ok (.iconst 1, 1)) ?_
      refine lg_goto (t := 904) (by decide +kernel : decode method_12_code 900 = .ok (.goto 4, 3)) (by decide) ?_
      exact lg_sub (ls := [some (vm_r o0), some (vm_i v1), some (vm_i v2), some (vm_i v3), none, none, some (vm_i v6), some (vm_l w7), none, some (vm_d e9), none, some (vm_i v11), none, none, none, none, none, none, none, none, none, none, none, none]) ⟨rfl, ⟨rfl, ⟨rfl, ⟨rfl, ⟨rfl, ⟨rfl, ⟨rfl, ⟨rfl, trivial⟩⟩⟩⟩⟩⟩⟩⟩ h
set_option maxHeartbeats 4000000 in
theorem rL_stands_248 {S : lwS} {Qp : Option vm_V → lwS → Prop} {o0 : Nat} {v1 : Int} {v2 : Int} {v3 : Int} {v5 : Int} {w7 : Int} {e9 : UInt64} {v11 : Int} {v12 : Int} {v13 : Int} {v14 : Int} {v15 : Int} {v16 : Int} {x0 : Int} (h : lNn 115 o0 [4] S (fun z2 S1 => (vm_32 (v13 - 1)) ∧ ((vm_32 (z2 * ((v13 - 1)))) ∧ (lNn 115 o0 [5] S1 (fun z4 S3 => (vm_32 (((z2 * ((v13 - 1)))) * z4)) ∧ (lG lK_stands 271 [some (vm_r o0), some (vm_i v1), some (vm_i v2), some (vm_i v3), none, some (vm_i v5), some (vm_i x0), some (vm_l w7), none, some (vm_d e9), none, some (vm_i v11), some (vm_i v12), some (vm_i v13), some (vm_i v14), some (vm_i v15), some (vm_i v16), some (vm_i ((((z2 * ((v13 - 1)))) * z4))), some (vm_i v2), none, none, none, none, none] [] S3 Qp)))))) : lG lK_stands 248 [some (vm_r o0), some (vm_i v1), some (vm_i v2), some (vm_i v3), none, some (vm_i v5), none, some (vm_l w7), none, some (vm_d e9), none, some (vm_i v11), some (vm_i v12), some (vm_i v13), some (vm_i v14), some (vm_i v15), some (vm_i v16), none, none, none, none, none, none, none] [vm_i x0] S Qp := by
  refine lg_istore (k := 6) (l1 := [some (vm_r o0), some (vm_i v1), some (vm_i v2), some (vm_i v3), none, some (vm_i v5), some (vm_i x0), some (vm_l w7), none, some (vm_d e9), none, some (vm_i v11), some (vm_i v12), some (vm_i v13), some (vm_i v14), some (vm_i v15), some (vm_i v16), none, none, none, none, none, none, none]) rfl rfl (by decide +kernel : decode method_12_code 248 = .ok (.istore 6, 2)) ?_
  refine lg_aload_n (k := 0) rfl rfl (by decide +kernel : decode method_12_code 250 = .ok (.aload_n 0, 1)) ?_
  refine lg_iconst (n := 4) (by decide) (by decide +kernel : decode method_12_code 251 = .ok (.iconst 4, 1)) ?_
  refine lg_N 115 [4] (show lCls 115 1 = true by decide +kernel) (Nat.le_of_ble_eq_true rfl) (vm_hw_in (i := 604) (by decide +kernel)) (by decide +kernel : decode method_12_code 252 = .ok (.invokevirtual 40, 3)) h (fun z2 S1 h => ?_)
  refine lg_iload (k := 13) rfl (by decide +kernel : decode method_12_code 255 = .ok (.iload 13, 2)) ?_
  refine lg_iconst (n := 1) (by decide) (by decide +kernel : decode method_12_code 257 = .ok (.iconst 1, 1)) ?_
  obtain ⟨h1, h⟩ := h
  refine lg_isub h1 (by decide +kernel : decode method_12_code 258 = .ok (.isub, 1)) ?_
  obtain ⟨h1, h⟩ := h
  refine lg_imul h1 (by decide +kernel : decode method_12_code 259 = .ok (.imul, 1)) ?_
  refine lg_aload_n (k := 0) rfl rfl (by decide +kernel : decode method_12_code 260 = .ok (.aload_n 0, 1)) ?_
  refine lg_iconst (n := 5) (by decide) (by decide +kernel : decode method_12_code 261 = .ok (.iconst 5, 1)) ?_
  refine lg_N 115 [5] (show lCls 115 1 = true by decide +kernel) (Nat.le_of_ble_eq_true rfl) (vm_hw_in (i := 604) (by decide +kernel)) (by decide +kernel : decode method_12_code 262 = .ok (.invokevirtual 40, 3)) h (fun z4 S3 h => ?_)
  obtain ⟨h1, h⟩ := h
  refine lg_imul h1 (by decide +kernel : decode method_12_code 265 = .ok (.imul, 1)) ?_
  refine lg_istore (k := 17) (l1 := [some (vm_r o0), some (vm_i v1), some (vm_i v2), some (vm_i v3), none, some (vm_i v5), some (vm_i x0), some (vm_l w7), none, some (vm_d e9), none, some (vm_i v11), some (vm_i v12), some (vm_i v13), some (vm_i v14), some (vm_i v15), some (vm_i v16), some (vm_i ((((z2 * ((v13 - 1)))) * z4))), none, none, none, none, none, none]) rfl rfl (by decide +kernel : decode method_12_code 266 = .ok (.istore 17, 2)) ?_
  refine lg_iload_n (k := 2) rfl rfl (by decide +kernel : decode method_12_code 268 = .ok (.iload_n 2, 1)) ?_
  refine lg_istore (k := 18) (l1 := [some (vm_r o0), some (vm_i v1), some (vm_i v2), some (vm_i v3), none, some (vm_i v5), some (vm_i x0), some (vm_l w7), none, some (vm_d e9), none, some (vm_i v11), some (vm_i v12), some (vm_i v13), some (vm_i v14), some (vm_i v15), some (vm_i v16), some (vm_i ((((z2 * ((v13 - 1)))) * z4))), some (vm_i v2), none, none, none, none, none]) rfl rfl (by decide +kernel : decode method_12_code 269 = .ok (.istore 18, 2)) ?_
  exact h
set_option maxHeartbeats 4000000 in
theorem rL_stands_904 {S : lwS} {Qp : Option vm_V → lwS → Prop} {o0 : Nat} {v1 : Int} {v2 : Int} {v3 : Int} {v6 : Int} {w7 : Int} {e9 : UInt64} {v11 : Int} {x0 : Int} (h : (v6 = 0 → (Qp (some (vm_i 0)) S)) ∧ (¬ (v6 = 0) → ((v1 = 0 → (lG lK_stands 925 [some (vm_r o0), some (vm_i v1), none, some (vm_i v3), none, some (vm_i x0), none, some (vm_l w7), none, some (vm_d e9), none, some (vm_i v11), none, none, none, none, none, none, none, none, none, none, none, none] [] S Qp)) ∧ (¬ (v1 = 0) → (lNn 115 o0 [11] S (fun z2 S1 => (¬ v2 = z2 → (Qp (some (vm_i 0)) S1)) ∧ (¬ (¬ v2 = z2) → (lG lK_stands 925 [some (vm_r o0), some (vm_i v1), none, some (vm_i v3), none, some (vm_i x0), none, some (vm_l w7), none, some (vm_d e9), none, some (vm_i v11), none, none, none, none, none, none, none, none, none, none, none, none] [] S1 Qp)))))))) : lG lK_stands 904 [some (vm_r o0), some (vm_i v1), some (vm_i v2), some (vm_i v3), none, none, some (vm_i v6), some (vm_l w7), none, some (vm_d e9), none, some (vm_i v11), none, none, none, none, none, none, none, none, none, none, none, none] [vm_i x0] S Qp := by
  refine lg_istore (k := 5) (l1 := [some (vm_r o0), some (vm_i v1), some (vm_i v2), some (vm_i v3), none, some (vm_i x0), some (vm_i v6), some (vm_l w7), none, some (vm_d e9), none, some (vm_i v11), none, none, none, none, none, none, none, none, none, none, none, none]) rfl rfl (by decide +kernel : decode method_12_code 904 = .ok (.istore 5, 2)) ?_
  refine lg_iload (k := 6) rfl (by decide +kernel : decode method_12_code 906 = .ok (.iload 6, 2)) ?_
  refine lg_if_eq (t := 1044) (by decide +kernel : decode method_12_code 908 = .ok (.ifCond .eq 136, 3)) (by decide) ⟨fun c => ?_, fun c => ?_⟩
  · replace h := h.1 c
    refine lg_iconst (n := 0) (by decide) (by decide +kernel : decode method_12_code 1044 = .ok (.iconst 0, 1)) ?_
    exact lg_ret (Or.inl ⟨0, (by decide +kernel : decode method_12_code 1045 = .ok (.ireturn, 1)), Or.inr ⟨rfl, by decide⟩, rfl, rfl⟩) h
  · replace h := h.2 c
    refine lg_iload_n (k := 1) rfl rfl (by decide +kernel : decode method_12_code 911 = .ok (.iload_n 1, 1)) ?_
    refine lg_if_eq (t := 925) (by decide +kernel : decode method_12_code 912 = .ok (.ifCond .eq 13, 3)) (by decide) ⟨fun c => ?_, fun c => ?_⟩
    · replace h := h.1 c
      exact lg_sub (ls := [some (vm_r o0), some (vm_i v1), none, some (vm_i v3), none, some (vm_i x0), none, some (vm_l w7), none, some (vm_d e9), none, some (vm_i v11), none, none, none, none, none, none, none, none, none, none, none, none]) ⟨rfl, ⟨rfl, ⟨rfl, ⟨rfl, ⟨rfl, ⟨rfl, ⟨rfl, trivial⟩⟩⟩⟩⟩⟩⟩ h
    · replace h := h.2 c
      refine lg_iload_n (k := 2) rfl rfl (by decide +kernel : decode method_12_code 915 = .ok (.iload_n 2, 1)) ?_
      refine lg_aload_n (k := 0) rfl rfl (by decide +kernel : decode method_12_code 916 = .ok (.aload_n 0, 1)) ?_
      refine lg_bipush (n := 11) (by decide) (by decide) (by decide +kernel : decode method_12_code 917 = .ok (.bipush 11, 2)) ?_
      refine lg_N 115 [11] (show lCls 115 1 = true by decide +kernel) (Nat.le_of_ble_eq_true rfl) (vm_hw_in (i := 604) (by decide +kernel)) (by decide +kernel : decode method_12_code 919 = .ok (.invokevirtual 40, 3)) h (fun z2 S1 h => ?_)
      refine lg_icmp_ne (t := 1044) (by decide +kernel : decode method_12_code 922 = .ok (.if_icmp .ne 122, 3)) (by decide) ⟨fun c => ?_, fun c => ?_⟩
      · replace h := h.1 c
        refine lg_iconst (n := 0) (by decide) (by decide +kernel : decode method_12_code 1044 = .ok (.iconst 0, 1)) ?_
        exact lg_ret (Or.inl ⟨0, (by decide +kernel : decode method_12_code 1045 = .ok (.ireturn, 1)), Or.inr ⟨rfl, by decide⟩, rfl, rfl⟩) h
      · replace h := h.2 c
        exact lg_sub (ls := [some (vm_r o0), some (vm_i v1), none, some (vm_i v3), none, some (vm_i x0), none, some (vm_l w7), none, some (vm_d e9), none, some (vm_i v11), none, none, none, none, none, none, none, none, none, none, none, none]) ⟨rfl, ⟨rfl, ⟨rfl, ⟨rfl, ⟨rfl, ⟨rfl, ⟨rfl, trivial⟩⟩⟩⟩⟩⟩⟩ h
set_option maxHeartbeats 4000000 in
theorem rL_stands_271 {S : lwS} {Qp : Option vm_V → lwS → Prop} {o0 : Nat} {v1 : Int} {v2 : Int} {v3 : Int} {v5 : Int} {v6 : Int} {w7 : Int} {e9 : UInt64} {v11 : Int} {v12 : Int} {v13 : Int} {v14 : Int} {v15 : Int} {v16 : Int} {v17 : Int} {v18 : Int} (h : (vm_32 (v2 + v13)) ∧ ((((v2 + v13)) ≤ v18 → (lG lK_stands 336 [some (vm_r o0), some (vm_i v1), some (vm_i v2), some (vm_i v3), none, some (vm_i v5), some (vm_i v6), some (vm_l w7), none, some (vm_d e9), none, some (vm_i v11), some (vm_i v12), some (vm_i v13), some (vm_i v14), some (vm_i v15), some (vm_i v16), some (vm_i v17), none, none, none, none, none, none] [] S Qp)) ∧ (¬ (((v2 + v13)) ≤ v18) → ((v6 = 0 → (lG lK_stands 336 [some (vm_r o0), some (vm_i v1), some (vm_i v2), some (vm_i v3), none, some (vm_i v5), some (vm_i v6), some (vm_l w7), none, some (vm_d e9), none, some (vm_i v11), some (vm_i v12), some (vm_i v13), some (vm_i v14), some (vm_i v15), some (vm_i v16), some (vm_i v17), none, none, none, none, none, none] [] S Qp)) ∧ (¬ (v6 = 0) → (lNn 125 o0 [v18, 1] S (fun z2 S1 => (vm_32 (v17 + z2)) ∧ (lNn 125 o0 [v18, 2] S1 (fun z4 S3 => (¬ z4 = v12 → (lG lK_stands 328 [some (vm_r o0), some (vm_i v1), some (vm_i v2), some (vm_i v3), none, some (vm_i v5), none, some (vm_l w7), none, some (vm_d e9), none, some (vm_i v11), some (vm_i v12), some (vm_i v13), some (vm_i v14), some (vm_i v15), some (vm_i v16), some (vm_i ((v17 + z2))), some (vm_i v18), none, none, none, none, none] [vm_i 0] S3 Qp)) ∧ (¬ (¬ z4 = v12) → (lNn 125 o0 [v18, 3] S3 (fun z6 S5 => (vm_32 (v18 - v2)) ∧ ((¬ z6 = ((v18 - v2)) → (lG lK_stands 328 [some (vm_r o0), some (vm_i v1), some (vm_i v2), some (vm_i v3), none, some (vm_i v5), none, some (vm_l w7), none, some (vm_d e9), none, some (vm_i v11), some (vm_i v12), some (vm_i v13), some (vm_i v14), some (vm_i v15), some (vm_i v16), some (vm_i ((v17 + z2))), some (vm_i v18), none, none, none, none, none] [vm_i 0] S5 Qp)) ∧ (¬ (¬ z6 = ((v18 - v2))) → (lG lK_stands 328 [some (vm_r o0), some (vm_i v1), some (vm_i v2), some (vm_i v3), none, some (vm_i v5), none, some (vm_l w7), none, some (vm_d e9), none, some (vm_i v11), some (vm_i v12), some (vm_i v13), some (vm_i v14), some (vm_i v15), some (vm_i v16), some (vm_i ((v17 + z2))), some (vm_i v18), none, none, none, none, none] [vm_i 1] S5 Qp))))))))))))))) : lG lK_stands 271 [some (vm_r o0), some (vm_i v1), some (vm_i v2), some (vm_i v3), none, some (vm_i v5), some (vm_i v6), some (vm_l w7), none, some (vm_d e9), none, some (vm_i v11), some (vm_i v12), some (vm_i v13), some (vm_i v14), some (vm_i v15), some (vm_i v16), some (vm_i v17), some (vm_i v18), none, none, none, none, none] [] S Qp := by
  refine lg_iload (k := 18) rfl (by decide +kernel : decode method_12_code 271 = .ok (.iload 18, 2)) ?_
  refine lg_iload_n (k := 2) rfl rfl (by decide +kernel : decode method_12_code 273 = .ok (.iload_n 2, 1)) ?_
  refine lg_iload (k := 13) rfl (by decide +kernel : decode method_12_code 274 = .ok (.iload 13, 2)) ?_
  obtain ⟨h1, h⟩ := h
  refine lg_iadd h1 (by decide +kernel : decode method_12_code 276 = .ok (.iadd, 1)) ?_
  refine lg_icmp_ge (t := 336) (by decide +kernel : decode method_12_code 277 = .ok (.if_icmp .ge 59, 3)) (by decide) ⟨fun c => ?_, fun c => ?_⟩
  · replace h := h.1 c
    exact lg_sub (ls := [some (vm_r o0), some (vm_i v1), some (vm_i v2), some (vm_i v3), none, some (vm_i v5), some (vm_i v6), some (vm_l w7), none, some (vm_d e9), none, some (vm_i v11), some (vm_i v12), some (vm_i v13), some (vm_i v14), some (vm_i v15), some (vm_i v16), some (vm_i v17), none, none, none, none, none, none]) ⟨rfl, ⟨rfl, ⟨rfl, ⟨rfl, ⟨rfl, ⟨rfl, ⟨rfl, ⟨rfl, ⟨rfl, ⟨rfl, ⟨rfl, ⟨rfl, ⟨rfl, ⟨rfl, ⟨rfl, trivial⟩⟩⟩⟩⟩⟩⟩⟩⟩⟩⟩⟩⟩⟩⟩ h
  · replace h := h.2 c
    refine lg_iload (k := 6) rfl (by decide +kernel : decode method_12_code 280 = .ok (.iload 6, 2)) ?_
    refine lg_if_eq (t := 336) (by decide +kernel : decode method_12_code 282 = .ok (.ifCond .eq 54, 3)) (by decide) ⟨fun c => ?_, fun c => ?_⟩
    · replace h := h.1 c
      exact lg_sub (ls := [some (vm_r o0), some (vm_i v1), some (vm_i v2), some (vm_i v3), none, some (vm_i v5), some (vm_i v6), some (vm_l w7), none, some (vm_d e9), none, some (vm_i v11), some (vm_i v12), some (vm_i v13), some (vm_i v14), some (vm_i v15), some (vm_i v16), some (vm_i v17), none, none, none, none, none, none]) ⟨rfl, ⟨rfl, ⟨rfl, ⟨rfl, ⟨rfl, ⟨rfl, ⟨rfl, ⟨rfl, ⟨rfl, ⟨rfl, ⟨rfl, ⟨rfl, ⟨rfl, ⟨rfl, ⟨rfl, trivial⟩⟩⟩⟩⟩⟩⟩⟩⟩⟩⟩⟩⟩⟩⟩ h
    · replace h := h.2 c
      refine lg_iload (k := 17) rfl (by decide +kernel : decode method_12_code 285 = .ok (.iload 17, 2)) ?_
      refine lg_aload_n (k := 0) rfl rfl (by decide +kernel : decode method_12_code 287 = .ok (.aload_n 0, 1)) ?_
      refine lg_iload (k := 18) rfl (by decide +kernel : decode method_12_code 288 = .ok (.iload 18, 2)) ?_
      refine lg_iconst (n := 1) (by decide) (by decide +kernel : decode method_12_code 290 = .ok (.iconst 1, 1)) ?_
      refine lg_N 125 [v18, 1] (show lCls 125 2 = true by decide +kernel) (Nat.le_of_ble_eq_true rfl) (vm_hw_in (i := 1169) (by decide +kernel)) (by decide +kernel : decode method_12_code 291 = .ok (.invokevirtual 187, 3)) h (fun z2 S1 h => ?_)
      obtain ⟨h1, h⟩ := h
      refine lg_iadd h1 (by decide +kernel : decode method_12_code 294 = .ok (.iadd, 1)) ?_
      refine lg_istore (k := 17) (l1 := [some (vm_r o0), some (vm_i v1), some (vm_i v2), some (vm_i v3), none, some (vm_i v5), some (vm_i v6), some (vm_l w7), none, some (vm_d e9), none, some (vm_i v11), some (vm_i v12), some (vm_i v13), some (vm_i v14), some (vm_i v15), some (vm_i v16), some (vm_i ((v17 + z2))), some (vm_i v18), none, none, none, none, none]) rfl rfl (by decide +kernel : decode method_12_code 295 = .ok (.istore 17, 2)) ?_
      refine lg_aload_n (k := 0) rfl rfl (by decide +kernel : decode method_12_code 297 = .ok (.aload_n 0, 1)) ?_
      refine lg_iload (k := 18) rfl (by decide +kernel : decode method_12_code 298 = .ok (.iload 18, 2)) ?_
      refine lg_iconst (n := 2) (by decide) (by decide +kernel : decode method_12_code 300 = .ok (.iconst 2, 1)) ?_
      refine lg_N 125 [v18, 2] (show lCls 125 2 = true by decide +kernel) (Nat.le_of_ble_eq_true rfl) (vm_hw_in (i := 1169) (by decide +kernel)) (by decide +kernel : decode method_12_code 301 = .ok (.invokevirtual 187, 3)) h (fun z4 S3 h => ?_)
      refine lg_iload (k := 12) rfl (by decide +kernel : decode method_12_code 304 = .ok (.iload 12, 2)) ?_
      refine lg_icmp_ne (t := 327) (by decide +kernel : decode method_12_code 306 = .ok (.if_icmp .ne 21, 3)) (by decide) ⟨fun c => ?_, fun c => ?_⟩
      · replace h := h.1 c
        refine lg_iconst (n := 0) (by decide) (by decide +kernel : decode method_12_code 327 = .ok (.iconst 0, 1)) ?_
        exact lg_sub (ls := [some (vm_r o0), some (vm_i v1), some (vm_i v2), some (vm_i v3), none, some (vm_i v5), none, some (vm_l w7), none, some (vm_d e9), none, some (vm_i v11), some (vm_i v12), some (vm_i v13), some (vm_i v14), some (vm_i v15), some (vm_i v16), some (vm_i ((v17 + z2))), some (vm_i v18), none, none, none, none, none]) ⟨rfl, ⟨rfl, ⟨rfl, ⟨rfl, ⟨rfl, ⟨rfl, ⟨rfl, ⟨rfl, ⟨rfl, ⟨rfl, ⟨rfl, ⟨rfl, ⟨rfl, ⟨rfl, ⟨rfl, trivial⟩⟩⟩⟩⟩⟩⟩⟩⟩⟩⟩⟩⟩⟩⟩ h
      · replace h := h.2 c
        refine lg_aload_n (k := 0) rfl rfl (by decide +kernel : decode method_12_code 309 = .ok (.aload_n 0, 1)) ?_
        refine lg_iload (k := 18) rfl (by decide +kernel : decode method_12_code 310 = .ok (.iload 18, 2)) ?_
        refine lg_iconst (n := 3) (by decide) (by decide +kernel : decode method_12_code 312 = .ok (.iconst 3, 1)) ?_
        refine lg_N 125 [v18, 3] (show lCls 125 2 = true by decide +kernel) (Nat.le_of_ble_eq_true rfl) (vm_hw_in (i := 1169) (by decide +kernel)) (by decide +kernel : decode method_12_code 313 = .ok (.invokevirtual 187, 3)) h (fun z6 S5 h => ?_)
        refine lg_iload (k := 18) rfl (by decide +kernel : decode method_12_code 316 = .ok (.iload 18, 2)) ?_
        refine lg_iload_n (k := 2) rfl rfl (by decide +kernel : decode method_12_code 318 = .ok (.iload_n 2, 1)) ?_
        obtain ⟨h1, h⟩ := h
        refine lg_isub h1 (by decide +kernel : decode method_12_code 319 = .ok (.isub, 1)) ?_
        refine lg_icmp_ne (t := 327) (by decide +kernel : decode method_12_code 320 = .ok (.if_icmp .ne 7, 3)) (by decide) ⟨fun c => ?_, fun c => ?_⟩
        · replace h := h.1 c
          refine lg_iconst (n := 0) (by decide) (by decide +kernel : decode method_12_code 327 = .ok (.iconst 0, 1)) ?_
          exact lg_sub (ls := [some (vm_r o0), some (vm_i v1), some (vm_i v2), some (vm_i v3), none, some (vm_i v5), none, some (vm_l w7), none, some (vm_d e9), none, some (vm_i v11), some (vm_i v12), some (vm_i v13), some (vm_i v14), some (vm_i v15), some (vm_i v16), some (vm_i ((v17 + z2))), some (vm_i v18), none, none, none, none, none]) ⟨rfl, ⟨rfl, ⟨rfl, ⟨rfl, ⟨rfl, ⟨rfl, ⟨rfl, ⟨rfl, ⟨rfl, ⟨rfl, ⟨rfl, ⟨rfl, ⟨rfl, ⟨rfl, ⟨rfl, trivial⟩⟩⟩⟩⟩⟩⟩⟩⟩⟩⟩⟩⟩⟩⟩ h
        · replace h := h.2 c
          refine lg_iconst (n := 1) (by decide) (by decide +kernel : decode method_12_code 323 = .ok (.iconst 1, 1)) ?_
          refine lg_goto (t := 328) (by decide +kernel : decode method_12_code 324 = .ok (.goto 4, 3)) (by decide) ?_
          exact lg_sub (ls := [some (vm_r o0), some (vm_i v1), some (vm_i v2), some (vm_i v3), none, some (vm_i v5), none, some (vm_l w7), none, some (vm_d e9), none, some (vm_i v11), some (vm_i v12), some (vm_i v13), some (vm_i v14), some (vm_i v15), some (vm_i v16), some (vm_i ((v17 + z2))), some (vm_i v18), none, none, none, none, none]) ⟨rfl, ⟨rfl, ⟨rfl, ⟨rfl, ⟨rfl, ⟨rfl, ⟨rfl, ⟨rfl, ⟨rfl, ⟨rfl, ⟨rfl, ⟨rfl, ⟨rfl, ⟨rfl, ⟨rfl, trivial⟩⟩⟩⟩⟩⟩⟩⟩⟩⟩⟩⟩⟩⟩⟩ h
set_option maxHeartbeats 4000000 in
theorem rL_stands_925 {S : lwS} {Qp : Option vm_V → lwS → Prop} {o0 : Nat} {v1 : Int} {v3 : Int} {v5 : Int} {w7 : Int} {e9 : UInt64} {v11 : Int} (h : lNn 142 o0 [] S (fun z2 S1 => (¬ z2 = v3 → (Qp (some (vm_i 0)) S1)) ∧ (¬ (¬ z2 = v3) → (lNn 138 o0 [] S1 (fun z4 S3 => (¬ z4 = v5 → (Qp (some (vm_i 0)) S3)) ∧ (¬ (¬ z4 = v5) → (lNn 143 o0 [] S3 (fun z6 S5 => (¬ v1 = 0 → (lG lK_stands 958 [some (vm_r o0), some (vm_i v1), none, none, none, none, none, none, none, some (vm_d e9), none, some (vm_i v11), none, none, none, none, none, none, none, none, none, none, none, none] [vm_i ((vm_w32 w7)), vm_i z6] S5 Qp)) ∧ (¬ (¬ v1 = 0) → (lG lK_stands 958 [some (vm_r o0), some (vm_i v1), none, none, none, none, none, none, none, some (vm_d e9), none, some (vm_i v11), none, none, none, none, none, none, none, none, none, none, none, none] [vm_i ((-2)), vm_i z6] S5 Qp)))))))))) : lG lK_stands 925 [some (vm_r o0), some (vm_i v1), none, some (vm_i v3), none, some (vm_i v5), none, some (vm_l w7), none, some (vm_d e9), none, some (vm_i v11), none, none, none, none, none, none, none, none, none, none, none, none] [] S Qp := by
  refine lg_aload_n (k := 0) rfl rfl (by decide +kernel : decode method_12_code 925 = .ok (.aload_n 0, 1)) ?_
  refine lg_N 142 [] (show lCls 142 0 = true by decide +kernel) (Nat.le_of_ble_eq_true rfl) (vm_hw_in (i := 1201) (by decide +kernel)) (by decide +kernel : decode method_12_code 926 = .ok (.invokevirtual 199, 3)) h (fun z2 S1 h => ?_)
  refine lg_iload_n (k := 3) rfl rfl (by decide +kernel : decode method_12_code 929 = .ok (.iload_n 3, 1)) ?_
  refine lg_icmp_ne (t := 1044) (by decide +kernel : decode method_12_code 930 = .ok (.if_icmp .ne 114, 3)) (by decide) ⟨fun c => ?_, fun c => ?_⟩
  · replace h := h.1 c
    refine lg_iconst (n := 0) (by decide) (by decide +kernel : decode method_12_code 1044 = .ok (.iconst 0, 1)) ?_
    exact lg_ret (Or.inl ⟨0, (by decide +kernel : decode method_12_code 1045 = .ok (.ireturn, 1)), Or.inr ⟨rfl, by decide⟩, rfl, rfl⟩) h
  · replace h := h.2 c
    refine lg_aload_n (k := 0) rfl rfl (by decide +kernel : decode method_12_code 933 = .ok (.aload_n 0, 1)) ?_
    refine lg_N 138 [] (show lCls 138 0 = true by decide +kernel) (Nat.le_of_ble_eq_true rfl) (vm_hw_in (i := 1209) (by decide +kernel)) (by decide +kernel : decode method_12_code 934 = .ok (.invokevirtual 202, 3)) h (fun z4 S3 h => ?_)
    refine lg_iload (k := 5) rfl (by decide +kernel : decode method_12_code 937 = .ok (.iload 5, 2)) ?_
    refine lg_icmp_ne (t := 1044) (by decide +kernel : decode method_12_code 939 = .ok (.if_icmp .ne 105, 3)) (by decide) ⟨fun c => ?_, fun c => ?_⟩
    · replace h := h.1 c
      refine lg_iconst (n := 0) (by decide) (by decide +kernel : decode method_12_code 1044 = .ok (.iconst 0, 1)) ?_
      exact lg_ret (Or.inl ⟨0, (by decide +kernel : decode method_12_code 1045 = .ok (.ireturn, 1)), Or.inr ⟨rfl, by decide⟩, rfl, rfl⟩) h
    · replace h := h.2 c
      refine lg_aload_n (k := 0) rfl rfl (by decide +kernel : decode method_12_code 942 = .ok (.aload_n 0, 1)) ?_
      refine lg_N 143 [] (show lCls 143 0 = true by decide +kernel) (Nat.le_of_ble_eq_true rfl) (vm_hw_in (i := 1222) (by decide +kernel)) (by decide +kernel : decode method_12_code 943 = .ok (.invokevirtual 206, 3)) h (fun z6 S5 h => ?_)
      refine lg_iload_n (k := 1) rfl rfl (by decide +kernel : decode method_12_code 946 = .ok (.iload_n 1, 1)) ?_
      refine lg_if_ne (t := 955) (by decide +kernel : decode method_12_code 947 = .ok (.ifCond .ne 8, 3)) (by decide) ⟨fun c => ?_, fun c => ?_⟩
      · replace h := h.1 c
        refine lg_lload (k := 7) rfl (by decide +kernel : decode method_12_code 955 = .ok (.lload 7, 2)) ?_
        refine lg_l2i (by decide +kernel : decode method_12_code 957 = .ok (.l2i, 1)) ?_
        exact lg_sub (ls := [some (vm_r o0), some (vm_i v1), none, none, none, none, none, none, none, some (vm_d e9), none, some (vm_i v11), none, none, none, none, none, none, none, none, none, none, none, none]) ⟨rfl, ⟨rfl, ⟨rfl, ⟨rfl, trivial⟩⟩⟩⟩ h
      · replace h := h.2 c
        refine lg_bipush (n := (-2)) (by decide) (by decide) (by decide +kernel : decode method_12_code 950 = .ok (.bipush (-2), 2)) ?_
        refine lg_goto (t := 958) (by decide +kernel : decode method_12_code 952 = .ok (.goto 6, 3)) (by decide) ?_
        exact lg_sub (ls := [some (vm_r o0), some (vm_i v1), none, none, none, none, none, none, none, some (vm_d e9), none, some (vm_i v11), none, none, none, none, none, none, none, none, none, none, none, none]) ⟨rfl, ⟨rfl, ⟨rfl, ⟨rfl, trivial⟩⟩⟩⟩ h
set_option maxHeartbeats 4000000 in
theorem rL_stands_336 {S : lwS} {Qp : Option vm_V → lwS → Prop} {o0 : Nat} {v1 : Int} {v2 : Int} {v3 : Int} {v5 : Int} {v6 : Int} {w7 : Int} {e9 : UInt64} {v11 : Int} {v12 : Int} {v13 : Int} {v14 : Int} {v15 : Int} {v16 : Int} {v17 : Int} (h : (v6 = 0 → (lG lK_stands 480 [some (vm_r o0), some (vm_i v1), some (vm_i v2), some (vm_i v3), none, some (vm_i v5), none, some (vm_l w7), none, some (vm_d e9), none, some (vm_i v11), some (vm_i v12), some (vm_i v13), some (vm_i v14), none, some (vm_i v16), some (vm_i v17), none, none, none, none, none, none] [vm_i 0] S Qp)) ∧ (¬ (v6 = 0) → ((v13 = 1 → (lG lK_stands 354 [some (vm_r o0), some (vm_i v1), some (vm_i v2), some (vm_i v3), none, some (vm_i v5), none, some (vm_l w7), none, some (vm_d e9), none, some (vm_i v11), some (vm_i v12), some (vm_i v13), some (vm_i v14), some (vm_i v15), some (vm_i v16), some (vm_i v17), none, none, none, none, none, none] [] S Qp)) ∧ (¬ (v13 = 1) → ((v16 < v17 → (lG lK_stands 480 [some (vm_r o0), some (vm_i v1), some (vm_i v2), some (vm_i v3), none, some (vm_i v5), none, some (vm_l w7), none, some (vm_d e9), none, some (vm_i v11), some (vm_i v12), some (vm_i v13), some (vm_i v14), none, some (vm_i v16), some (vm_i v17), none, none, none, none, none, none] [vm_i 0] S Qp)) ∧ (¬ (v16 < v17) → (lG lK_stands 354 [some (vm_r o0), some (vm_i v1), some (vm_i v2), some (vm_i v3), none, some (vm_i v5), none, some (vm_l w7), none, some (vm_d e9), none, some (vm_i v11), some (vm_i v12), some (vm_i v13), some (vm_i v14), some (vm_i v15), some (vm_i v16), some (vm_i v17), none, none, none, none, none, none] [] S Qp))))))) : lG lK_stands 336 [some (vm_r o0), some (vm_i v1), some (vm_i v2), some (vm_i v3), none, some (vm_i v5), some (vm_i v6), some (vm_l w7), none, some (vm_d e9), none, some (vm_i v11), some (vm_i v12), some (vm_i v13), some (vm_i v14), some (vm_i v15), some (vm_i v16), some (vm_i v17), none, none, none, none, none, none] [] S Qp := by
  refine lg_iload (k := 6) rfl (by decide +kernel : decode method_12_code 336 = .ok (.iload 6, 2)) ?_
  refine lg_if_eq (t := 479) (by decide +kernel : decode method_12_code 338 = .ok (.ifCond .eq 141, 3)) (by decide) ⟨fun c => ?_, fun c => ?_⟩
  · replace h := h.1 c
    refine lg_iconst (n := 0) (by decide) (by decide +kernel : decode method_12_code 479 = .ok (.iconst 0, 1)) ?_
    exact lg_sub (ls := [some (vm_r o0), some (vm_i v1), some (vm_i v2), some (vm_i v3), none, some (vm_i v5), none, some (vm_l w7), none, some (vm_d e9), none, some (vm_i v11), some (vm_i v12), some (vm_i v13), some (vm_i v14), none, some (vm_i v16), some (vm_i v17), none, none, none, none, none, none]) ⟨rfl, ⟨rfl, ⟨rfl, ⟨rfl, ⟨rfl, ⟨rfl, ⟨rfl, ⟨rfl, ⟨rfl, ⟨rfl, ⟨rfl, ⟨rfl, ⟨rfl, trivial⟩⟩⟩⟩⟩⟩⟩⟩⟩⟩⟩⟩⟩ h
  · replace h := h.2 c
    refine lg_iload (k := 13) rfl (by decide +kernel : decode method_12_code 341 = .ok (.iload 13, 2)) ?_
    refine lg_iconst (n := 1) (by decide) (by decide +kernel : decode method_12_code 343 = .ok (.iconst 1, 1)) ?_
    refine lg_icmp_eq (t := 354) (by decide +kernel : decode method_12_code 344 = .ok (.if_icmp .eq 10, 3)) (by decide) ⟨fun c => ?_, fun c => ?_⟩
    · replace h := h.1 c
      exact lg_sub (ls := [some (vm_r o0), some (vm_i v1), some (vm_i v2), some (vm_i v3), none, some (vm_i v5), none, some (vm_l w7), none, some (vm_d e9), none, some (vm_i v11), some (vm_i v12), some (vm_i v13), some (vm_i v14), some (vm_i v15), some (vm_i v16), some (vm_i v17), none, none, none, none, none, none]) ⟨rfl, ⟨rfl, ⟨rfl, ⟨rfl, ⟨rfl, ⟨rfl, ⟨rfl, ⟨rfl, ⟨rfl, ⟨rfl, ⟨rfl, ⟨rfl, ⟨rfl, ⟨rfl, trivial⟩⟩⟩⟩⟩⟩⟩⟩⟩⟩⟩⟩⟩⟩ h
    · replace h := h.2 c
      refine lg_iload (k := 17) rfl (by decide +kernel : decode method_12_code 347 = .ok (.iload 17, 2)) ?_
      refine lg_iload (k := 16) rfl (by decide +kernel : decode method_12_code 349 = .ok (.iload 16, 2)) ?_
      refine lg_icmp_gt (t := 479) (by decide +kernel : decode method_12_code 351 = .ok (.if_icmp .gt 128, 3)) (by decide) ⟨fun c => ?_, fun c => ?_⟩
      · replace h := h.1 c
        refine lg_iconst (n := 0) (by decide) (by decide +kernel : decode method_12_code 479 = .ok (.iconst 0, 1)) ?_
        exact lg_sub (ls := [some (vm_r o0), some (vm_i v1), some (vm_i v2), some (vm_i v3), none, some (vm_i v5), none, some (vm_l w7), none, some (vm_d e9), none, some (vm_i v11), some (vm_i v12), some (vm_i v13), some (vm_i v14), none, some (vm_i v16), some (vm_i v17), none, none, none, none, none, none]) ⟨rfl, ⟨rfl, ⟨rfl, ⟨rfl, ⟨rfl, ⟨rfl, ⟨rfl, ⟨rfl, ⟨rfl, ⟨rfl, ⟨rfl, ⟨rfl, ⟨rfl, trivial⟩⟩⟩⟩⟩⟩⟩⟩⟩⟩⟩⟩⟩ h
      · replace h := h.2 c
        exact lg_sub (ls := [some (vm_r o0), some (vm_i v1), some (vm_i v2), some (vm_i v3), none, some (vm_i v5), none, some (vm_l w7), none, some (vm_d e9), none, some (vm_i v11), some (vm_i v12), some (vm_i v13), some (vm_i v14), some (vm_i v15), some (vm_i v16), some (vm_i v17), none, none, none, none, none, none]) ⟨rfl, ⟨rfl, ⟨rfl, ⟨rfl, ⟨rfl, ⟨rfl, ⟨rfl, ⟨rfl, ⟨rfl, ⟨rfl, ⟨rfl, ⟨rfl, ⟨rfl, ⟨rfl, trivial⟩⟩⟩⟩⟩⟩⟩⟩⟩⟩⟩⟩⟩⟩ h
set_option maxHeartbeats 4000000 in
theorem rL_stands_328 {S : lwS} {Qp : Option vm_V → lwS → Prop} {o0 : Nat} {v1 : Int} {v2 : Int} {v3 : Int} {v5 : Int} {w7 : Int} {e9 : UInt64} {v11 : Int} {v12 : Int} {v13 : Int} {v14 : Int} {v15 : Int} {v16 : Int} {v17 : Int} {v18 : Int} {x0 : Int} (h : (vm_32 (v18 + 1)) ∧ (lG lK_stands 271 [some (vm_r o0), some (vm_i v1), some (vm_i v2), some (vm_i v3), none, some (vm_i v5), some (vm_i x0), some (vm_l w7), none, some (vm_d e9), none, some (vm_i v11), some (vm_i v12), some (vm_i v13), some (vm_i v14), some (vm_i v15), some (vm_i v16), some (vm_i v17), some (vm_i ((v18 + 1))), none, none, none, none, none] [] S Qp)) : lG lK_stands 328 [some (vm_r o0), some (vm_i v1), some (vm_i v2), some (vm_i v3), none, some (vm_i v5), none, some (vm_l w7), none, some (vm_d e9), none, some (vm_i v11), some (vm_i v12), some (vm_i v13), some (vm_i v14), some (vm_i v15), some (vm_i v16), some (vm_i v17), some (vm_i v18), none, none, none, none, none] [vm_i x0] S Qp := by
  refine lg_istore (k := 6) (l1 := [some (vm_r o0), some (vm_i v1), some (vm_i v2), some (vm_i v3), none, some (vm_i v5), some (vm_i x0), some (vm_l w7), none, some (vm_d e9), none, some (vm_i v11), some (vm_i v12), some (vm_i v13), some (vm_i v14), some (vm_i v15), some (vm_i v16), some (vm_i v17), some (vm_i v18), none, none, none, none, none]) rfl rfl (by decide +kernel : decode method_12_code 328 = .ok (.istore 6, 2)) ?_
  obtain ⟨h1, h⟩ := h
  refine lg_iinc (k := 18) (l1 := [some (vm_r o0), some (vm_i v1), some (vm_i v2), some (vm_i v3), none, some (vm_i v5), some (vm_i x0), some (vm_l w7), none, some (vm_d e9), none, some (vm_i v11), some (vm_i v12), some (vm_i v13), some (vm_i v14), some (vm_i v15), some (vm_i v16), some (vm_i v17), some (vm_i ((v18 + 1))), none, none, none, none, none]) rfl rfl rfl h1 (by decide +kernel : decode method_12_code 330 = .ok (.iinc 18 1, 3)) ?_
  refine lg_goto (t := 271) (by decide +kernel : decode method_12_code 333 = .ok (.goto (-62), 3)) (by decide) ?_
  exact h
set_option maxHeartbeats 4000000 in
theorem rL_stands_958 {S : lwS} {Qp : Option vm_V → lwS → Prop} {o0 : Nat} {v1 : Int} {e9 : UInt64} {v11 : Int} {x0 : Int} {x1 : Int} (h : (¬ x1 = x0 → (Qp (some (vm_i 0)) S)) ∧ (¬ (¬ x1 = x0) → (lNd 151 o0 [] S (fun z2 S1 => (¬ v11 = 0 → ((vf_n64 (FP.ddiv e9 ((FP.i2d (Int32.ofInt v11))))) ∧ (lG lK_stands 980 [some (vm_r o0), some (vm_i v1), none, none, none, none, none, none, none, none, none, none, none, none, none, none, none, none, none, none, none, none, none, none] [vm_d ((FP.ddiv e9 ((FP.i2d (Int32.ofInt v11))))), vm_d z2] S1 Qp))) ∧ (¬ (¬ v11 = 0) → (lG lK_stands 980 [some (vm_r o0), some (vm_i v1), none, none, none, none, none, none, none, none, none, none, none, none, none, none, none, none, none, none, none, none, none, none] [vm_d 0, vm_d z2] S1 Qp)))))) : lG lK_stands 958 [some (vm_r o0), some (vm_i v1), none, none, none, none, none, none, none, some (vm_d e9), none, some (vm_i v11), none, none, none, none, none, none, none, none, none, none, none, none] [vm_i x0, vm_i x1] S Qp := by
  refine lg_icmp_ne (t := 1044) (by decide +kernel : decode method_12_code 958 = .ok (.if_icmp .ne 86, 3)) (by decide) ⟨fun c => ?_, fun c => ?_⟩
  · replace h := h.1 c
    refine lg_iconst (n := 0) (by decide) (by decide +kernel : decode method_12_code 1044 = .ok (.iconst 0, 1)) ?_
    exact lg_ret (Or.inl ⟨0, (by decide +kernel : decode method_12_code 1045 = .ok (.ireturn, 1)), Or.inr ⟨rfl, by decide⟩, rfl, rfl⟩) h
  · replace h := h.2 c
    refine lg_aload_n (k := 0) rfl rfl (by decide +kernel : decode method_12_code 961 = .ok (.aload_n 0, 1)) ?_
    refine lg_Nd 151 [] (show lCls 151 0 = true by decide +kernel) (Nat.le_of_ble_eq_true rfl) (vm_hw_in (i := 1230) (by decide +kernel)) (by decide +kernel : decode method_12_code 962 = .ok (.invokevirtual 209, 3)) h (fun z2 S1 h => ?_)
    refine lg_iload (k := 11) rfl (by decide +kernel : decode method_12_code 965 = .ok (.iload 11, 2)) ?_
    refine lg_if_ne (t := 974) (by decide +kernel : decode method_12_code 967 = .ok (.ifCond .ne 7, 3)) (by decide) ⟨fun c => ?_, fun c => ?_⟩
    · replace h := h.1 c
      refine lg_dload (k := 9) rfl (by decide +kernel : decode method_12_code 974 = .ok (.dload 9, 2)) ?_
      refine lg_iload (k := 11) rfl (by decide +kernel : decode method_12_code 976 = .ok (.iload 11, 2)) ?_
      refine lg_i2d (by decide +kernel : decode method_12_code 978 = .ok (.i2d, 1)) ?_
      obtain ⟨h1, h⟩ := h
      refine lg_ddiv h1 (by decide +kernel : decode method_12_code 979 = .ok (.ddiv, 1)) ?_
      exact lg_sub (ls := [some (vm_r o0), some (vm_i v1), none, none, none, none, none, none, none, none, none, none, none, none, none, none, none, none, none, none, none, none, none, none]) ⟨rfl, ⟨rfl, trivial⟩⟩ h
    · replace h := h.2 c
      refine lg_dconst (by decide) (by decide +kernel : decode method_12_code 970 = .ok (.dconst 0, 1)) ?_
      refine lg_goto (t := 980) (by decide +kernel : decode method_12_code 971 = .ok (.goto 9, 3)) (by decide) ?_
      exact lg_sub (ls := [some (vm_r o0), some (vm_i v1), none, none, none, none, none, none, none, none, none, none, none, none, none, none, none, none, none, none, none, none, none, none]) ⟨rfl, ⟨rfl, trivial⟩⟩ h
set_option maxHeartbeats 4000000 in
theorem rL_stands_480 {S : lwS} {Qp : Option vm_V → lwS → Prop} {o0 : Nat} {v1 : Int} {v2 : Int} {v3 : Int} {v5 : Int} {w7 : Int} {e9 : UInt64} {v11 : Int} {v12 : Int} {v13 : Int} {v14 : Int} {v16 : Int} {v17 : Int} {x0 : Int} (h : (vm_32 (v12 + 1)) ∧ ((v1 ≤ ((v12 + 1)) → (lG lK_stands 515 [some (vm_r o0), some (vm_i v1), some (vm_i v2), some (vm_i v3), none, some (vm_i v5), some (vm_i x0), none, none, some (vm_d e9), none, some (vm_i v11), some (vm_i v12), some (vm_i v13), some (vm_i v14), none, some (vm_i v16), some (vm_i v17), none, none, none, none, none, none] [vm_l w7] S Qp)) ∧ (¬ (v1 ≤ ((v12 + 1))) → ((v16 ≤ v17 → (lG lK_stands 515 [some (vm_r o0), some (vm_i v1), some (vm_i v2), some (vm_i v3), none, some (vm_i v5), some (vm_i x0), none, none, some (vm_d e9), none, some (vm_i v11), some (vm_i v12), some (vm_i v13), some (vm_i v14), none, some (vm_i v16), some (vm_i v17), none, none, none, none, none, none] [vm_l w7] S Qp)) ∧ (¬ (v16 ≤ v17) → ((vm_32 (v16 - v17)) ∧ ((vm_32 (v16 - v17)) ∧ ((vm_64 (((v16 - v17)) * ((v16 - v17)))) ∧ (lG lK_stands 516 [some (vm_r o0), some (vm_i v1), some (vm_i v2), some (vm_i v3), none, some (vm_i v5), some (vm_i x0), none, none, some (vm_d e9), none, some (vm_i v11), some (vm_i v12), some (vm_i v13), some (vm_i v14), none, some (vm_i v16), some (vm_i v17), none, none, none, none, none, none] [vm_l ((((v16 - v17)) * ((v16 - v17)))), vm_l w7] S Qp))))))))) : lG lK_stands 480 [some (vm_r o0), some (vm_i v1), some (vm_i v2), some (vm_i v3), none, some (vm_i v5), none, some (vm_l w7), none, some (vm_d e9), none, some (vm_i v11), some (vm_i v12), some (vm_i v13), some (vm_i v14), none, some (vm_i v16), some (vm_i v17), none, none, none, none, none, none] [vm_i x0] S Qp := by
  refine lg_istore (k := 6) (l1 := [some (vm_r o0), some (vm_i v1), some (vm_i v2), some (vm_i v3), none, some (vm_i v5), some (vm_i x0), some (vm_l w7), none, some (vm_d e9), none, some (vm_i v11), some (vm_i v12), some (vm_i v13), some (vm_i v14), none, some (vm_i v16), some (vm_i v17), none, none, none, none, none, none]) rfl rfl (by decide +kernel : decode method_12_code 480 = .ok (.istore 6, 2)) ?_
  refine lg_lload (k := 7) rfl (by decide +kernel : decode method_12_code 482 = .ok (.lload 7, 2)) ?_
  refine lg_iload (k := 12) rfl (by decide +kernel : decode method_12_code 484 = .ok (.iload 12, 2)) ?_
  refine lg_iconst (n := 1) (by decide) (by decide +kernel : decode method_12_code 486 = .ok (.iconst 1, 1)) ?_
  obtain ⟨h1, h⟩ := h
  refine lg_iadd h1 (by decide +kernel : decode method_12_code 487 = .ok (.iadd, 1)) ?_
  refine lg_iload_n (k := 1) rfl rfl (by decide +kernel : decode method_12_code 488 = .ok (.iload_n 1, 1)) ?_
  refine lg_icmp_ge (t := 515) (by decide +kernel : decode method_12_code 489 = .ok (.if_icmp .ge 26, 3)) (by decide) ⟨fun c => ?_, fun c => ?_⟩
  · replace h := h.1 c
    exact lg_sub (ls := [some (vm_r o0), some (vm_i v1), some (vm_i v2), some (vm_i v3), none, some (vm_i v5), some (vm_i x0), none, none, some (vm_d e9), none, some (vm_i v11), some (vm_i v12), some (vm_i v13), some (vm_i v14), none, some (vm_i v16), some (vm_i v17), none, none, none, none, none, none]) ⟨rfl, ⟨rfl, ⟨rfl, ⟨rfl, ⟨rfl, ⟨rfl, ⟨rfl, ⟨rfl, ⟨rfl, ⟨rfl, ⟨rfl, ⟨rfl, ⟨rfl, trivial⟩⟩⟩⟩⟩⟩⟩⟩⟩⟩⟩⟩⟩ h
  · replace h := h.2 c
    refine lg_iload (k := 17) rfl (by decide +kernel : decode method_12_code 492 = .ok (.iload 17, 2)) ?_
    refine lg_iload (k := 16) rfl (by decide +kernel : decode method_12_code 494 = .ok (.iload 16, 2)) ?_
    refine lg_icmp_ge (t := 515) (by decide +kernel : decode method_12_code 496 = .ok (.if_icmp .ge 19, 3)) (by decide) ⟨fun c => ?_, fun c => ?_⟩
    · replace h := h.1 c
      exact lg_sub (ls := [some (vm_r o0), some (vm_i v1), some (vm_i v2), some (vm_i v3), none, some (vm_i v5), some (vm_i x0), none, none, some (vm_d e9), none, some (vm_i v11), some (vm_i v12), some (vm_i v13), some (vm_i v14), none, some (vm_i v16), some (vm_i v17), none, none, none, none, none, none]) ⟨rfl, ⟨rfl, ⟨rfl, ⟨rfl, ⟨rfl, ⟨rfl, ⟨rfl, ⟨rfl, ⟨rfl, ⟨rfl, ⟨rfl, ⟨rfl, ⟨rfl, trivial⟩⟩⟩⟩⟩⟩⟩⟩⟩⟩⟩⟩⟩ h
    · replace h := h.2 c
      refine lg_iload (k := 16) rfl (by decide +kernel : decode method_12_code 499 = .ok (.iload 16, 2)) ?_
      refine lg_iload (k := 17) rfl (by decide +kernel : decode method_12_code 501 = .ok (.iload 17, 2)) ?_
      obtain ⟨h1, h⟩ := h
      refine lg_isub h1 (by decide +kernel : decode method_12_code 503 = .ok (.isub, 1)) ?_
      refine lg_i2l (by decide +kernel : decode method_12_code 504 = .ok (.i2l, 1)) ?_
      refine lg_iload (k := 16) rfl (by decide +kernel : decode method_12_code 505 = .ok (.iload 16, 2)) ?_
      refine lg_iload (k := 17) rfl (by decide +kernel : decode method_12_code 507 = .ok (.iload 17, 2)) ?_
      obtain ⟨h1, h⟩ := h
      refine lg_isub h1 (by decide +kernel : decode method_12_code 509 = .ok (.isub, 1)) ?_
      refine lg_i2l (by decide +kernel : decode method_12_code 510 = .ok (.i2l, 1)) ?_
      obtain ⟨h1, h⟩ := h
      refine lg_lmul h1 (by decide +kernel : decode method_12_code 511 = .ok (.lmul, 1)) ?_
      refine lg_goto (t := 516) (by decide +kernel : decode method_12_code 512 = .ok (.goto 4, 3)) (by decide) ?_
      exact lg_sub (ls := [some (vm_r o0), some (vm_i v1), some (vm_i v2), some (vm_i v3), none, some (vm_i v5), some (vm_i x0), none, none, some (vm_d e9), none, some (vm_i v11), some (vm_i v12), some (vm_i v13), some (vm_i v14), none, some (vm_i v16), some (vm_i v17), none, none, none, none, none, none]) ⟨rfl, ⟨rfl, ⟨rfl, ⟨rfl, ⟨rfl, ⟨rfl, ⟨rfl, ⟨rfl, ⟨rfl, ⟨rfl, ⟨rfl, ⟨rfl, ⟨rfl, trivial⟩⟩⟩⟩⟩⟩⟩⟩⟩⟩⟩⟩⟩ h
set_option maxHeartbeats 4000000 in
theorem rL_stands_354 {S : lwS} {Qp : Option vm_V → lwS → Prop} {o0 : Nat} {v1 : Int} {v2 : Int} {v3 : Int} {v5 : Int} {w7 : Int} {e9 : UInt64} {v11 : Int} {v12 : Int} {v13 : Int} {v14 : Int} {v15 : Int} {v16 : Int} {v17 : Int} (h : lNn 115 o0 [8] S (fun z2 S1 => (¬ z2 = 1 → (lG lK_stands 380 [some (vm_r o0), some (vm_i v1), some (vm_i v2), some (vm_i v3), none, some (vm_i v5), none, some (vm_l w7), none, some (vm_d e9), none, some (vm_i v11), some (vm_i v12), some (vm_i v13), some (vm_i v14), some (vm_i v15), some (vm_i v16), some (vm_i v17), none, none, none, none, none, none] [] S1 Qp)) ∧ (¬ (¬ z2 = 1) → ((v13 ≤ 1 → (lG lK_stands 380 [some (vm_r o0), some (vm_i v1), some (vm_i v2), some (vm_i v3), none, some (vm_i v5), none, some (vm_l w7), none, some (vm_d e9), none, some (vm_i v11), some (vm_i v12), some (vm_i v13), some (vm_i v14), some (vm_i v15), some (vm_i v16), some (vm_i v17), none, none, none, none, none, none] [] S1 Qp)) ∧ (¬ (v13 ≤ 1) → ((¬ v15 = v16 → (lG lK_stands 480 [some (vm_r o0), some (vm_i v1), some (vm_i v2), some (vm_i v3), none, some (vm_i v5), none, some (vm_l w7), none, some (vm_d e9), none, some (vm_i v11), some (vm_i v12), some (vm_i v13), some (vm_i v14), none, some (vm_i v16), some (vm_i v17), none, none, none, none, none, none] [vm_i 0] S1 Qp)) ∧ (¬ (¬ v15 = v16) → (lG lK_stands 397 [some (vm_r o0), some (vm_i v1), some (vm_i v2), some (vm_i v3), none, some (vm_i v5), none, some (vm_l w7), none, some (vm_d e9), none, some (vm_i v11), some (vm_i v12), some (vm_i v13), some (vm_i v14), none, some (vm_i v16), some (vm_i v17), none, none, none, none, none, none] [] S1 Qp)))))))) : lG lK_stands 354 [some (vm_r o0), some (vm_i v1), some (vm_i v2), some (vm_i v3), none, some (vm_i v5), none, some (vm_l w7), none, some (vm_d e9), none, some (vm_i v11), some (vm_i v12), some (vm_i v13), some (vm_i v14), some (vm_i v15), some (vm_i v16), some (vm_i v17), none, none, none, none, none, none] [] S Qp := by
  refine lg_aload_n (k := 0) rfl rfl (by decide +kernel : decode method_12_code 354 = .ok (.aload_n 0, 1)) ?_
  refine lg_bipush (n := 8) (by decide) (by decide) (by decide +kernel : decode method_12_code 355 = .ok (.bipush 8, 2)) ?_
  refine lg_N 115 [8] (show lCls 115 1 = true by decide +kernel) (Nat.le_of_ble_eq_true rfl) (vm_hw_in (i := 604) (by decide +kernel)) (by decide +kernel : decode method_12_code 357 = .ok (.invokevirtual 40, 3)) h (fun z2 S1 h => ?_)
  refine lg_iconst (n := 1) (by decide) (by decide +kernel : decode method_12_code 360 = .ok (.iconst 1, 1)) ?_
  refine lg_icmp_ne (t := 380) (by decide +kernel : decode method_12_code 361 = .ok (.if_icmp .ne 19, 3)) (by decide) ⟨fun c => ?_, fun c => ?_⟩
  · replace h := h.1 c
    exact h
  · replace h := h.2 c
    refine lg_iload (k := 13) rfl (by decide +kernel : decode method_12_code 364 = .ok (.iload 13, 2)) ?_
    refine lg_iconst (n := 1) (by decide) (by decide +kernel : decode method_12_code 366 = .ok (.iconst 1, 1)) ?_
    refine lg_icmp_le (t := 380) (by decide +kernel : decode method_12_code 367 = .ok (.if_icmp .le 13, 3)) (by decide) ⟨fun c => ?_, fun c => ?_⟩
    · replace h := h.1 c
      exact h
    · replace h := h.2 c
      refine lg_iload (k := 15) rfl (by decide +kernel : decode method_12_code 370 = .ok (.iload 15, 2)) ?_
      refine lg_iload (k := 16) rfl (by decide +kernel : decode method_12_code 372 = .ok (.iload 16, 2)) ?_
      refine lg_icmp_ne (t := 479) (by decide +kernel : decode method_12_code 374 = .ok (.if_icmp .ne 105, 3)) (by decide) ⟨fun c => ?_, fun c => ?_⟩
      · replace h := h.1 c
        refine lg_iconst (n := 0) (by decide) (by decide +kernel : decode method_12_code 479 = .ok (.iconst 0, 1)) ?_
        exact lg_sub (ls := [some (vm_r o0), some (vm_i v1), some (vm_i v2), some (vm_i v3), none, some (vm_i v5), none, some (vm_l w7), none, some (vm_d e9), none, some (vm_i v11), some (vm_i v12), some (vm_i v13), some (vm_i v14), none, some (vm_i v16), some (vm_i v17), none, none, none, none, none, none]) ⟨rfl, ⟨rfl, ⟨rfl, ⟨rfl, ⟨rfl, ⟨rfl, ⟨rfl, ⟨rfl, ⟨rfl, ⟨rfl, ⟨rfl, ⟨rfl, ⟨rfl, trivial⟩⟩⟩⟩⟩⟩⟩⟩⟩⟩⟩⟩⟩ h
      · replace h := h.2 c
        refine lg_goto (t := 397) (by decide +kernel : decode method_12_code 377 = .ok (.goto 20, 3)) (by decide) ?_
        exact lg_sub (ls := [some (vm_r o0), some (vm_i v1), some (vm_i v2), some (vm_i v3), none, some (vm_i v5), none, some (vm_l w7), none, some (vm_d e9), none, some (vm_i v11), some (vm_i v12), some (vm_i v13), some (vm_i v14), none, some (vm_i v16), some (vm_i v17), none, none, none, none, none, none]) ⟨rfl, ⟨rfl, ⟨rfl, ⟨rfl, ⟨rfl, ⟨rfl, ⟨rfl, ⟨rfl, ⟨rfl, ⟨rfl, ⟨rfl, ⟨rfl, ⟨rfl, trivial⟩⟩⟩⟩⟩⟩⟩⟩⟩⟩⟩⟩⟩ h
set_option maxHeartbeats 4000000 in
theorem rL_stands_980 {S : lwS} {Qp : Option vm_V → lwS → Prop} {o0 : Nat} {v1 : Int} {x0 : UInt64} {x1 : UInt64} (h : (¬ ((Op.cmpValue (FP.dcmp x1 x0) .l).toInt) = 0 → (Qp (some (vm_i 0)) S)) ∧ (¬ (¬ ((Op.cmpValue (FP.dcmp x1 x0) .l).toInt) = 0) → (lNn 115 o0 [7] S (fun z2 S1 => (z2 = 0 → (lG lK_stands 1008 [some (vm_r o0), some (vm_i v1), none, none, none, none, none, none, none, none, none, none, none, none, none, none, none, none, none, none, none, none, none, none] [] S1 Qp)) ∧ (¬ (z2 = 0) → ((v1 = 0 → (lG lK_stands 1008 [some (vm_r o0), some (vm_i v1), none, none, none, none, none, none, none, none, none, none, none, none, none, none, none, none, none, none, none, none, none, none] [] S1 Qp)) ∧ (¬ (v1 = 0) → (lNn 143 o0 [] S1 (fun z4 S3 => lNn 144 o0 [] S3 (fun z6 S5 => (¬ z4 = z6 → (Qp (some (vm_i 0)) S5)) ∧ (¬ (¬ z4 = z6) → (lG lK_stands 1008 [some (vm_r o0), some (vm_i v1), none, none, none, none, none, none, none, none, none, none, none, none, none, none, none, none, none, none, none, none, none, none] [] S5 Qp)))))))))))) : lG lK_stands 980 [some (vm_r o0), some (vm_i v1), none, none, none, none, none, none, none, none, none, none, none, none, none, none, none, none, none, none, none, none, none, none] [vm_d x0, vm_d x1] S Qp := by
  refine lg_dcmp (by decide +kernel : decode method_12_code 980 = .ok (.dcmp .l, 1)) ?_
  refine lg_if_ne (t := 1044) (by decide +kernel : decode method_12_code 981 = .ok (.ifCond .ne 63, 3)) (by decide) ⟨fun c => ?_, fun c => ?_⟩
  · replace h := h.1 c
    refine lg_iconst (n := 0) (by decide) (by decide +kernel : decode method_12_code 1044 = .ok (.iconst 0, 1)) ?_
    exact lg_ret (Or.inl ⟨0, (by decide +kernel : decode method_12_code 1045 = .ok (.ireturn, 1)), Or.inr ⟨rfl, by decide⟩, rfl, rfl⟩) h
  · replace h := h.2 c
    refine lg_aload_n (k := 0) rfl rfl (by decide +kernel : decode method_12_code 984 = .ok (.aload_n 0, 1)) ?_
    refine lg_bipush (n := 7) (by decide) (by decide) (by decide +kernel : decode method_12_code 985 = .ok (.bipush 7, 2)) ?_
    refine lg_N 115 [7] (show lCls 115 1 = true by decide +kernel) (Nat.le_of_ble_eq_true rfl) (vm_hw_in (i := 604) (by decide +kernel)) (by decide +kernel : decode method_12_code 987 = .ok (.invokevirtual 40, 3)) h (fun z2 S1 h => ?_)
    refine lg_if_eq (t := 1008) (by decide +kernel : decode method_12_code 990 = .ok (.ifCond .eq 18, 3)) (by decide) ⟨fun c => ?_, fun c => ?_⟩
    · replace h := h.1 c
      exact h
    · replace h := h.2 c
      refine lg_iload_n (k := 1) rfl rfl (by decide +kernel : decode method_12_code 993 = .ok (.iload_n 1, 1)) ?_
      refine lg_if_eq (t := 1008) (by decide +kernel : decode method_12_code 994 = .ok (.ifCond .eq 14, 3)) (by decide) ⟨fun c => ?_, fun c => ?_⟩
      · replace h := h.1 c
        exact h
      · replace h := h.2 c
        refine lg_aload_n (k := 0) rfl rfl (by decide +kernel : decode method_12_code 997 = .ok (.aload_n 0, 1)) ?_
        refine lg_N 143 [] (show lCls 143 0 = true by decide +kernel) (Nat.le_of_ble_eq_true rfl) (vm_hw_in (i := 1222) (by decide +kernel)) (by decide +kernel : decode method_12_code 998 = .ok (.invokevirtual 206, 3)) h (fun z4 S3 h => ?_)
        refine lg_aload_n (k := 0) rfl rfl (by decide +kernel : decode method_12_code 1001 = .ok (.aload_n 0, 1)) ?_
        refine lg_N 144 [] (show lCls 144 0 = true by decide +kernel) (Nat.le_of_ble_eq_true rfl) (vm_hw_in (i := 1234) (by decide +kernel)) (by decide +kernel : decode method_12_code 1002 = .ok (.invokevirtual 213, 3)) h (fun z6 S5 h => ?_)
        refine lg_icmp_ne (t := 1044) (by decide +kernel : decode method_12_code 1005 = .ok (.if_icmp .ne 39, 3)) (by decide) ⟨fun c => ?_, fun c => ?_⟩
        · replace h := h.1 c
          refine lg_iconst (n := 0) (by decide) (by decide +kernel : decode method_12_code 1044 = .ok (.iconst 0, 1)) ?_
          exact lg_ret (Or.inl ⟨0, (by decide +kernel : decode method_12_code 1045 = .ok (.ireturn, 1)), Or.inr ⟨rfl, by decide⟩, rfl, rfl⟩) h
        · replace h := h.2 c
          exact h
set_option maxHeartbeats 4000000 in
theorem rL_stands_515 {S : lwS} {Qp : Option vm_V → lwS → Prop} {o0 : Nat} {v1 : Int} {v2 : Int} {v3 : Int} {v5 : Int} {v6 : Int} {e9 : UInt64} {v11 : Int} {v12 : Int} {v13 : Int} {v14 : Int} {v16 : Int} {v17 : Int} {x0 : Int} (h : lG lK_stands 516 [some (vm_r o0), some (vm_i v1), some (vm_i v2), some (vm_i v3), none, some (vm_i v5), some (vm_i v6), none, none, some (vm_d e9), none, some (vm_i v11), some (vm_i v12), some (vm_i v13), some (vm_i v14), none, some (vm_i v16), some (vm_i v17), none, none, none, none, none, none] [vm_l 0, vm_l x0] S Qp) : lG lK_stands 515 [some (vm_r o0), some (vm_i v1), some (vm_i v2), some (vm_i v3), none, some (vm_i v5), some (vm_i v6), none, none, some (vm_d e9), none, some (vm_i v11), some (vm_i v12), some (vm_i v13), some (vm_i v14), none, some (vm_i v16), some (vm_i v17), none, none, none, none, none, none] [vm_l x0] S Qp := by
  refine lg_lconst (n := 0) (by decide) (by decide) (by decide +kernel : decode method_12_code 515 = .ok (.lconst 0, 1)) ?_
  exact h
set_option maxHeartbeats 4000000 in
theorem rL_stands_516 {S : lwS} {Qp : Option vm_V → lwS → Prop} {o0 : Nat} {v1 : Int} {v2 : Int} {v3 : Int} {v5 : Int} {v6 : Int} {e9 : UInt64} {v11 : Int} {v12 : Int} {v13 : Int} {v14 : Int} {v16 : Int} {v17 : Int} {x0 : Int} {x1 : Int} (h : (vm_64 (x1 + x0)) ∧ ((v5 = 0 → (lG lK_stands 536 [some (vm_r o0), some (vm_i v1), some (vm_i v2), some (vm_i v3), none, none, some (vm_i v6), some (vm_l ((x1 + x0))), none, some (vm_d e9), none, some (vm_i v11), some (vm_i v12), some (vm_i v13), some (vm_i v14), none, some (vm_i v16), some (vm_i v17), none, none, none, none, none, none] [vm_i 0] S Qp)) ∧ (¬ (v5 = 0) → ((v16 < v17 → (lG lK_stands 536 [some (vm_r o0), some (vm_i v1), some (vm_i v2), some (vm_i v3), none, none, some (vm_i v6), some (vm_l ((x1 + x0))), none, some (vm_d e9), none, some (vm_i v11), some (vm_i v12), some (vm_i v13), some (vm_i v14), none, some (vm_i v16), some (vm_i v17), none, none, none, none, none, none] [vm_i 0] S Qp)) ∧ (¬ (v16 < v17) → (lG lK_stands 536 [some (vm_r o0), some (vm_i v1), some (vm_i v2), some (vm_i v3), none, none, some (vm_i v6), some (vm_l ((x1 + x0))), none, some (vm_d e9), none, some (vm_i v11), some (vm_i v12), some (vm_i v13), some (vm_i v14), none, some (vm_i v16), some (vm_i v17), none, none, none, none, none, none] [vm_i 1] S Qp)))))) : lG lK_stands 516 [some (vm_r o0), some (vm_i v1), some (vm_i v2), some (vm_i v3), none, some (vm_i v5), some (vm_i v6), none, none, some (vm_d e9), none, some (vm_i v11), some (vm_i v12), some (vm_i v13), some (vm_i v14), none, some (vm_i v16), some (vm_i v17), none, none, none, none, none, none] [vm_l x0, vm_l x1] S Qp := by
  obtain ⟨h1, h⟩ := h
  refine lg_ladd h1 (by decide +kernel : decode method_12_code 516 = .ok (.ladd, 1)) ?_
  refine lg_lstore (k := 7) (l1 := [some (vm_r o0), some (vm_i v1), some (vm_i v2), some (vm_i v3), none, some (vm_i v5), some (vm_i v6), some (vm_l ((x1 + x0))), none, some (vm_d e9), none, some (vm_i v11), some (vm_i v12), some (vm_i v13), some (vm_i v14), none, some (vm_i v16), some (vm_i v17), none, none, none, none, none, none]) rfl rfl (by decide +kernel : decode method_12_code 517 = .ok (.lstore 7, 2)) ?_
  refine lg_iload (k := 5) rfl (by decide +kernel : decode method_12_code 519 = .ok (.iload 5, 2)) ?_
  refine lg_if_eq (t := 535) (by decide +kernel : decode method_12_code 521 = .ok (.ifCond .eq 14, 3)) (by decide) ⟨fun c => ?_, fun c => ?_⟩
  · replace h := h.1 c
    refine lg_iconst (n := 0) (by decide) (by decide +kernel : decode method_12_code 535 = .ok (.iconst 0, 1)) ?_
    exact lg_sub (ls := [some (vm_r o0), some (vm_i v1), some (vm_i v2), some (vm_i v3), none, none, some (vm_i v6), some (vm_l ((x1 + x0))), none, some (vm_d e9), none, some (vm_i v11), some (vm_i v12), some (vm_i v13), some (vm_i v14), none, some (vm_i v16), some (vm_i v17), none, none, none, none, none, none]) ⟨rfl, ⟨rfl, ⟨rfl, ⟨rfl, ⟨rfl, ⟨rfl, ⟨rfl, ⟨rfl, ⟨rfl, ⟨rfl, ⟨rfl, ⟨rfl, ⟨rfl, trivial⟩⟩⟩⟩⟩⟩⟩⟩⟩⟩⟩⟩⟩ h
  · replace h := h.2 c
    refine lg_iload (k := 17) rfl (by decide +kernel : decode method_12_code 524 = .ok (.iload 17, 2)) ?_
    refine lg_iload (k := 16) rfl (by decide +kernel : decode method_12_code 526 = .ok (.iload 16, 2)) ?_
    refine lg_icmp_gt (t := 535) (by decide +kernel : decode method_12_code 528 = .ok (.if_icmp .gt 7, 3)) (by decide) ⟨fun c => ?_, fun c => ?_⟩
    · replace h := h.1 c
      refine lg_iconst (n := 0) (by decide) (by decide +kernel : decode method_12_code 535 = .ok (.iconst 0, 1)) ?_
      exact lg_sub (ls := [some (vm_r o0), some (vm_i v1), some (vm_i v2), some (vm_i v3), none, none, some (vm_i v6), some (vm_l ((x1 + x0))), none, some (vm_d e9), none, some (vm_i v11), some (vm_i v12), some (vm_i v13), some (vm_i v14), none, some (vm_i v16), some (vm_i v17), none, none, none, none, none, none]) ⟨rfl, ⟨rfl, ⟨rfl, ⟨rfl, ⟨rfl, ⟨rfl, ⟨rfl, ⟨rfl, ⟨rfl, ⟨rfl, ⟨rfl, ⟨rfl, ⟨rfl, trivial⟩⟩⟩⟩⟩⟩⟩⟩⟩⟩⟩⟩⟩ h
    · replace h := h.2 c
      refine lg_iconst (n := 1) (by decide) (by decide +kernel : decode method_12_code 531 = .ok (.iconst 1, 1)) ?_
      refine lg_goto (t := 536) (by decide +kernel : decode method_12_code 532 = .ok (.goto 4, 3)) (by decide) ?_
      exact lg_sub (ls := [some (vm_r o0), some (vm_i v1), some (vm_i v2), some (vm_i v3), none, none, some (vm_i v6), some (vm_l ((x1 + x0))), none, some (vm_d e9), none, some (vm_i v11), some (vm_i v12), some (vm_i v13), some (vm_i v14), none, some (vm_i v16), some (vm_i v17), none, none, none, none, none, none]) ⟨rfl, ⟨rfl, ⟨rfl, ⟨rfl, ⟨rfl, ⟨rfl, ⟨rfl, ⟨rfl, ⟨rfl, ⟨rfl, ⟨rfl, ⟨rfl, ⟨rfl, trivial⟩⟩⟩⟩⟩⟩⟩⟩⟩⟩⟩⟩⟩ h
set_option maxHeartbeats 4000000 in
theorem rL_stands_380 {S : lwS} {Qp : Option vm_V → lwS → Prop} {o0 : Nat} {v1 : Int} {v2 : Int} {v3 : Int} {v5 : Int} {w7 : Int} {e9 : UInt64} {v11 : Int} {v12 : Int} {v13 : Int} {v14 : Int} {v15 : Int} {v16 : Int} {v17 : Int} (h : lNn 115 o0 [8] S (fun z2 S1 => (z2 = 1 → (lG lK_stands 397 [some (vm_r o0), some (vm_i v1), some (vm_i v2), some (vm_i v3), none, some (vm_i v5), none, some (vm_l w7), none, some (vm_d e9), none, some (vm_i v11), some (vm_i v12), some (vm_i v13), some (vm_i v14), none, some (vm_i v16), some (vm_i v17), none, none, none, none, none, none] [] S1 Qp)) ∧ (¬ (z2 = 1) → ((¬ v15 = v17 → (lG lK_stands 480 [some (vm_r o0), some (vm_i v1), some (vm_i v2), some (vm_i v3), none, some (vm_i v5), none, some (vm_l w7), none, some (vm_d e9), none, some (vm_i v11), some (vm_i v12), some (vm_i v13), some (vm_i v14), none, some (vm_i v16), some (vm_i v17), none, none, none, none, none, none] [vm_i 0] S1 Qp)) ∧ (¬ (¬ v15 = v17) → (lG lK_stands 397 [some (vm_r o0), some (vm_i v1), some (vm_i v2), some (vm_i v3), none, some (vm_i v5), none, some (vm_l w7), none, some (vm_d e9), none, some (vm_i v11), some (vm_i v12), some (vm_i v13), some (vm_i v14), none, some (vm_i v16), some (vm_i v17), none, none, none, none, none, none] [] S1 Qp)))))) : lG lK_stands 380 [some (vm_r o0), some (vm_i v1), some (vm_i v2), some (vm_i v3), none, some (vm_i v5), none, some (vm_l w7), none, some (vm_d e9), none, some (vm_i v11), some (vm_i v12), some (vm_i v13), some (vm_i v14), some (vm_i v15), some (vm_i v16), some (vm_i v17), none, none, none, none, none, none] [] S Qp := by
  refine lg_aload_n (k := 0) rfl rfl (by decide +kernel : decode method_12_code 380 = .ok (.aload_n 0, 1)) ?_
  refine lg_bipush (n := 8) (by decide) (by decide) (by decide +kernel : decode method_12_code 381 = .ok (.bipush 8, 2)) ?_
  refine lg_N 115 [8] (show lCls 115 1 = true by decide +kernel) (Nat.le_of_ble_eq_true rfl) (vm_hw_in (i := 604) (by decide +kernel)) (by decide +kernel : decode method_12_code 383 = .ok (.invokevirtual 40, 3)) h (fun z2 S1 h => ?_)
  refine lg_iconst (n := 1) (by decide) (by decide +kernel : decode method_12_code 386 = .ok (.iconst 1, 1)) ?_
  refine lg_icmp_eq (t := 397) (by decide +kernel : decode method_12_code 387 = .ok (.if_icmp .eq 10, 3)) (by decide) ⟨fun c => ?_, fun c => ?_⟩
  · replace h := h.1 c
    exact lg_sub (ls := [some (vm_r o0), some (vm_i v1), some (vm_i v2), some (vm_i v3), none, some (vm_i v5), none, some (vm_l w7), none, some (vm_d e9), none, some (vm_i v11), some (vm_i v12), some (vm_i v13), some (vm_i v14), none, some (vm_i v16), some (vm_i v17), none, none, none, none, none, none]) ⟨rfl, ⟨rfl, ⟨rfl, ⟨rfl, ⟨rfl, ⟨rfl, ⟨rfl, ⟨rfl, ⟨rfl, ⟨rfl, ⟨rfl, ⟨rfl, ⟨rfl, trivial⟩⟩⟩⟩⟩⟩⟩⟩⟩⟩⟩⟩⟩ h
  · replace h := h.2 c
    refine lg_iload (k := 15) rfl (by decide +kernel : decode method_12_code 390 = .ok (.iload 15, 2)) ?_
    refine lg_iload (k := 17) rfl (by decide +kernel : decode method_12_code 392 = .ok (.iload 17, 2)) ?_
    refine lg_icmp_ne (t := 479) (by decide +kernel : decode method_12_code 394 = .ok (.if_icmp .ne 85, 3)) (by decide) ⟨fun c => ?_, fun c => ?_⟩
    · replace h := h.1 c
      refine lg_iconst (n := 0) (by decide) (by decide +kernel : decode method_12_code 479 = .ok (.iconst 0, 1)) ?_
      exact lg_sub (ls := [some (vm_r o0), some (vm_i v1), some (vm_i v2), some (vm_i v3), none, some (vm_i v5), none, some (vm_l w7), none, some (vm_d e9), none, some (vm_i v11), some (vm_i v12), some (vm_i v13), some (vm_i v14), none, some (vm_i v16), some (vm_i v17), none, none, none, none, none, none]) ⟨rfl, ⟨rfl, ⟨rfl, ⟨rfl, ⟨rfl, ⟨rfl, ⟨rfl, ⟨rfl, ⟨rfl, ⟨rfl, ⟨rfl, ⟨rfl, ⟨rfl, trivial⟩⟩⟩⟩⟩⟩⟩⟩⟩⟩⟩⟩⟩ h
    · replace h := h.2 c
      exact lg_sub (ls := [some (vm_r o0), some (vm_i v1), some (vm_i v2), some (vm_i v3), none, some (vm_i v5), none, some (vm_l w7), none, some (vm_d e9), none, some (vm_i v11), some (vm_i v12), some (vm_i v13), some (vm_i v14), none, some (vm_i v16), some (vm_i v17), none, none, none, none, none, none]) ⟨rfl, ⟨rfl, ⟨rfl, ⟨rfl, ⟨rfl, ⟨rfl, ⟨rfl, ⟨rfl, ⟨rfl, ⟨rfl, ⟨rfl, ⟨rfl, ⟨rfl, trivial⟩⟩⟩⟩⟩⟩⟩⟩⟩⟩⟩⟩⟩ h
set_option maxHeartbeats 4000000 in
theorem rL_stands_397 {S : lwS} {Qp : Option vm_V → lwS → Prop} {o0 : Nat} {v1 : Int} {v2 : Int} {v3 : Int} {v5 : Int} {w7 : Int} {e9 : UInt64} {v11 : Int} {v12 : Int} {v13 : Int} {v14 : Int} {v16 : Int} {v17 : Int} (h : (¬ v13 = 1 → (lNn 128 o0 [v12, 8] S (fun z2 S1 => lNn 128 o0 [v12, 7] S1 (fun z4 S3 => (vm_32 (z2 - z4)) ∧ ((1 < ((z2 - z4)) → (lG lK_stands 480 [some (vm_r o0), some (vm_i v1), some (vm_i v2), some (vm_i v3), none, some (vm_i v5), none, some (vm_l w7), none, some (vm_d e9), none, some (vm_i v11), some (vm_i v12), some (vm_i v13), some (vm_i v14), none, some (vm_i v16), some (vm_i v17), none, none, none, none, none, none] [vm_i 0] S3 Qp)) ∧ (¬ (1 < ((z2 - z4))) → (lNn 128 o0 [v12, 7] S3 (fun z6 S5 => lNn 115 o0 [4] S5 (fun z8 S7 => lNn 115 o0 [5] S7 (fun z10 S9 => (vm_32 (z8 * z10)) ∧ ((z6 < ((z8 * z10)) → (lG lK_stands 480 [some (vm_r o0), some (vm_i v1), some (vm_i v2), some (vm_i v3), none, some (vm_i v5), none, some (vm_l w7), none, some (vm_d e9), none, some (vm_i v11), some (vm_i v12), some (vm_i v13), some (vm_i v14), none, some (vm_i v16), some (vm_i v17), none, none, none, none, none, none] [vm_i 0] S9 Qp)) ∧ (¬ (z6 < ((z8 * z10))) → (lG lK_stands 480 [some (vm_r o0), some (vm_i v1), some (vm_i v2), some (vm_i v3), none, some (vm_i v5), none, some (vm_l w7), none, some (vm_d e9), none, some (vm_i v11), some (vm_i v12), some (vm_i v13), some (vm_i v14), none, some (vm_i v16), some (vm_i v17), none, none, none, none, none, none] [vm_i 1] S9 Qp))))))))))))) ∧ (¬ (¬ v13 = 1) → (lNn 128 o0 [v12, 7] S (fun z12 S11 => (¬ z12 = ((-2)) → (lG lK_stands 480 [some (vm_r o0), some (vm_i v1), some (vm_i v2), some (vm_i v3), none, some (vm_i v5), none, some (vm_l w7), none, some (vm_d e9), none, some (vm_i v11), some (vm_i v12), some (vm_i v13), some (vm_i v14), none, some (vm_i v16), some (vm_i v17), none, none, none, none, none, none] [vm_i 0] S11 Qp)) ∧ (¬ (¬ z12 = ((-2))) → (lNn 128 o0 [v12, 8] S11 (fun z14 S13 => (¬ z14 = ((-2)) → (lG lK_stands 480 [some (vm_r o0), some (vm_i v1), some (vm_i v2), some (vm_i v3), none, some (vm_i v5), none, some (vm_l w7), none, some (vm_d e9), none, some (vm_i v11), some (vm_i v12), some (vm_i v13), some (vm_i v14), none, some (vm_i v16), some (vm_i v17), none, none, none, none, none, none] [vm_i 0] S13 Qp)) ∧ (¬ (¬ z14 = ((-2))) → (lG lK_stands 480 [some (vm_r o0), some (vm_i v1), some (vm_i v2), some (vm_i v3), none, some (vm_i v5), none, some (vm_l w7), none, some (vm_d e9), none, some (vm_i v11), some (vm_i v12), some (vm_i v13), some (vm_i v14), none, some (vm_i v16), some (vm_i v17), none, none, none, none, none, none] [vm_i 1] S13 Qp))))))))) : lG lK_stands 397 [some (vm_r o0), some (vm_i v1), some (vm_i v2), some (vm_i v3), none, some (vm_i v5), none, some (vm_l w7), none, some (vm_d e9), none, some (vm_i v11), some (vm_i v12), some (vm_i v13), some (vm_i v14), none, some (vm_i v16), some (vm_i v17), none, none, none, none, none, none] [] S Qp := by
  refine lg_iload (k := 13) rfl (by decide +kernel : decode method_12_code 397 = .ok (.iload 13, 2)) ?_
  refine lg_iconst (n := 1) (by decide) (by decide +kernel : decode method_12_code 399 = .ok (.iconst 1, 1)) ?_
  refine lg_icmp_ne (t := 432) (by decide +kernel : decode method_12_code 400 = .ok (.if_icmp .ne 32, 3)) (by decide) ⟨fun c => ?_, fun c => ?_⟩
  · replace h := h.1 c
    refine lg_aload_n (k := 0) rfl rfl (by decide +kernel : decode method_12_code 432 = .ok (.aload_n 0, 1)) ?_
    refine lg_iload (k := 12) rfl (by decide +kernel : decode method_12_code 433 = .ok (.iload 12, 2)) ?_
    refine lg_bipush (n := 8) (by decide) (by decide) (by decide +kernel : decode method_12_code 435 = .ok (.bipush 8, 2)) ?_
    refine lg_N 128 [v12, 8] (show lCls 128 2 = true by decide +kernel) (Nat.le_of_ble_eq_true rfl) (vm_hw_in (i := 1136) (by decide +kernel)) (by decide +kernel : decode method_12_code 437 = .ok (.invokevirtual 174, 3)) h (fun z2 S1 h => ?_)
    refine lg_aload_n (k := 0) rfl rfl (by decide +kernel : decode method_12_code 440 = .ok (.aload_n 0, 1)) ?_
    refine lg_iload (k := 12) rfl (by decide +kernel : decode method_12_code 441 = .ok (.iload 12, 2)) ?_
    refine lg_bipush (n := 7) (by decide) (by decide) (by decide +kernel : decode method_12_code 443 = .ok (.bipush 7, 2)) ?_
    refine lg_N 128 [v12, 7] (show lCls 128 2 = true by decide +kernel) (Nat.le_of_ble_eq_true rfl) (vm_hw_in (i := 1136) (by decide +kernel)) (by decide +kernel : decode method_12_code 445 = .ok (.invokevirtual 174, 3)) h (fun z4 S3 h => ?_)
    obtain ⟨h1, h⟩ := h
    refine lg_isub h1 (by decide +kernel : decode method_12_code 448 = .ok (.isub, 1)) ?_
    refine lg_iconst (n := 1) (by decide) (by decide +kernel : decode method_12_code 449 = .ok (.iconst 1, 1)) ?_
    refine lg_icmp_gt (t := 479) (by decide +kernel : decode method_12_code 450 = .ok (.if_icmp .gt 29, 3)) (by decide) ⟨fun c => ?_, fun c => ?_⟩
    · replace h := h.1 c
      refine lg_iconst (n := 0) (by decide) (by decide +kernel : decode method_12_code 479 = .ok (.iconst 0, 1)) ?_
      exact h
    · replace h := h.2 c
      refine lg_aload_n (k := 0) rfl rfl (by decide +kernel : decode method_12_code 453 = .ok (.aload_n 0, 1)) ?_
      refine lg_iload (k := 12) rfl (by decide +kernel : decode method_12_code 454 = .ok (.iload 12, 2)) ?_
      refine lg_bipush (n := 7) (by decide) (by decide) (by decide +kernel : decode method_12_code 456 = .ok (.bipush 7, 2)) ?_
      refine lg_N 128 [v12, 7] (show lCls 128 2 = true by decide +kernel) (Nat.le_of_ble_eq_true rfl) (vm_hw_in (i := 1136) (by decide +kernel)) (by decide +kernel : decode method_12_code 458 = .ok (.invokevirtual 174, 3)) h (fun z6 S5 h => ?_)
      refine lg_aload_n (k := 0) rfl rfl (by decide +kernel : decode method_12_code 461 = .ok (.aload_n 0, 1)) ?_
      refine lg_iconst (n := 4) (by decide) (by decide +kernel : decode method_12_code 462 = .ok (.iconst 4, 1)) ?_
      refine lg_N 115 [4] (show lCls 115 1 = true by decide +kernel) (Nat.le_of_ble_eq_true rfl) (vm_hw_in (i := 604) (by decide +kernel)) (by decide +kernel : decode method_12_code 463 = .ok (.invokevirtual 40, 3)) h (fun z8 S7 h => ?_)
      refine lg_aload_n (k := 0) rfl rfl (by decide +kernel : decode method_12_code 466 = .ok (.aload_n 0, 1)) ?_
      refine lg_iconst (n := 5) (by decide) (by decide +kernel : decode method_12_code 467 = .ok (.iconst 5, 1)) ?_
      refine lg_N 115 [5] (show lCls 115 1 = true by decide +kernel) (Nat.le_of_ble_eq_true rfl) (vm_hw_in (i := 604) (by decide +kernel)) (by decide +kernel : decode method_12_code 468 = .ok (.invokevirtual 40, 3)) h (fun z10 S9 h => ?_)
      obtain ⟨h1, h⟩ := h
      refine lg_imul h1 (by decide +kernel : decode method_12_code 471 = .ok (.imul, 1)) ?_
      refine lg_icmp_lt (t := 479) (by decide +kernel : decode method_12_code 472 = .ok (.if_icmp .lt 7, 3)) (by decide) ⟨fun c => ?_, fun c => ?_⟩
      · replace h := h.1 c
        refine lg_iconst (n := 0) (by decide) (by decide +kernel : decode method_12_code 479 = .ok (.iconst 0, 1)) ?_
        exact h
      · replace h := h.2 c
        refine lg_iconst (n := 1) (by decide) (by decide +kernel : decode method_12_code 475 = .ok (.iconst 1, 1)) ?_
        refine lg_goto (t := 480) (by decide +kernel : decode method_12_code 476 = .ok (.goto 4, 3)) (by decide) ?_
        exact h
  · replace h := h.2 c
    refine lg_aload_n (k := 0) rfl rfl (by decide +kernel : decode method_12_code 403 = .ok (.aload_n 0, 1)) ?_
    refine lg_iload (k := 12) rfl (by decide +kernel : decode method_12_code 404 = .ok (.iload 12, 2)) ?_
    refine lg_bipush (n := 7) (by decide) (by decide) (by decide +kernel : decode method_12_code 406 = .ok (.bipush 7, 2)) ?_
    refine lg_N 128 [v12, 7] (show lCls 128 2 = true by decide +kernel) (Nat.le_of_ble_eq_true rfl) (vm_hw_in (i := 1136) (by decide +kernel)) (by decide +kernel : decode method_12_code 408 = .ok (.invokevirtual 174, 3)) h (fun z12 S11 h => ?_)
    refine lg_bipush (n := (-2)) (by decide) (by decide) (by decide +kernel : decode method_12_code 411 = .ok (.bipush (-2), 2)) ?_
    refine lg_icmp_ne (t := 479) (by decide +kernel : decode method_12_code 413 = .ok (.if_icmp .ne 66, 3)) (by decide) ⟨fun c => ?_, fun c => ?_⟩
    · replace h := h.1 c
      refine lg_iconst (n := 0) (by decide) (by decide +kernel : decode method_12_code 479 = .ok (.iconst 0, 1)) ?_
      exact h
    · replace h := h.2 c
      refine lg_aload_n (k := 0) rfl rfl (by decide +kernel : decode method_12_code 416 = .ok (.aload_n 0, 1)) ?_
      refine lg_iload (k := 12) rfl (by decide +kernel : decode method_12_code 417 = .ok (.iload 12, 2)) ?_
      refine lg_bipush (n := 8) (by decide) (by decide) (by decide +kernel : decode method_12_code 419 = .ok (.bipush 8, 2)) ?_
      refine lg_N 128 [v12, 8] (show lCls 128 2 = true by decide +kernel) (Nat.le_of_ble_eq_true rfl) (vm_hw_in (i := 1136) (by decide +kernel)) (by decide +kernel : decode method_12_code 421 = .ok (.invokevirtual 174, 3)) h (fun z14 S13 h => ?_)
      refine lg_bipush (n := (-2)) (by decide) (by decide) (by decide +kernel : decode method_12_code 424 = .ok (.bipush (-2), 2)) ?_
      refine lg_icmp_ne (t := 479) (by decide +kernel : decode method_12_code 426 = .ok (.if_icmp .ne 53, 3)) (by decide) ⟨fun c => ?_, fun c => ?_⟩
      · replace h := h.1 c
        refine lg_iconst (n := 0) (by decide) (by decide +kernel : decode method_12_code 479 = .ok (.iconst 0, 1)) ?_
        exact h
      · replace h := h.2 c
        refine lg_goto (t := 475) (by decide +kernel : decode method_12_code 429 = .ok (.goto 46, 3)) (by decide) ?_
        refine lg_iconst (n := 1) (by decide) (by decide +kernel : decode method_12_code 475 = .ok (.iconst 1, 1)) ?_
        refine lg_goto (t := 480) (by decide +kernel : decode method_12_code 476 = .ok (.goto 4, 3)) (by decide) ?_
        exact h
set_option maxHeartbeats 4000000 in
theorem rL_stands_1008 {S : lwS} {Qp : Option vm_V → lwS → Prop} {o0 : Nat} {v1 : Int} (h : lNn 115 o0 [7] S (fun z2 S1 => (z2 = 1 → (Qp (some (vm_i 1)) S1)) ∧ (¬ (z2 = 1) → ((v1 = 0 → (Qp (some (vm_i 1)) S1)) ∧ (¬ (v1 = 0) → (lNn 144 o0 [] S1 (fun z4 S3 => lNn 143 o0 [] S3 (fun z6 S5 => (z6 < z4 → (Qp (some (vm_i 0)) S5)) ∧ (¬ (z6 < z4) → (lNn 144 o0 [] S5 (fun z8 S7 => (z8 < 0 → (Qp (some (vm_i 0)) S7)) ∧ (¬ (z8 < 0) → (Qp (some (vm_i 1)) S7))))))))))))) : lG lK_stands 1008 [some (vm_r o0), some (vm_i v1), none, none, none, none, none, none, none, none, none, none, none, none, none, none, none, none, none, none, none, none, none, none] [] S Qp := by
  refine lg_aload_n (k := 0) rfl rfl (by decide +kernel : decode method_12_code 1008 = .ok (.aload_n 0, 1)) ?_
  refine lg_bipush (n := 7) (by decide) (by decide) (by decide +kernel : decode method_12_code 1009 = .ok (.bipush 7, 2)) ?_
  refine lg_N 115 [7] (show lCls 115 1 = true by decide +kernel) (Nat.le_of_ble_eq_true rfl) (vm_hw_in (i := 604) (by decide +kernel)) (by decide +kernel : decode method_12_code 1011 = .ok (.invokevirtual 40, 3)) h (fun z2 S1 h => ?_)
  refine lg_iconst (n := 1) (by decide) (by decide +kernel : decode method_12_code 1014 = .ok (.iconst 1, 1)) ?_
  refine lg_icmp_eq (t := 1040) (by decide +kernel : decode method_12_code 1015 = .ok (.if_icmp .eq 25, 3)) (by decide) ⟨fun c => ?_, fun c => ?_⟩
  · replace h := h.1 c
    refine lg_iconst (n := 1) (by decide) (by decide +kernel : decode method_12_code 1040 = .ok (.iconst 1, 1)) ?_
    refine lg_goto (t := 1045) (by decide +kernel : decode method_12_code 1041 = .ok (.goto 4, 3)) (by decide) ?_
    exact lg_ret (Or.inl ⟨1, (by decide +kernel : decode method_12_code 1045 = .ok (.ireturn, 1)), Or.inr ⟨rfl, by decide⟩, rfl, rfl⟩) h
  · replace h := h.2 c
    refine lg_iload_n (k := 1) rfl rfl (by decide +kernel : decode method_12_code 1018 = .ok (.iload_n 1, 1)) ?_
    refine lg_if_eq (t := 1040) (by decide +kernel : decode method_12_code 1019 = .ok (.ifCond .eq 21, 3)) (by decide) ⟨fun c => ?_, fun c => ?_⟩
    · replace h := h.1 c
      refine lg_iconst (n := 1) (by decide) (by decide +kernel : decode method_12_code 1040 = .ok (.iconst 1, 1)) ?_
      refine lg_goto (t := 1045) (by decide +kernel : decode method_12_code 1041 = .ok (.goto 4, 3)) (by decide) ?_
      exact lg_ret (Or.inl ⟨1, (by decide +kernel : decode method_12_code 1045 = .ok (.ireturn, 1)), Or.inr ⟨rfl, by decide⟩, rfl, rfl⟩) h
    · replace h := h.2 c
      refine lg_aload_n (k := 0) rfl rfl (by decide +kernel : decode method_12_code 1022 = .ok (.aload_n 0, 1)) ?_
      refine lg_N 144 [] (show lCls 144 0 = true by decide +kernel) (Nat.le_of_ble_eq_true rfl) (vm_hw_in (i := 1234) (by decide +kernel)) (by decide +kernel : decode method_12_code 1023 = .ok (.invokevirtual 213, 3)) h (fun z4 S3 h => ?_)
      refine lg_aload_n (k := 0) rfl rfl (by decide +kernel : decode method_12_code 1026 = .ok (.aload_n 0, 1)) ?_
      refine lg_N 143 [] (show lCls 143 0 = true by decide +kernel) (Nat.le_of_ble_eq_true rfl) (vm_hw_in (i := 1222) (by decide +kernel)) (by decide +kernel : decode method_12_code 1027 = .ok (.invokevirtual 206, 3)) h (fun z6 S5 h => ?_)
      refine lg_icmp_gt (t := 1044) (by decide +kernel : decode method_12_code 1030 = .ok (.if_icmp .gt 14, 3)) (by decide) ⟨fun c => ?_, fun c => ?_⟩
      · replace h := h.1 c
        refine lg_iconst (n := 0) (by decide) (by decide +kernel : decode method_12_code 1044 = .ok (.iconst 0, 1)) ?_
        exact lg_ret (Or.inl ⟨0, (by decide +kernel : decode method_12_code 1045 = .ok (.ireturn, 1)), Or.inr ⟨rfl, by decide⟩, rfl, rfl⟩) h
      · replace h := h.2 c
        refine lg_aload_n (k := 0) rfl rfl (by decide +kernel : decode method_12_code 1033 = .ok (.aload_n 0, 1)) ?_
        refine lg_N 144 [] (show lCls 144 0 = true by decide +kernel) (Nat.le_of_ble_eq_true rfl) (vm_hw_in (i := 1234) (by decide +kernel)) (by decide +kernel : decode method_12_code 1034 = .ok (.invokevirtual 213, 3)) h (fun z8 S7 h => ?_)
        refine lg_if_lt (t := 1044) (by decide +kernel : decode method_12_code 1037 = .ok (.ifCond .lt 7, 3)) (by decide) ⟨fun c => ?_, fun c => ?_⟩
        · replace h := h.1 c
          refine lg_iconst (n := 0) (by decide) (by decide +kernel : decode method_12_code 1044 = .ok (.iconst 0, 1)) ?_
          exact lg_ret (Or.inl ⟨0, (by decide +kernel : decode method_12_code 1045 = .ok (.ireturn, 1)), Or.inr ⟨rfl, by decide⟩, rfl, rfl⟩) h
        · replace h := h.2 c
          refine lg_iconst (n := 1) (by decide) (by decide +kernel : decode method_12_code 1040 = .ok (.iconst 1, 1)) ?_
          refine lg_goto (t := 1045) (by decide +kernel : decode method_12_code 1041 = .ok (.goto 4, 3)) (by decide) ?_
          exact lg_ret (Or.inl ⟨1, (by decide +kernel : decode method_12_code 1045 = .ok (.ireturn, 1)), Or.inr ⟨rfl, by decide⟩, rfl, rfl⟩) h
set_option maxHeartbeats 4000000 in
theorem rL_stands_536 {S : lwS} {Qp : Option vm_V → lwS → Prop} {o0 : Nat} {v1 : Int} {v2 : Int} {v3 : Int} {v6 : Int} {w7 : Int} {e9 : UInt64} {v11 : Int} {v12 : Int} {v13 : Int} {v14 : Int} {v16 : Int} {v17 : Int} {x0 : Int} (h : lNn 115 o0 [7] S (fun z2 S1 => (¬ z2 = 0 → (lG lK_stands 596 [some (vm_r o0), some (vm_i v1), some (vm_i v2), some (vm_i v3), none, some (vm_i x0), some (vm_i v6), some (vm_l w7), none, some (vm_d e9), none, some (vm_i v11), some (vm_i v12), some (vm_i v13), some (vm_i v14), none, none, none, none, none, none, none, none, none] [] S1 Qp)) ∧ (¬ (¬ z2 = 0) → ((vm_32 (v12 + 1)) ∧ ((v1 ≤ ((v12 + 1)) → (lG lK_stands 596 [some (vm_r o0), some (vm_i v1), some (vm_i v2), some (vm_i v3), none, some (vm_i x0), some (vm_i v6), some (vm_l w7), none, some (vm_d e9), none, some (vm_i v11), some (vm_i v12), some (vm_i v13), some (vm_i v14), none, none, none, none, none, none, none, none, none] [] S1 Qp)) ∧ (¬ (v1 ≤ ((v12 + 1))) → ((v6 = 0 → (lG lK_stands 596 [some (vm_r o0), some (vm_i v1), some (vm_i v2), some (vm_i v3), none, some (vm_i x0), some (vm_i v6), some (vm_l w7), none, some (vm_d e9), none, some (vm_i v11), some (vm_i v12), some (vm_i v13), some (vm_i v14), none, none, none, none, none, none, none, none, none] [] S1 Qp)) ∧ (¬ (v6 = 0) → (lNn 115 o0 [4] S1 (fun z4 S3 => lNn 115 o0 [5] S3 (fun z6 S5 => (vm_32 (z4 * z6)) ∧ ((vm_32 (v17 + ((z4 * z6)))) ∧ ((vm_32 (v2 + v13)) ∧ (lNn 125 o0 [(v2 + v13), 1] S5 (fun z8 S7 => (vm_32 (((v17 + ((z4 * z6)))) + z8)) ∧ ((((((v17 + ((z4 * z6)))) + z8)) ≤ v16 → (lG lK_stands 594 [some (vm_r o0), some (vm_i v1), some (vm_i v2), some (vm_i v3), none, some (vm_i x0), none, some (vm_l w7), none, some (vm_d e9), none, some (vm_i v11), some (vm_i v12), some (vm_i v13), some (vm_i v14), none, none, none, none, none, none, none, none, none] [vm_i 0] S7 Qp)) ∧ (¬ (((((v17 + ((z4 * z6)))) + z8)) ≤ v16) → (lG lK_stands 594 [some (vm_r o0), some (vm_i v1), some (vm_i v2), some (vm_i v3), none, some (vm_i x0), none, some (vm_l w7), none, some (vm_d e9), none, some (vm_i v11), some (vm_i v12), some (vm_i v13), some (vm_i v14), none, none, none, none, none, none, none, none, none] [vm_i 1] S7 Qp)))))))))))))))))) : lG lK_stands 536 [some (vm_r o0), some (vm_i v1), some (vm_i v2), some (vm_i v3), none, none, some (vm_i v6), some (vm_l w7), none, some (vm_d e9), none, some (vm_i v11), some (vm_i v12), some (vm_i v13), some (vm_i v14), none, some (vm_i v16), some (vm_i v17), none, none, none, none, none, none] [vm_i x0] S Qp := by
  refine lg_istore (k := 5) (l1 := [some (vm_r o0), some (vm_i v1), some (vm_i v2), some (vm_i v3), none, some (vm_i x0), some (vm_i v6), some (vm_l w7), none, some (vm_d e9), none, some (vm_i v11), some (vm_i v12), some (vm_i v13), some (vm_i v14), none, some (vm_i v16), some (vm_i v17), none, none, none, none, none, none]) rfl rfl (by decide +kernel : decode method_12_code 536 = .ok (.istore 5, 2)) ?_
  refine lg_aload_n (k := 0) rfl rfl (by decide +kernel : decode method_12_code 538 = .ok (.aload_n 0, 1)) ?_
  refine lg_bipush (n := 7) (by decide) (by decide) (by decide +kernel : decode method_12_code 539 = .ok (.bipush 7, 2)) ?_
  refine lg_N 115 [7] (show lCls 115 1 = true by decide +kernel) (Nat.le_of_ble_eq_true rfl) (vm_hw_in (i := 604) (by decide +kernel)) (by decide +kernel : decode method_12_code 541 = .ok (.invokevirtual 40, 3)) h (fun z2 S1 h => ?_)
  refine lg_if_ne (t := 596) (by decide +kernel : decode method_12_code 544 = .ok (.ifCond .ne 52, 3)) (by decide) ⟨fun c => ?_, fun c => ?_⟩
  · replace h := h.1 c
    exact lg_sub (ls := [some (vm_r o0), some (vm_i v1), some (vm_i v2), some (vm_i v3), none, some (vm_i x0), some (vm_i v6), some (vm_l w7), none, some (vm_d e9), none, some (vm_i v11), some (vm_i v12), some (vm_i v13), some (vm_i v14), none, none, none, none, none, none, none, none, none]) ⟨rfl, ⟨rfl, ⟨rfl, ⟨rfl, ⟨rfl, ⟨rfl, ⟨rfl, ⟨rfl, ⟨rfl, ⟨rfl, ⟨rfl, ⟨rfl, trivial⟩⟩⟩⟩⟩⟩⟩⟩⟩⟩⟩⟩ h
  · replace h := h.2 c
    refine lg_iload (k := 12) rfl (by decide +kernel : decode method_12_code 547 = .ok (.iload 12, 2)) ?_
    refine lg_iconst (n := 1) (by decide) (by decide +kernel : decode method_12_code 549 = .ok (.iconst 1, 1)) ?_
    obtain ⟨h1, h⟩ := h
    refine lg_iadd h1 (by decide +kernel : decode method_12_code 550 = .ok (.iadd, 1)) ?_
    refine lg_iload_n (k := 1) rfl rfl (by decide +kernel : decode method_12_code 551 = .ok (.iload_n 1, 1)) ?_
    refine lg_icmp_ge (t := 596) (by decide +kernel : decode method_12_code 552 = .ok (.if_icmp .ge 44, 3)) (by decide) ⟨fun c => ?_, fun c => ?_⟩
    · replace h := h.1 c
      exact lg_sub (ls := [some (vm_r o0), some (vm_i v1), some (vm_i v2), some (vm_i v3), none, some (vm_i x0), some (vm_i v6), some (vm_l w7), none, some (vm_d e9), none, some (vm_i v11), some (vm_i v12), some (vm_i v13), some (vm_i v14), none, none, none, none, none, none, none, none, none]) ⟨rfl, ⟨rfl, ⟨rfl, ⟨rfl, ⟨rfl, ⟨rfl, ⟨rfl, ⟨rfl, ⟨rfl, ⟨rfl, ⟨rfl, ⟨rfl, trivial⟩⟩⟩⟩⟩⟩⟩⟩⟩⟩⟩⟩ h
    · replace h := h.2 c
      refine lg_iload (k := 6) rfl (by decide +kernel : decode method_12_code 555 = .ok (.iload 6, 2)) ?_
      refine lg_if_eq (t := 596) (by decide +kernel : decode method_12_code 557 = .ok (.ifCond .eq 39, 3)) (by decide) ⟨fun c => ?_, fun c => ?_⟩
      · replace h := h.1 c
        exact lg_sub (ls := [some (vm_r o0), some (vm_i v1), some (vm_i v2), some (vm_i v3), none, some (vm_i x0), some (vm_i v6), some (vm_l w7), none, some (vm_d e9), none, some (vm_i v11), some (vm_i v12), some (vm_i v13), some (vm_i v14), none, none, none, none, none, none, none, none, none]) ⟨rfl, ⟨rfl, ⟨rfl, ⟨rfl, ⟨rfl, ⟨rfl, ⟨rfl, ⟨rfl, ⟨rfl, ⟨rfl, ⟨rfl, ⟨rfl, trivial⟩⟩⟩⟩⟩⟩⟩⟩⟩⟩⟩⟩ h
      · replace h := h.2 c
        refine lg_iload (k := 17) rfl (by decide +kernel : decode method_12_code 560 = .ok (.iload 17, 2)) ?_
        refine lg_aload_n (k := 0) rfl rfl (by decide +kernel : decode method_12_code 562 = .ok (.aload_n 0, 1)) ?_
        refine lg_iconst (n := 4) (by decide) (by decide +kernel : decode method_12_code 563 = .ok (.iconst 4, 1)) ?_
        refine lg_N 115 [4] (show lCls 115 1 = true by decide +kernel) (Nat.le_of_ble_eq_true rfl) (vm_hw_in (i := 604) (by decide +kernel)) (by decide +kernel : decode method_12_code 564 = .ok (.invokevirtual 40, 3)) h (fun z4 S3 h => ?_)
        refine lg_aload_n (k := 0) rfl rfl (by decide +kernel : decode method_12_code 567 = .ok (.aload_n 0, 1)) ?_
        refine lg_iconst (n := 5) (by decide) (by decide +kernel : decode method_12_code 568 = .ok (.iconst 5, 1)) ?_
        refine lg_N 115 [5] (show lCls 115 1 = true by decide +kernel) (Nat.le_of_ble_eq_true rfl) (vm_hw_in (i := 604) (by decide +kernel)) (by decide +kernel : decode method_12_code 569 = .ok (.invokevirtual 40, 3)) h (fun z6 S5 h => ?_)
        obtain ⟨h1, h⟩ := h
        refine lg_imul h1 (by decide +kernel : decode method_12_code 572 = .ok (.imul, 1)) ?_
        obtain ⟨h1, h⟩ := h
        refine lg_iadd h1 (by decide +kernel : decode method_12_code 573 = .ok (.iadd, 1)) ?_
        refine lg_aload_n (k := 0) rfl rfl (by decide +kernel : decode method_12_code 574 = .ok (.aload_n 0, 1)) ?_
        refine lg_iload_n (k := 2) rfl rfl (by decide +kernel : decode method_12_code 575 = .ok (.iload_n 2, 1)) ?_
        refine lg_iload (k := 13) rfl (by decide +kernel : decode method_12_code 576 = .ok (.iload 13, 2)) ?_
        obtain ⟨h1, h⟩ := h
        refine lg_iadd h1 (by decide +kernel : decode method_12_code 578 = .ok (.iadd, 1)) ?_
        refine lg_iconst (n := 1) (by decide) (by decide +kernel : decode method_12_code 579 = .ok (.iconst 1, 1)) ?_
        refine lg_N 125 [(v2 + v13), 1] (show lCls 125 2 = true by decide +kernel) (Nat.le_of_ble_eq_true rfl) (vm_hw_in (i := 1169) (by decide +kernel)) (by decide +kernel : decode method_12_code 580 = .ok (.invokevirtual 187, 3)) h (fun z8 S7 h => ?_)
        obtain ⟨h1, h⟩ := h
        refine lg_iadd h1 (by decide +kernel : decode method_12_code 583 = .ok (.iadd, 1)) ?_
        refine lg_iload (k := 16) rfl (by decide +kernel : decode method_12_code 584 = .ok (.iload 16, 2)) ?_
        refine lg_icmp_le (t := 593) (by decide +kernel : decode method_12_code 586 = .ok (.if_icmp .le 7, 3)) (by decide) ⟨fun c => ?_, fun c => ?_⟩
        · replace h := h.1 c
          refine lg_iconst (n := 0) (by decide) (by decide +kernel : decode method_12_code 593 = .ok (.iconst 0, 1)) ?_
          exact lg_sub (ls := [some (vm_r o0), some (vm_i v1), some (vm_i v2), some (vm_i v3), none, some (vm_i x0), none, some (vm_l w7), none, some (vm_d e9), none, some (vm_i v11), some (vm_i v12), some (vm_i v13), some (vm_i v14), none, none, none, none, none, none, none, none, none]) ⟨rfl, ⟨rfl, ⟨rfl, ⟨rfl, ⟨rfl, ⟨rfl, ⟨rfl, ⟨rfl, ⟨rfl, ⟨rfl, ⟨rfl, trivial⟩⟩⟩⟩⟩⟩⟩⟩⟩⟩⟩ h
        · replace h := h.2 c
          refine lg_iconst (n := 1) (by decide) (by decide +kernel : decode method_12_code 589 = .ok (.iconst 1, 1)) ?_
          refine lg_goto (t := 594) (by decide +kernel : decode method_12_code 590 = .ok (.goto 4, 3)) (by decide) ?_
          exact lg_sub (ls := [some (vm_r o0), some (vm_i v1), some (vm_i v2), some (vm_i v3), none, some (vm_i x0), none, some (vm_l w7), none, some (vm_d e9), none, some (vm_i v11), some (vm_i v12), some (vm_i v13), some (vm_i v14), none, none, none, none, none, none, none, none, none]) ⟨rfl, ⟨rfl, ⟨rfl, ⟨rfl, ⟨rfl, ⟨rfl, ⟨rfl, ⟨rfl, ⟨rfl, ⟨rfl, ⟨rfl, trivial⟩⟩⟩⟩⟩⟩⟩⟩⟩⟩⟩ h
set_option maxHeartbeats 4000000 in
theorem rL_stands_596 {S : lwS} {Qp : Option vm_V → lwS → Prop} {o0 : Nat} {v1 : Int} {v2 : Int} {v3 : Int} {v5 : Int} {v6 : Int} {w7 : Int} {e9 : UInt64} {v11 : Int} {v12 : Int} {v13 : Int} {v14 : Int} (h : lG lK_stands 607 [some (vm_r o0), some (vm_i v1), some (vm_i v2), some (vm_i v3), none, some (vm_i v5), some (vm_i v6), some (vm_l w7), none, some (vm_d e9), none, some (vm_i v11), some (vm_i v12), some (vm_i v13), some (vm_i v14), none, none, none, some (vm_i 1000), some (vm_i ((-1))), some (vm_i 0), none, none, none] [] S Qp) : lG lK_stands 596 [some (vm_r o0), some (vm_i v1), some (vm_i v2), some (vm_i v3), none, some (vm_i v5), some (vm_i v6), some (vm_l w7), none, some (vm_d e9), none, some (vm_i v11), some (vm_i v12), some (vm_i v13), some (vm_i v14), none, none, none, none, none, none, none, none, none] [] S Qp := by
  refine lg_sipush (n := 1000) (by decide) (by decide) (by decide +kernel : decode method_12_code 596 = .ok (.sipush 1000, 3)) ?_
  refine lg_istore (k := 18) (l1 := [some (vm_r o0), some (vm_i v1), some (vm_i v2), some (vm_i v3), none, some (vm_i v5), some (vm_i v6), some (vm_l w7), none, some (vm_d e9), none, some (vm_i v11), some (vm_i v12), some (vm_i v13), some (vm_i v14), none, none, none, some (vm_i 1000), none, none, none, none, none]) rfl rfl (by decide +kernel : decode method_12_code 599 = .ok (.istore 18, 2)) ?_
  refine lg_iconst (n := (-1)) (by decide) (by decide +kernel : decode method_12_code 601 = .ok (.iconst (-1), 1)) ?_
  refine lg_istore (k := 19) (l1 := [some (vm_r o0), some (vm_i v1), some (vm_i v2), some (vm_i v3), none, some (vm_i v5), some (vm_i v6), some (vm_l w7), none, some (vm_d e9), none, some (vm_i v11), some (vm_i v12), some (vm_i v13), some (vm_i v14), none, none, none, some (vm_i 1000), some (vm_i ((-1))), none, none, none, none]) rfl rfl (by decide +kernel : decode method_12_code 602 = .ok (.istore 19, 2)) ?_
  refine lg_iconst (n := 0) (by decide) (by decide +kernel : decode method_12_code 604 = .ok (.iconst 0, 1)) ?_
  refine lg_istore (k := 20) (l1 := [some (vm_r o0), some (vm_i v1), some (vm_i v2), some (vm_i v3), none, some (vm_i v5), some (vm_i v6), some (vm_l w7), none, some (vm_d e9), none, some (vm_i v11), some (vm_i v12), some (vm_i v13), some (vm_i v14), none, none, none, some (vm_i 1000), some (vm_i ((-1))), some (vm_i 0), none, none, none]) rfl rfl (by decide +kernel : decode method_12_code 605 = .ok (.istore 20, 2)) ?_
  exact h
set_option maxHeartbeats 4000000 in
theorem rL_stands_594 {S : lwS} {Qp : Option vm_V → lwS → Prop} {o0 : Nat} {v1 : Int} {v2 : Int} {v3 : Int} {v5 : Int} {w7 : Int} {e9 : UInt64} {v11 : Int} {v12 : Int} {v13 : Int} {v14 : Int} {x0 : Int} (h : lG lK_stands 596 [some (vm_r o0), some (vm_i v1), some (vm_i v2), some (vm_i v3), none, some (vm_i v5), some (vm_i x0), some (vm_l w7), none, some (vm_d e9), none, some (vm_i v11), some (vm_i v12), some (vm_i v13), some (vm_i v14), none, none, none, none, none, none, none, none, none] [] S Qp) : lG lK_stands 594 [some (vm_r o0), some (vm_i v1), some (vm_i v2), some (vm_i v3), none, some (vm_i v5), none, some (vm_l w7), none, some (vm_d e9), none, some (vm_i v11), some (vm_i v12), some (vm_i v13), some (vm_i v14), none, none, none, none, none, none, none, none, none] [vm_i x0] S Qp := by
  refine lg_istore (k := 6) (l1 := [some (vm_r o0), some (vm_i v1), some (vm_i v2), some (vm_i v3), none, some (vm_i v5), some (vm_i x0), some (vm_l w7), none, some (vm_d e9), none, some (vm_i v11), some (vm_i v12), some (vm_i v13), some (vm_i v14), none, none, none, none, none, none, none, none, none]) rfl rfl (by decide +kernel : decode method_12_code 594 = .ok (.istore 6, 2)) ?_
  exact h
set_option maxHeartbeats 4000000 in
theorem rL_stands_607 {S : lwS} {Qp : Option vm_V → lwS → Prop} {o0 : Nat} {v1 : Int} {v2 : Int} {v3 : Int} {v5 : Int} {v6 : Int} {w7 : Int} {e9 : UInt64} {v11 : Int} {v12 : Int} {v13 : Int} {v14 : Int} {v18 : Int} {v19 : Int} {v20 : Int} (h : lNn 128 o0 [v12, 2] S (fun z2 S1 => (z2 ≤ v20 → (lG lK_stands 794 [some (vm_r o0), some (vm_i v1), some (vm_i v2), some (vm_i v3), none, some (vm_i v5), some (vm_i v6), some (vm_l w7), none, some (vm_d e9), none, some (vm_i v11), some (vm_i v12), some (vm_i v13), none, none, none, none, some (vm_i v18), some (vm_i v19), none, none, none, none] [] S1 Qp)) ∧ (¬ (z2 ≤ v20) → ((v6 = 0 → (lG lK_stands 794 [some (vm_r o0), some (vm_i v1), some (vm_i v2), some (vm_i v3), none, some (vm_i v5), some (vm_i v6), some (vm_l w7), none, some (vm_d e9), none, some (vm_i v11), some (vm_i v12), some (vm_i v13), none, none, none, none, some (vm_i v18), some (vm_i v19), none, none, none, none] [] S1 Qp)) ∧ (¬ (v6 = 0) → (lNn 129 o0 [v12, v20] S1 (fun z4 S3 => lNn 131 o0 [v12, v20] S3 (fun z6 S5 => (0 ≤ z6 → ((vm_32 (v20 + 1)) ∧ (lNn 129 o0 [v12, (v20 + 1)] S5 (fun z8 S7 => lNn 119 o0 [z4, z8, v14] S7 (fun z10 S9 => (vm_32 (z10 - 9)) ∧ ((vm_32 (v20 + 1)) ∧ (lNn 129 o0 [v12, (v20 + 1)] S9 (fun z12 S11 => lNn 118 o0 [z4, z12, (z10 - 9)] S11 (fun z14 S13 => (¬ z6 = z14 → (lG lK_stands 757 [some (vm_r o0), some (vm_i v1), some (vm_i v2), some (vm_i v3), none, some (vm_i v5), none, some (vm_l w7), none, some (vm_d e9), none, some (vm_i v11), some (vm_i v12), some (vm_i v13), some (vm_i v14), none, none, none, some (vm_i v18), some (vm_i v19), some (vm_i v20), none, some (vm_i z6), none] [vm_i 0] S13 Qp)) ∧ (¬ (¬ z6 = z14) → ((vm_32 (v20 + 1)) ∧ (lNn 130 o0 [v12, (v20 + 1)] S13 (fun z16 S15 => lNn 130 o0 [v12, v20] S15 (fun z18 S17 => lNn 117 o0 [z4, 0] S17 (fun z20 S19 => (vm_32 (z20 + ((z10 - 9)))) ∧ (lNn 115 o0 [5] S19 (fun z22 S21 => (vm_32 (((z20 + ((z10 - 9)))) * z22)) ∧ ((vm_32 (z18 + ((((z20 + ((z10 - 9)))) * z22)))) ∧ ((¬ z16 = ((z18 + ((((z20 + ((z10 - 9)))) * z22)))) → (lG lK_stands 757 [some (vm_r o0), some (vm_i v1), some (vm_i v2), some (vm_i v3), none, some (vm_i v5), none, some (vm_l w7), none, some (vm_d e9), none, some (vm_i v11), some (vm_i v12), some (vm_i v13), some (vm_i v14), none, none, none, some (vm_i v18), some (vm_i v19), some (vm_i v20), none, some (vm_i z6), none] [vm_i 0] S21 Qp)) ∧ (¬ (¬ z16 = ((z18 + ((((z20 + ((z10 - 9)))) * z22))))) → ((v14 ≤ z6 → (lG lK_stands 757 [some (vm_r o0), some (vm_i v1), some (vm_i v2), some (vm_i v3), none, some (vm_i v5), none, some (vm_l w7), none, some (vm_d e9), none, some (vm_i v11), some (vm_i v12), some (vm_i v13), some (vm_i v14), none, none, none, some (vm_i v18), some (vm_i v19), some (vm_i v20), none, some (vm_i z6), none] [vm_i 1] S21 Qp)) ∧ (¬ (v14 ≤ z6) → (lNn 115 o0 [10] S21 (fun z24 S23 => (z24 ≤ 0 → (lG lK_stands 757 [some (vm_r o0), some (vm_i v1), some (vm_i v2), some (vm_i v3), none, some (vm_i v5), none, some (vm_l w7), none, some (vm_d e9), none, some (vm_i v11), some (vm_i v12), some (vm_i v13), some (vm_i v14), none, none, none, some (vm_i v18), some (vm_i v19), some (vm_i v20), none, some (vm_i z6), none] [vm_i 0] S23 Qp)) ∧ (¬ (z24 ≤ 0) → (lG lK_stands 757 [some (vm_r o0), some (vm_i v1), some (vm_i v2), some (vm_i v3), none, some (vm_i v5), none, some (vm_l w7), none, some (vm_d e9), none, some (vm_i v11), some (vm_i v12), some (vm_i v13), some (vm_i v14), none, none, none, some (vm_i v18), some (vm_i v19), some (vm_i v20), none, some (vm_i z6), none] [vm_i 1] S23 Qp)))))))))))))))))))))))))) ∧ (¬ (0 ≤ z6) → (lG lK_stands 788 [some (vm_r o0), some (vm_i v1), some (vm_i v2), some (vm_i v3), none, some (vm_i v5), some (vm_i v6), some (vm_l w7), none, some (vm_d e9), none, some (vm_i v11), some (vm_i v12), some (vm_i v13), some (vm_i v14), none, none, none, some (vm_i v18), some (vm_i v19), some (vm_i v20), none, none, none] [] S5 Qp)))))))))) : lG lK_stands 607 [some (vm_r o0), some (vm_i v1), some (vm_i v2), some (vm_i v3), none, some (vm_i v5), some (vm_i v6), some (vm_l w7), none, some (vm_d e9), none, some (vm_i v11), some (vm_i v12), some (vm_i v13), some (vm_i v14), none, none, none, some (vm_i v18), some (vm_i v19), some (vm_i v20), none, none, none] [] S Qp := by
  refine lg_iload (k := 20) rfl (by decide +kernel : decode method_12_code 607 = .ok (.iload 20, 2)) ?_
  refine lg_aload_n (k := 0) rfl rfl (by decide +kernel : decode method_12_code 609 = .ok (.aload_n 0, 1)) ?_
  refine lg_iload (k := 12) rfl (by decide +kernel : decode method_12_code 610 = .ok (.iload 12, 2)) ?_
  refine lg_iconst (n := 2) (by decide) (by decide +kernel : decode method_12_code 612 = .ok (.iconst 2, 1)) ?_
  refine lg_N 128 [v12, 2] (show lCls 128 2 = true by decide +kernel) (Nat.le_of_ble_eq_true rfl) (vm_hw_in (i := 1136) (by decide +kernel)) (by decide +kernel : decode method_12_code 613 = .ok (.invokevirtual 174, 3)) h (fun z2 S1 h => ?_)
  refine lg_icmp_ge (t := 794) (by decide +kernel : decode method_12_code 616 = .ok (.if_icmp .ge 178, 3)) (by decide) ⟨fun c => ?_, fun c => ?_⟩
  · replace h := h.1 c
    exact lg_sub (ls := [some (vm_r o0), some (vm_i v1), some (vm_i v2), some (vm_i v3), none, some (vm_i v5), some (vm_i v6), some (vm_l w7), none, some (vm_d e9), none, some (vm_i v11), some (vm_i v12), some (vm_i v13), none, none, none, none, some (vm_i v18), some (vm_i v19), none, none, none, none]) ⟨rfl, ⟨rfl, ⟨rfl, ⟨rfl, ⟨rfl, ⟨rfl, ⟨rfl, ⟨rfl, ⟨rfl, ⟨rfl, ⟨rfl, ⟨rfl, ⟨rfl, trivial⟩⟩⟩⟩⟩⟩⟩⟩⟩⟩⟩⟩⟩ h
  · replace h := h.2 c
    refine lg_iload (k := 6) rfl (by decide +kernel : decode method_12_code 619 = .ok (.iload 6, 2)) ?_
    refine lg_if_eq (t := 794) (by decide +kernel : decode method_12_code 621 = .ok (.ifCond .eq 173, 3)) (by decide) ⟨fun c => ?_, fun c => ?_⟩
    · replace h := h.1 c
      exact lg_sub (ls := [some (vm_r o0), some (vm_i v1), some (vm_i v2), some (vm_i v3), none, some (vm_i v5), some (vm_i v6), some (vm_l w7), none, some (vm_d e9), none, some (vm_i v11), some (vm_i v12), some (vm_i v13), none, none, none, none, some (vm_i v18), some (vm_i v19), none, none, none, none]) ⟨rfl, ⟨rfl, ⟨rfl, ⟨rfl, ⟨rfl, ⟨rfl, ⟨rfl, ⟨rfl, ⟨rfl, ⟨rfl, ⟨rfl, ⟨rfl, ⟨rfl, trivial⟩⟩⟩⟩⟩⟩⟩⟩⟩⟩⟩⟩⟩ h
    · replace h := h.2 c
      refine lg_aload_n (k := 0) rfl rfl (by decide +kernel : decode method_12_code 624 = .ok (.aload_n 0, 1)) ?_
      refine lg_iload (k := 12) rfl (by decide +kernel : decode method_12_code 625 = .ok (.iload 12, 2)) ?_
      refine lg_iload (k := 20) rfl (by decide +kernel : decode method_12_code 627 = .ok (.iload 20, 2)) ?_
      refine lg_N 129 [v12, v20] (show lCls 129 2 = true by decide +kernel) (Nat.le_of_ble_eq_true rfl) (vm_hw_in (i := 1178) (by decide +kernel)) (by decide +kernel : decode method_12_code 629 = .ok (.invokevirtual 190, 3)) h (fun z4 S3 h => ?_)
      refine lg_istore (k := 21) (l1 := [some (vm_r o0), some (vm_i v1), some (vm_i v2), some (vm_i v3), none, some (vm_i v5), some (vm_i v6), some (vm_l w7), none, some (vm_d e9), none, some (vm_i v11), some (vm_i v12), some (vm_i v13), some (vm_i v14), none, none, none, some (vm_i v18), some (vm_i v19), some (vm_i v20), some (vm_i z4), none, none]) rfl rfl (by decide +kernel : decode method_12_code 632 = .ok (.istore 21, 2)) ?_
      refine lg_aload_n (k := 0) rfl rfl (by decide +kernel : decode method_12_code 634 = .ok (.aload_n 0, 1)) ?_
      refine lg_iload (k := 12) rfl (by decide +kernel : decode method_12_code 635 = .ok (.iload 12, 2)) ?_
      refine lg_iload (k := 20) rfl (by decide +kernel : decode method_12_code 637 = .ok (.iload 20, 2)) ?_
      refine lg_N 131 [v12, v20] (show lCls 131 2 = true by decide +kernel) (Nat.le_of_ble_eq_true rfl) (vm_hw_in (i := 1182) (by decide +kernel)) (by decide +kernel : decode method_12_code 639 = .ok (.invokevirtual 193, 3)) h (fun z6 S5 h => ?_)
      refine lg_istore (k := 22) (l1 := [some (vm_r o0), some (vm_i v1), some (vm_i v2), some (vm_i v3), none, some (vm_i v5), some (vm_i v6), some (vm_l w7), none, some (vm_d e9), none, some (vm_i v11), some (vm_i v12), some (vm_i v13), some (vm_i v14), none, none, none, some (vm_i v18), some (vm_i v19), some (vm_i v20), some (vm_i z4), some (vm_i z6), none]) rfl rfl (by decide +kernel : decode method_12_code 642 = .ok (.istore 22, 2)) ?_
      refine lg_iload (k := 22) rfl (by decide +kernel : decode method_12_code 644 = .ok (.iload 22, 2)) ?_
      refine lg_if_ge (t := 652) (by decide +kernel : decode method_12_code 646 = .ok (.ifCond .ge 6, 3)) (by decide) ⟨fun c => ?_, fun c => ?_⟩
      · replace h := h.1 c
        refine lg_aload_n (k := 0) rfl rfl (by decide +kernel : decode method_12_code 652 = .ok (.aload_n 0, 1)) ?_
        refine lg_iload (k := 21) rfl (by decide +kernel : decode method_12_code 653 = .ok (.iload 21, 2)) ?_
        refine lg_aload_n (k := 0) rfl rfl (by decide +kernel : decode method_12_code 655 = .ok (.aload_n 0, 1)) ?_
        refine lg_iload (k := 12) rfl (by decide +kernel : decode method_12_code 656 = .ok (.iload 12, 2)) ?_
        refine lg_iload (k := 20) rfl (by decide +kernel : decode method_12_code 658 = .ok (.iload 20, 2)) ?_
        refine lg_iconst (n := 1) (by decide) (by decide +kernel : decode method_12_code 660 = .ok (.iconst 1, 1)) ?_
        obtain ⟨h1, h⟩ := h
        refine lg_iadd h1 (by decide +kernel : decode method_12_code 661 = .ok (.iadd, 1)) ?_
        refine lg_N 129 [v12, (v20 + 1)] (show lCls 129 2 = true by decide +kernel) (Nat.le_of_ble_eq_true rfl) (vm_hw_in (i := 1178) (by decide +kernel)) (by decide +kernel : decode method_12_code 662 = .ok (.invokevirtual 190, 3)) h (fun z8 S7 h => ?_)
        refine lg_iload (k := 14) rfl (by decide +kernel : decode method_12_code 665 = .ok (.iload 14, 2)) ?_
        refine lg_N 119 [z4, z8, v14] (show lCls 119 3 = true by decide +kernel) (Nat.le_of_ble_eq_true rfl) (vm_hw_in (i := 1085) (by decide +kernel)) (by decide +kernel : decode method_12_code 667 = .ok (.invokevirtual 153, 3)) h (fun z10 S9 h => ?_)
        refine lg_bipush (n := 9) (by decide) (by decide) (by decide +kernel : decode method_12_code 670 = .ok (.bipush 9, 2)) ?_
        obtain ⟨h1, h⟩ := h
        refine lg_isub h1 (by decide +kernel : decode method_12_code 672 = .ok (.isub, 1)) ?_
        refine lg_istore (k := 23) (l1 := [some (vm_r o0), some (vm_i v1), some (vm_i v2), some (vm_i v3), none, some (vm_i v5), some (vm_i v6), some (vm_l w7), none, some (vm_d e9), none, some (vm_i v11), some (vm_i v12), some (vm_i v13), some (vm_i v14), none, none, none, some (vm_i v18), some (vm_i v19), some (vm_i v20), some (vm_i z4), some (vm_i z6), some (vm_i ((z10 - 9)))]) rfl rfl (by decide +kernel : decode method_12_code 673 = .ok (.istore 23, 2)) ?_
        refine lg_iload (k := 22) rfl (by decide +kernel : decode method_12_code 675 = .ok (.iload 22, 2)) ?_
        refine lg_aload_n (k := 0) rfl rfl (by decide +kernel : decode method_12_code 677 = .ok (.aload_n 0, 1)) ?_
        refine lg_iload (k := 21) rfl (by decide +kernel : decode method_12_code 678 = .ok (.iload 21, 2)) ?_
        refine lg_aload_n (k := 0) rfl rfl (by decide +kernel : decode method_12_code 680 = .ok (.aload_n 0, 1)) ?_
        refine lg_iload (k := 12) rfl (by decide +kernel : decode method_12_code 681 = .ok (.iload 12, 2)) ?_
        refine lg_iload (k := 20) rfl (by decide +kernel : decode method_12_code 683 = .ok (.iload 20, 2)) ?_
        refine lg_iconst (n := 1) (by decide) (by decide +kernel : decode method_12_code 685 = .ok (.iconst 1, 1)) ?_
        obtain ⟨h1, h⟩ := h
        refine lg_iadd h1 (by decide +kernel : decode method_12_code 686 = .ok (.iadd, 1)) ?_
        refine lg_N 129 [v12, (v20 + 1)] (show lCls 129 2 = true by decide +kernel) (Nat.le_of_ble_eq_true rfl) (vm_hw_in (i := 1178) (by decide +kernel)) (by decide +kernel : decode method_12_code 687 = .ok (.invokevirtual 190, 3)) h (fun z12 S11 h => ?_)
        refine lg_iload (k := 23) rfl (by decide +kernel : decode method_12_code 690 = .ok (.iload 23, 2)) ?_
        refine lg_N 118 [z4, z12, (z10 - 9)] (show lCls 118 3 = true by decide +kernel) (Nat.le_of_ble_eq_true rfl) (vm_hw_in (i := 1080) (by decide +kernel)) (by decide +kernel : decode method_12_code 692 = .ok (.invokevirtual 150, 3)) h (fun z14 S13 h => ?_)
        refine lg_icmp_ne (t := 756) (by decide +kernel : decode method_12_code 695 = .ok (.if_icmp .ne 61, 3)) (by decide) ⟨fun c => ?_, fun c => ?_⟩
        · replace h := h.1 c
          refine lg_iconst (n := 0) (by decide) (by decide +kernel : decode method_12_code 756 = .ok (.iconst 0, 1)) ?_
          exact lg_sub (ls := [some (vm_r o0), some (vm_i v1), some (vm_i v2), some (vm_i v3), none, some (vm_i v5), none, some (vm_l w7), none, some (vm_d e9), none, some (vm_i v11), some (vm_i v12), some (vm_i v13), some (vm_i v14), none, none, none, some (vm_i v18), some (vm_i v19), some (vm_i v20), none, some (vm_i z6), none]) ⟨rfl, ⟨rfl, ⟨rfl, ⟨rfl, ⟨rfl, ⟨rfl, ⟨rfl, ⟨rfl, ⟨rfl, ⟨rfl, ⟨rfl, ⟨rfl, ⟨rfl, ⟨rfl, ⟨rfl, trivial⟩⟩⟩⟩⟩⟩⟩⟩⟩⟩⟩⟩⟩⟩⟩ h
        · replace h := h.2 c
          refine lg_aload_n (k := 0) rfl rfl (by decide +kernel : decode method_12_code 698 = .ok (.aload_n 0, 1)) ?_
          refine lg_iload (k := 12) rfl (by decide +kernel : decode method_12_code 699 = .ok (.iload 12, 2)) ?_
          refine lg_iload (k := 20) rfl (by decide +kernel : decode method_12_code 701 = .ok (.iload 20, 2)) ?_
          refine lg_iconst (n := 1) (by decide) (by decide +kernel : decode method_12_code 703 = .ok (.iconst 1, 1)) ?_
          obtain ⟨h1, h⟩ := h
          refine lg_iadd h1 (by decide +kernel : decode method_12_code 704 = .ok (.iadd, 1)) ?_
          refine lg_N 130 [v12, (v20 + 1)] (show lCls 130 2 = true by decide +kernel) (Nat.le_of_ble_eq_true rfl) (vm_hw_in (i := 1151) (by decide +kernel)) (by decide +kernel : decode method_12_code 705 = .ok (.invokevirtual 177, 3)) h (fun z16 S15 h => ?_)
          refine lg_aload_n (k := 0) rfl rfl (by decide +kernel : decode method_12_code 708 = .ok (.aload_n 0, 1)) ?_
          refine lg_iload (k := 12) rfl (by decide +kernel : decode method_12_code 709 = .ok (.iload 12, 2)) ?_
          refine lg_iload (k := 20) rfl (by decide +kernel : decode method_12_code 711 = .ok (.iload 20, 2)) ?_
          refine lg_N 130 [v12, v20] (show lCls 130 2 = true by decide +kernel) (Nat.le_of_ble_eq_true rfl) (vm_hw_in (i := 1151) (by decide +kernel)) (by decide +kernel : decode method_12_code 713 = .ok (.invokevirtual 177, 3)) h (fun z18 S17 h => ?_)
          refine lg_aload_n (k := 0) rfl rfl (by decide +kernel : decode method_12_code 716 = .ok (.aload_n 0, 1)) ?_
          refine lg_iload (k := 21) rfl (by decide +kernel : decode method_12_code 717 = .ok (.iload 21, 2)) ?_
          refine lg_iconst (n := 0) (by decide) (by decide +kernel : decode method_12_code 719 = .ok (.iconst 0, 1)) ?_
          refine lg_N 117 [z4, 0] (show lCls 117 2 = true by decide +kernel) (Nat.le_of_ble_eq_true rfl) (vm_hw_in (i := 1117) (by decide +kernel)) (by decide +kernel : decode method_12_code 720 = .ok (.invokevirtual 171, 3)) h (fun z20 S19 h => ?_)
          refine lg_iload (k := 23) rfl (by decide +kernel : decode method_12_code 723 = .ok (.iload 23, 2)) ?_
          obtain ⟨h1, h⟩ := h
          refine lg_iadd h1 (by decide +kernel : decode method_12_code 725 = .ok (.iadd, 1)) ?_
          refine lg_aload_n (k := 0) rfl rfl (by decide +kernel : decode method_12_code 726 = .ok (.aload_n 0, 1)) ?_
          refine lg_iconst (n := 5) (by decide) (by decide +kernel : decode method_12_code 727 = .ok (.iconst 5, 1)) ?_
          refine lg_N 115 [5] (show lCls 115 1 = true by decide +kernel) (Nat.le_of_ble_eq_true rfl) (vm_hw_in (i := 604) (by decide +kernel)) (by decide +kernel : decode method_12_code 728 = .ok (.invokevirtual 40, 3)) h (fun z22 S21 h => ?_)
          obtain ⟨h1, h⟩ := h
          refine lg_imul h1 (by decide +kernel : decode method_12_code 731 = .ok (.imul, 1)) ?_
          obtain ⟨h1, h⟩ := h
          refine lg_iadd h1 (by decide +kernel : decode method_12_code 732 = .ok (.iadd, 1)) ?_
          refine lg_icmp_ne (t := 756) (by decide +kernel : decode method_12_code 733 = .ok (.if_icmp .ne 23, 3)) (by decide) ⟨fun c => ?_, fun c => ?_⟩
          · replace h := h.1 c
            refine lg_iconst (n := 0) (by decide) (by decide +kernel : decode method_12_code 756 = .ok (.iconst 0, 1)) ?_
            exact lg_sub (ls := [some (vm_r o0), some (vm_i v1), some (vm_i v2), some (vm_i v3), none, some (vm_i v5), none, some (vm_l w7), none, some (vm_d e9), none, some (vm_i v11), some (vm_i v12), some (vm_i v13), some (vm_i v14), none, none, none, some (vm_i v18), some (vm_i v19), some (vm_i v20), none, some (vm_i z6), none]) ⟨rfl, ⟨rfl, ⟨rfl, ⟨rfl, ⟨rfl, ⟨rfl, ⟨rfl, ⟨rfl, ⟨rfl, ⟨rfl, ⟨rfl, ⟨rfl, ⟨rfl, ⟨rfl, ⟨rfl, trivial⟩⟩⟩⟩⟩⟩⟩⟩⟩⟩⟩⟩⟩⟩⟩ h
          · replace h := h.2 c
            refine lg_iload (k := 22) rfl (by decide +kernel : decode method_12_code 736 = .ok (.iload 22, 2)) ?_
            refine lg_iload (k := 14) rfl (by decide +kernel : decode method_12_code 738 = .ok (.iload 14, 2)) ?_
            refine lg_icmp_ge (t := 752) (by decide +kernel : decode method_12_code 740 = .ok (.if_icmp .ge 12, 3)) (by decide) ⟨fun c => ?_, fun c => ?_⟩
            · replace h := h.1 c
              refine lg_iconst (n := 1) (by decide) (by decide +kernel : decode method_12_code 752 = .ok (.iconst 1, 1)) ?_
              refine lg_goto (t := 757) (by decide +kernel : decode method_12_code 753 = .ok (.goto 4, 3)) (by decide) ?_
              exact lg_sub (ls := [some (vm_r o0), some (vm_i v1), some (vm_i v2), some (vm_i v3), none, some (vm_i v5), none, some (vm_l w7), none, some (vm_d e9), none, some (vm_i v11), some (vm_i v12), some (vm_i v13), some (vm_i v14), none, none, none, some (vm_i v18), some (vm_i v19), some (vm_i v20), none, some (vm_i z6), none]) ⟨rfl, ⟨rfl, ⟨rfl, ⟨rfl, ⟨rfl, ⟨rfl, ⟨rfl, ⟨rfl, ⟨rfl, ⟨rfl, ⟨rfl, ⟨rfl, ⟨rfl, ⟨rfl, ⟨rfl, trivial⟩⟩⟩⟩⟩⟩⟩⟩⟩⟩⟩⟩⟩⟩⟩ h
            · replace h := h.2 c
              refine lg_aload_n (k := 0) rfl rfl (by decide +kernel : decode method_12_code 743 = .ok (.aload_n 0, 1)) ?_
              refine lg_bipush (n := 10) (by decide) (by decide) (by decide +kernel : decode method_12_code 744 = .ok (.bipush 10, 2)) ?_
              refine lg_N 115 [10] (show lCls 115 1 = true by decide +kernel) (Nat.le_of_ble_eq_true rfl) (vm_hw_in (i := 604) (by decide +kernel)) (by decide +kernel : decode method_12_code 746 = .ok (.invokevirtual 40, 3)) h (fun z24 S23 h => ?_)
              refine lg_if_le (t := 756) (by decide +kernel : decode method_12_code 749 = .ok (.ifCond .le 7, 3)) (by decide) ⟨fun c => ?_, fun c => ?_⟩
              · replace h := h.1 c
                refine lg_iconst (n := 0) (by decide) (by decide +kernel : decode method_12_code 756 = .ok (.iconst 0, 1)) ?_
                exact lg_sub (ls := [some (vm_r o0), some (vm_i v1), some (vm_i v2), some (vm_i v3), none, some (vm_i v5), none, some (vm_l w7), none, some (vm_d e9), none, some (vm_i v11), some (vm_i v12), some (vm_i v13), some (vm_i v14), none, none, none, some (vm_i v18), some (vm_i v19), some (vm_i v20), none, some (vm_i z6), none]) ⟨rfl, ⟨rfl, ⟨rfl, ⟨rfl, ⟨rfl, ⟨rfl, ⟨rfl, ⟨rfl, ⟨rfl, ⟨rfl, ⟨rfl, ⟨rfl, ⟨rfl, ⟨rfl, ⟨rfl, trivial⟩⟩⟩⟩⟩⟩⟩⟩⟩⟩⟩⟩⟩⟩⟩ h
              · replace h := h.2 c
                refine lg_iconst (n := 1) (by decide) (by decide +kernel : decode method_12_code 752 = .ok (.iconst 1, 1)) ?_
                refine lg_goto (t := 757) (by decide +kernel : decode method_12_code 753 = .ok (.goto 4, 3)) (by decide) ?_
                exact lg_sub (ls := [some (vm_r o0), some (vm_i v1), some (vm_i v2), some (vm_i v3), none, some (vm_i v5), none, some (vm_l w7), none, some (vm_d e9), none, some (vm_i v11), some (vm_i v12), some (vm_i v13), some (vm_i v14), none, none, none, some (vm_i v18), some (vm_i v19), some (vm_i v20), none, some (vm_i z6), none]) ⟨rfl, ⟨rfl, ⟨rfl, ⟨rfl, ⟨rfl, ⟨rfl, ⟨rfl, ⟨rfl, ⟨rfl, ⟨rfl, ⟨rfl, ⟨rfl, ⟨rfl, ⟨rfl, ⟨rfl, trivial⟩⟩⟩⟩⟩⟩⟩⟩⟩⟩⟩⟩⟩⟩⟩ h
      · replace h := h.2 c
        refine lg_goto (t := 788) (by decide +kernel : decode method_12_code 649 = .ok (.goto 139, 3)) (by decide) ?_
        exact lg_sub (ls := [some (vm_r o0), some (vm_i v1), some (vm_i v2), some (vm_i v3), none, some (vm_i v5), some (vm_i v6), some (vm_l w7), none, some (vm_d e9), none, some (vm_i v11), some (vm_i v12), some (vm_i v13), some (vm_i v14), none, none, none, some (vm_i v18), some (vm_i v19), some (vm_i v20), none, none, none]) ⟨rfl, ⟨rfl, ⟨rfl, ⟨rfl, ⟨rfl, ⟨rfl, ⟨rfl, ⟨rfl, ⟨rfl, ⟨rfl, ⟨rfl, ⟨rfl, ⟨rfl, ⟨rfl, ⟨rfl, trivial⟩⟩⟩⟩⟩⟩⟩⟩⟩⟩⟩⟩⟩⟩⟩ h
set_option maxHeartbeats 4000000 in
theorem rL_stands_794 {S : lwS} {Qp : Option vm_V → lwS → Prop} {o0 : Nat} {v1 : Int} {v2 : Int} {v3 : Int} {v5 : Int} {v6 : Int} {w7 : Int} {e9 : UInt64} {v11 : Int} {v12 : Int} {v13 : Int} {v18 : Int} {v19 : Int} (h : (v6 = 0 → (lG lK_stands 846 [some (vm_r o0), some (vm_i v1), some (vm_i v2), some (vm_i v3), none, some (vm_i v5), none, some (vm_l w7), none, some (vm_d e9), none, some (vm_i v11), some (vm_i v12), some (vm_i v13), none, none, none, none, none, none, none, none, none, none] [vm_i 0] S Qp)) ∧ (¬ (v6 = 0) → (lNn 132 o0 [v12] S (fun z2 S1 => (0 ≤ v19 → ((vm_32 (v19 - v18)) ∧ (lG lK_stands 820 [some (vm_r o0), some (vm_i v1), some (vm_i v2), some (vm_i v3), none, some (vm_i v5), none, some (vm_l w7), none, some (vm_d e9), none, some (vm_i v11), some (vm_i v12), some (vm_i v13), none, none, none, none, none, none, none, none, none, none] [vm_i ((v19 - v18)), vm_i z2] S1 Qp))) ∧ (¬ (0 ≤ v19) → (lG lK_stands 820 [some (vm_r o0), some (vm_i v1), some (vm_i v2), some (vm_i v3), none, some (vm_i v5), none, some (vm_l w7), none, some (vm_d e9), none, some (vm_i v11), some (vm_i v12), some (vm_i v13), none, none, none, none, none, none, none, none, none, none] [vm_i ((-2)), vm_i z2] S1 Qp)))))) : lG lK_stands 794 [some (vm_r o0), some (vm_i v1), some (vm_i v2), some (vm_i v3), none, some (vm_i v5), some (vm_i v6), some (vm_l w7), none, some (vm_d e9), none, some (vm_i v11), some (vm_i v12), some (vm_i v13), none, none, none, none, some (vm_i v18), some (vm_i v19), none, none, none, none] [] S Qp := by
  refine lg_iload (k := 6) rfl (by decide +kernel : decode method_12_code 794 = .ok (.iload 6, 2)) ?_
  refine lg_if_eq (t := 845) (by decide +kernel : decode method_12_code 796 = .ok (.ifCond .eq 49, 3)) (by decide) ⟨fun c => ?_, fun c => ?_⟩
  · replace h := h.1 c
    refine lg_iconst (n := 0) (by decide) (by decide +kernel : decode method_12_code 845 = .ok (.iconst 0, 1)) ?_
    exact lg_sub (ls := [some (vm_r o0), some (vm_i v1), some (vm_i v2), some (vm_i v3), none, some (vm_i v5), none, some (vm_l w7), none, some (vm_d e9), none, some (vm_i v11), some (vm_i v12), some (vm_i v13), none, none, none, none, none, none, none, none, none, none]) ⟨rfl, ⟨rfl, ⟨rfl, ⟨rfl, ⟨rfl, ⟨rfl, ⟨rfl, ⟨rfl, ⟨rfl, ⟨rfl, trivial⟩⟩⟩⟩⟩⟩⟩⟩⟩⟩ h
  · replace h := h.2 c
    refine lg_aload_n (k := 0) rfl rfl (by decide +kernel : decode method_12_code 799 = .ok (.aload_n 0, 1)) ?_
    refine lg_iload (k := 12) rfl (by decide +kernel : decode method_12_code 800 = .ok (.iload 12, 2)) ?_
    refine lg_N 132 [v12] (show lCls 132 1 = true by decide +kernel) (Nat.le_of_ble_eq_true rfl) (vm_hw_in (i := 1196) (by decide +kernel)) (by decide +kernel : decode method_12_code 802 = .ok (.invokevirtual 196, 3)) h (fun z2 S1 h => ?_)
    refine lg_iload (k := 19) rfl (by decide +kernel : decode method_12_code 805 = .ok (.iload 19, 2)) ?_
    refine lg_if_ge (t := 815) (by decide +kernel : decode method_12_code 807 = .ok (.ifCond .ge 8, 3)) (by decide) ⟨fun c => ?_, fun c => ?_⟩
    · replace h := h.1 c
      refine lg_iload (k := 19) rfl (by decide +kernel : decode method_12_code 815 = .ok (.iload 19, 2)) ?_
      refine lg_iload (k := 18) rfl (by decide +kernel : decode method_12_code 817 = .ok (.iload 18, 2)) ?_
      obtain ⟨h1, h⟩ := h
      refine lg_isub h1 (by decide +kernel : decode method_12_code 819 = .ok (.isub, 1)) ?_
      exact lg_sub (ls := [some (vm_r o0), some (vm_i v1), some (vm_i v2), some (vm_i v3), none, some (vm_i v5), none, some (vm_l w7), none, some (vm_d e9), none, some (vm_i v11), some (vm_i v12), some (vm_i v13), none, none, none, none, none, none, none, none, none, none]) ⟨rfl, ⟨rfl, ⟨rfl, ⟨rfl, ⟨rfl, ⟨rfl, ⟨rfl, ⟨rfl, ⟨rfl, ⟨rfl, trivial⟩⟩⟩⟩⟩⟩⟩⟩⟩⟩ h
    · replace h := h.2 c
      refine lg_bipush (n := (-2)) (by decide) (by decide) (by decide +kernel : decode method_12_code 810 = .ok (.bipush (-2), 2)) ?_
      refine lg_goto (t := 820) (by decide +kernel : decode method_12_code 812 = .ok (.goto 8, 3)) (by decide) ?_
      exact lg_sub (ls := [some (vm_r o0), some (vm_i v1), some (vm_i v2), some (vm_i v3), none, some (vm_i v5), none, some (vm_l w7), none, some (vm_d e9), none, some (vm_i v11), some (vm_i v12), some (vm_i v13), none, none, none, none, none, none, none, none, none, none]) ⟨rfl, ⟨rfl, ⟨rfl, ⟨rfl, ⟨rfl, ⟨rfl, ⟨rfl, ⟨rfl, ⟨rfl, ⟨rfl, trivial⟩⟩⟩⟩⟩⟩⟩⟩⟩⟩ h
set_option maxHeartbeats 4000000 in
theorem rL_stands_757 {S : lwS} {Qp : Option vm_V → lwS → Prop} {o0 : Nat} {v1 : Int} {v2 : Int} {v3 : Int} {v5 : Int} {w7 : Int} {e9 : UInt64} {v11 : Int} {v12 : Int} {v13 : Int} {v14 : Int} {v18 : Int} {v19 : Int} {v20 : Int} {v22 : Int} {x0 : Int} (h : (vf_n64 (FP.dadd e9 ((FP.i2d (Int32.ofInt v22))))) ∧ ((vm_32 (v11 + 1)) ∧ (lG lK_stands 788 [some (vm_r o0), some (vm_i v1), some (vm_i v2), some (vm_i v3), none, some (vm_i v5), some (vm_i x0), some (vm_l w7), none, some (vm_d ((FP.dadd e9 ((FP.i2d (Int32.ofInt v22)))))), none, some (vm_i ((v11 + 1))), some (vm_i v12), some (vm_i v13), some (vm_i v14), none, none, none, some (vm_i ((if v22 < v18 then v22 else v18))), some (vm_i ((if v19 < v22 then v22 else v19))), some (vm_i v20), none, none, none] [] S Qp))) : lG lK_stands 757 [some (vm_r o0), some (vm_i v1), some (vm_i v2), some (vm_i v3), none, some (vm_i v5), none, some (vm_l w7), none, some (vm_d e9), none, some (vm_i v11), some (vm_i v12), some (vm_i v13), some (vm_i v14), none, none, none, some (vm_i v18), some (vm_i v19), some (vm_i v20), none, some (vm_i v22), none] [vm_i x0] S Qp := by
  refine lg_istore (k := 6) (l1 := [some (vm_r o0), some (vm_i v1), some (vm_i v2), some (vm_i v3), none, some (vm_i v5), some (vm_i x0), some (vm_l w7), none, some (vm_d e9), none, some (vm_i v11), some (vm_i v12), some (vm_i v13), some (vm_i v14), none, none, none, some (vm_i v18), some (vm_i v19), some (vm_i v20), none, some (vm_i v22), none]) rfl rfl (by decide +kernel : decode method_12_code 757 = .ok (.istore 6, 2)) ?_
  refine lg_iload (k := 18) rfl (by decide +kernel : decode method_12_code 759 = .ok (.iload 18, 2)) ?_
  refine lg_iload (k := 22) rfl (by decide +kernel : decode method_12_code 761 = .ok (.iload 22, 2)) ?_
  refine lg_min (Nat.le_of_ble_eq_true rfl) (vm_hw_in (i := 1108) (by decide +kernel)) (by decide +kernel : decode method_12_code 763 = .ok (.invokestatic 165, 3)) ?_
  refine lg_istore (k := 18) (l1 := [some (vm_r o0), some (vm_i v1), some (vm_i v2), some (vm_i v3), none, some (vm_i v5), some (vm_i x0), some (vm_l w7), none, some (vm_d e9), none, some (vm_i v11), some (vm_i v12), some (vm_i v13), some (vm_i v14), none, none, none, some (vm_i ((if v22 < v18 then v22 else v18))), some (vm_i v19), some (vm_i v20), none, some (vm_i v22), none]) rfl rfl (by decide +kernel : decode method_12_code 766 = .ok (.istore 18, 2)) ?_
  refine lg_iload (k := 19) rfl (by decide +kernel : decode method_12_code 768 = .ok (.iload 19, 2)) ?_
  refine lg_iload (k := 22) rfl (by decide +kernel : decode method_12_code 770 = .ok (.iload 22, 2)) ?_
  refine lg_max (Nat.le_of_ble_eq_true rfl) (vm_hw_in (i := 1040) (by decide +kernel)) (by decide +kernel : decode method_12_code 772 = .ok (.invokestatic 124, 3)) ?_
  refine lg_istore (k := 19) (l1 := [some (vm_r o0), some (vm_i v1), some (vm_i v2), some (vm_i v3), none, some (vm_i v5), some (vm_i x0), some (vm_l w7), none, some (vm_d e9), none, some (vm_i v11), some (vm_i v12), some (vm_i v13), some (vm_i v14), none, none, none, some (vm_i ((if v22 < v18 then v22 else v18))), some (vm_i ((if v19 < v22 then v22 else v19))), some (vm_i v20), none, some (vm_i v22), none]) rfl rfl (by decide +kernel : decode method_12_code 775 = .ok (.istore 19, 2)) ?_
  refine lg_dload (k := 9) rfl (by decide +kernel : decode method_12_code 777 = .ok (.dload 9, 2)) ?_
  refine lg_iload (k := 22) rfl (by decide +kernel : decode method_12_code 779 = .ok (.iload 22, 2)) ?_
  refine lg_i2d (by decide +kernel : decode method_12_code 781 = .ok (.i2d, 1)) ?_
  obtain ⟨h1, h⟩ := h
  refine lg_dadd h1 (by decide +kernel : decode method_12_code 782 = .ok (.dadd, 1)) ?_
  refine lg_dstore (k := 9) (l1 := [some (vm_r o0), some (vm_i v1), some (vm_i v2), some (vm_i v3), none, some (vm_i v5), some (vm_i x0), some (vm_l w7), none, some (vm_d ((FP.dadd e9 ((FP.i2d (Int32.ofInt v22)))))), none, some (vm_i v11), some (vm_i v12), some (vm_i v13), some (vm_i v14), none, none, none, some (vm_i ((if v22 < v18 then v22 else v18))), some (vm_i ((if v19 < v22 then v22 else v19))), some (vm_i v20), none, some (vm_i v22), none]) rfl rfl (by decide +kernel : decode method_12_code 783 = .ok (.dstore 9, 2)) ?_
  obtain ⟨h1, h⟩ := h
  refine lg_iinc (k := 11) (l1 := [some (vm_r o0), some (vm_i v1), some (vm_i v2), some (vm_i v3), none, some (vm_i v5), some (vm_i x0), some (vm_l w7), none, some (vm_d ((FP.dadd e9 ((FP.i2d (Int32.ofInt v22)))))), none, some (vm_i ((v11 + 1))), some (vm_i v12), some (vm_i v13), some (vm_i v14), none, none, none, some (vm_i ((if v22 < v18 then v22 else v18))), some (vm_i ((if v19 < v22 then v22 else v19))), some (vm_i v20), none, some (vm_i v22), none]) rfl rfl rfl h1 (by decide +kernel : decode method_12_code 785 = .ok (.iinc 11 1, 3)) ?_
  exact lg_sub (ls := [some (vm_r o0), some (vm_i v1), some (vm_i v2), some (vm_i v3), none, some (vm_i v5), some (vm_i x0), some (vm_l w7), none, some (vm_d ((FP.dadd e9 ((FP.i2d (Int32.ofInt v22)))))), none, some (vm_i ((v11 + 1))), some (vm_i v12), some (vm_i v13), some (vm_i v14), none, none, none, some (vm_i ((if v22 < v18 then v22 else v18))), some (vm_i ((if v19 < v22 then v22 else v19))), some (vm_i v20), none, none, none]) ⟨rfl, ⟨rfl, ⟨rfl, ⟨rfl, ⟨rfl, ⟨rfl, ⟨rfl, ⟨rfl, ⟨rfl, ⟨rfl, ⟨rfl, ⟨rfl, ⟨rfl, ⟨rfl, ⟨rfl, trivial⟩⟩⟩⟩⟩⟩⟩⟩⟩⟩⟩⟩⟩⟩⟩ h
set_option maxHeartbeats 4000000 in
theorem rL_stands_788 {S : lwS} {Qp : Option vm_V → lwS → Prop} {o0 : Nat} {v1 : Int} {v2 : Int} {v3 : Int} {v5 : Int} {v6 : Int} {w7 : Int} {e9 : UInt64} {v11 : Int} {v12 : Int} {v13 : Int} {v14 : Int} {v18 : Int} {v19 : Int} {v20 : Int} (h : (vm_32 (v20 + 1)) ∧ (lG lK_stands 607 [some (vm_r o0), some (vm_i v1), some (vm_i v2), some (vm_i v3), none, some (vm_i v5), some (vm_i v6), some (vm_l w7), none, some (vm_d e9), none, some (vm_i v11), some (vm_i v12), some (vm_i v13), some (vm_i v14), none, none, none, some (vm_i v18), some (vm_i v19), some (vm_i ((v20 + 1))), none, none, none] [] S Qp)) : lG lK_stands 788 [some (vm_r o0), some (vm_i v1), some (vm_i v2), some (vm_i v3), none, some (vm_i v5), some (vm_i v6), some (vm_l w7), none, some (vm_d e9), none, some (vm_i v11), some (vm_i v12), some (vm_i v13), some (vm_i v14), none, none, none, some (vm_i v18), some (vm_i v19), some (vm_i v20), none, none, none] [] S Qp := by
  obtain ⟨h1, h⟩ := h
  refine lg_iinc (k := 20) (l1 := [some (vm_r o0), some (vm_i v1), some (vm_i v2), some (vm_i v3), none, some (vm_i v5), some (vm_i v6), some (vm_l w7), none, some (vm_d e9), none, some (vm_i v11), some (vm_i v12), some (vm_i v13), some (vm_i v14), none, none, none, some (vm_i v18), some (vm_i v19), some (vm_i ((v20 + 1))), none, none, none]) rfl rfl rfl h1 (by decide +kernel : decode method_12_code 788 = .ok (.iinc 20 1, 3)) ?_
  refine lg_goto (t := 607) (by decide +kernel : decode method_12_code 791 = .ok (.goto (-184), 3)) (by decide) ?_
  exact h
set_option maxHeartbeats 4000000 in
theorem rL_stands_846 {S : lwS} {Qp : Option vm_V → lwS → Prop} {o0 : Nat} {v1 : Int} {v2 : Int} {v3 : Int} {v5 : Int} {w7 : Int} {e9 : UInt64} {v11 : Int} {v12 : Int} {v13 : Int} {x0 : Int} (h : (vm_32 (v2 + v13)) ∧ (lNn 115 o0 [5] S (fun z2 S1 => (vm_32 (6 * z2)) ∧ ((v12 ≤ 0 → (lG lK_stands 876 [some (vm_r o0), some (vm_i v1), some (vm_i ((v2 + v13))), none, none, some (vm_i v5), some (vm_i x0), some (vm_l w7), none, some (vm_d e9), none, some (vm_i v11), some (vm_i v12), none, none, none, none, none, none, none, none, none, none, none] [vm_i 0, vm_i ((6 * z2)), vm_i v3] S1 Qp)) ∧ (¬ (v12 ≤ 0) → (lNn 115 o0 [2] S1 (fun z4 S3 => lG lK_stands 876 [some (vm_r o0), some (vm_i v1), some (vm_i ((v2 + v13))), none, none, some (vm_i v5), some (vm_i x0), some (vm_l w7), none, some (vm_d e9), none, some (vm_i v11), some (vm_i v12), none, none, none, none, none, none, none, none, none, none, none] [vm_i z4, vm_i ((6 * z2)), vm_i v3] S3 Qp))))))) : lG lK_stands 846 [some (vm_r o0), some (vm_i v1), some (vm_i v2), some (vm_i v3), none, some (vm_i v5), none, some (vm_l w7), none, some (vm_d e9), none, some (vm_i v11), some (vm_i v12), some (vm_i v13), none, none, none, none, none, none, none, none, none, none] [vm_i x0] S Qp := by
  refine lg_istore (k := 6) (l1 := [some (vm_r o0), some (vm_i v1), some (vm_i v2), some (vm_i v3), none, some (vm_i v5), some (vm_i x0), some (vm_l w7), none, some (vm_d e9), none, some (vm_i v11), some (vm_i v12), some (vm_i v13), none, none, none, none, none, none, none, none, none, none]) rfl rfl (by decide +kernel : decode method_12_code 846 = .ok (.istore 6, 2)) ?_
  refine lg_iload_n (k := 2) rfl rfl (by decide +kernel : decode method_12_code 848 = .ok (.iload_n 2, 1)) ?_
  refine lg_iload (k := 13) rfl (by decide +kernel : decode method_12_code 849 = .ok (.iload 13, 2)) ?_
  obtain ⟨h1, h⟩ := h
  refine lg_iadd h1 (by decide +kernel : decode method_12_code 851 = .ok (.iadd, 1)) ?_
  refine lg_istore_n (k := 2) (l1 := [some (vm_r o0), some (vm_i v1), some (vm_i ((v2 + v13))), some (vm_i v3), none, some (vm_i v5), some (vm_i x0), some (vm_l w7), none, some (vm_d e9), none, some (vm_i v11), some (vm_i v12), some (vm_i v13), none, none, none, none, none, none, none, none, none, none]) rfl rfl rfl (by decide +kernel : decode method_12_code 852 = .ok (.istore_n 2, 1)) ?_
  refine lg_iload_n (k := 3) rfl rfl (by decide +kernel : decode method_12_code 853 = .ok (.iload_n 3, 1)) ?_
  refine lg_bipush (n := 6) (by decide) (by decide) (by decide +kernel : decode method_12_code 854 = .ok (.bipush 6, 2)) ?_
  refine lg_aload_n (k := 0) rfl rfl (by decide +kernel : decode method_12_code 856 = .ok (.aload_n 0, 1)) ?_
  refine lg_iconst (n := 5) (by decide) (by decide +kernel : decode method_12_code 857 = .ok (.iconst 5, 1)) ?_
  refine lg_N 115 [5] (show lCls 115 1 = true by decide +kernel) (Nat.le_of_ble_eq_true rfl) (vm_hw_in (i := 604) (by decide +kernel)) (by decide +kernel : decode method_12_code 858 = .ok (.invokevirtual 40, 3)) h (fun z2 S1 h => ?_)
  obtain ⟨h1, h⟩ := h
  refine lg_imul h1 (by decide +kernel : decode method_12_code 861 = .ok (.imul, 1)) ?_
  refine lg_iload (k := 12) rfl (by decide +kernel : decode method_12_code 862 = .ok (.iload 12, 2)) ?_
  refine lg_if_le (t := 875) (by decide +kernel : decode method_12_code 864 = .ok (.ifCond .le 11, 3)) (by decide) ⟨fun c => ?_, fun c => ?_⟩
  · replace h := h.1 c
    refine lg_iconst (n := 0) (by decide) (by decide +kernel : decode method_12_code 875 = .ok (.iconst 0, 1)) ?_
    exact lg_sub (ls := [some (vm_r o0), some (vm_i v1), some (vm_i ((v2 + v13))), none, none, some (vm_i v5), some (vm_i x0), some (vm_l w7), none, some (vm_d e9), none, some (vm_i v11), some (vm_i v12), none, none, none, none, none, none, none, none, none, none, none]) ⟨rfl, ⟨rfl, ⟨rfl, ⟨rfl, ⟨rfl, ⟨rfl, ⟨rfl, ⟨rfl, ⟨rfl, trivial⟩⟩⟩⟩⟩⟩⟩⟩⟩ h
  · replace h := h.2 c
    refine lg_aload_n (k := 0) rfl rfl (by decide +kernel : decode method_12_code 867 = .ok (.aload_n 0, 1)) ?_
    refine lg_iconst (n := 2) (by decide) (by decide +kernel : decode method_12_code 868 = .ok (.iconst 2, 1)) ?_
    refine lg_N 115 [2] (show lCls 115 1 = true by decide +kernel) (Nat.le_of_ble_eq_true rfl) (vm_hw_in (i := 604) (by decide +kernel)) (by decide +kernel : decode method_12_code 869 = .ok (.invokevirtual 40, 3)) h (fun z4 S3 h => ?_)
    refine lg_goto (t := 876) (by decide +kernel : decode method_12_code 872 = .ok (.goto 4, 3)) (by decide) ?_
    exact lg_sub (ls := [some (vm_r o0), some (vm_i v1), some (vm_i ((v2 + v13))), none, none, some (vm_i v5), some (vm_i x0), some (vm_l w7), none, some (vm_d e9), none, some (vm_i v11), some (vm_i v12), none, none, none, none, none, none, none, none, none, none, none]) ⟨rfl, ⟨rfl, ⟨rfl, ⟨rfl, ⟨rfl, ⟨rfl, ⟨rfl, ⟨rfl, ⟨rfl, trivial⟩⟩⟩⟩⟩⟩⟩⟩⟩ h
set_option maxHeartbeats 4000000 in
theorem rL_stands_820 {S : lwS} {Qp : Option vm_V → lwS → Prop} {o0 : Nat} {v1 : Int} {v2 : Int} {v3 : Int} {v5 : Int} {w7 : Int} {e9 : UInt64} {v11 : Int} {v12 : Int} {v13 : Int} {x0 : Int} {x1 : Int} (h : (¬ x1 = x0 → (lG lK_stands 846 [some (vm_r o0), some (vm_i v1), some (vm_i v2), some (vm_i v3), none, some (vm_i v5), none, some (vm_l w7), none, some (vm_d e9), none, some (vm_i v11), some (vm_i v12), some (vm_i v13), none, none, none, none, none, none, none, none, none, none] [vm_i 0] S Qp)) ∧ (¬ (¬ x1 = x0) → (lNn 128 o0 [v12, 2] S (fun z2 S1 => lNn 129 o0 [v12, z2] S1 (fun z4 S3 => (¬ z4 = ((-2)) → (lG lK_stands 846 [some (vm_r o0), some (vm_i v1), some (vm_i v2), some (vm_i v3), none, some (vm_i v5), none, some (vm_l w7), none, some (vm_d e9), none, some (vm_i v11), some (vm_i v12), some (vm_i v13), none, none, none, none, none, none, none, none, none, none] [vm_i 0] S3 Qp)) ∧ (¬ (¬ z4 = ((-2))) → (lG lK_stands 846 [some (vm_r o0), some (vm_i v1), some (vm_i v2), some (vm_i v3), none, some (vm_i v5), none, some (vm_l w7), none, some (vm_d e9), none, some (vm_i v11), some (vm_i v12), some (vm_i v13), none, none, none, none, none, none, none, none, none, none] [vm_i 1] S3 Qp))))))) : lG lK_stands 820 [some (vm_r o0), some (vm_i v1), some (vm_i v2), some (vm_i v3), none, some (vm_i v5), none, some (vm_l w7), none, some (vm_d e9), none, some (vm_i v11), some (vm_i v12), some (vm_i v13), none, none, none, none, none, none, none, none, none, none] [vm_i x0, vm_i x1] S Qp := by
  refine lg_icmp_ne (t := 845) (by decide +kernel : decode method_12_code 820 = .ok (.if_icmp .ne 25, 3)) (by decide) ⟨fun c => ?_, fun c => ?_⟩
  · replace h := h.1 c
    refine lg_iconst (n := 0) (by decide) (by decide +kernel : decode method_12_code 845 = .ok (.iconst 0, 1)) ?_
    exact h
  · replace h := h.2 c
    refine lg_aload_n (k := 0) rfl rfl (by decide +kernel : decode method_12_code 823 = .ok (.aload_n 0, 1)) ?_
    refine lg_iload (k := 12) rfl (by decide +kernel : decode method_12_code 824 = .ok (.iload 12, 2)) ?_
    refine lg_aload_n (k := 0) rfl rfl (by decide +kernel : decode method_12_code 826 = .ok (.aload_n 0, 1)) ?_
    refine lg_iload (k := 12) rfl (by decide +kernel : decode method_12_code 827 = .ok (.iload 12, 2)) ?_
    refine lg_iconst (n := 2) (by decide) (by decide +kernel : decode method_12_code 829 = .ok (.iconst 2, 1)) ?_
    refine lg_N 128 [v12, 2] (show lCls 128 2 = true by decide +kernel) (Nat.le_of_ble_eq_true rfl) (vm_hw_in (i := 1136) (by decide +kernel)) (by decide +kernel : decode method_12_code 830 = .ok (.invokevirtual 174, 3)) h (fun z2 S1 h => ?_)
    refine lg_N 129 [v12, z2] (show lCls 129 2 = true by decide +kernel) (Nat.le_of_ble_eq_true rfl) (vm_hw_in (i := 1178) (by decide +kernel)) (by decide +kernel : decode method_12_code 833 = .ok (.invokevirtual 190, 3)) h (fun z4 S3 h => ?_)
    refine lg_bipush (n := (-2)) (by decide) (by decide) (by decide +kernel : decode method_12_code 836 = .ok (.bipush (-2), 2)) ?_
    refine lg_icmp_ne (t := 845) (by decide +kernel : decode method_12_code 838 = .ok (.if_icmp .ne 7, 3)) (by decide) ⟨fun c => ?_, fun c => ?_⟩
    · replace h := h.1 c
      refine lg_iconst (n := 0) (by decide) (by decide +kernel : decode method_12_code 845 = .ok (.iconst 0, 1)) ?_
      exact h
    · replace h := h.2 c
      refine lg_iconst (n := 1) (by decide) (by decide +kernel : decode method_12_code 841 = .ok (.iconst 1, 1)) ?_
      refine lg_goto (t := 846) (by decide +kernel : decode method_12_code 842 = .ok (.goto 4, 3)) (by decide) ?_
      exact h
set_option maxHeartbeats 4000000 in
theorem rL_stands_876 {S : lwS} {Qp : Option vm_V → lwS → Prop} {o0 : Nat} {v1 : Int} {v2 : Int} {v5 : Int} {v6 : Int} {w7 : Int} {e9 : UInt64} {v11 : Int} {v12 : Int} {x0 : Int} {x1 : Int} {x2 : Int} (h : (vm_32 (x1 + x0)) ∧ ((vm_32 (x2 + ((x1 + x0)))) ∧ ((vm_32 (v12 + 1)) ∧ (lG lK_stands 59 [some (vm_r o0), some (vm_i v1), some (vm_i v2), some (vm_i ((x2 + ((x1 + x0))))), none, some (vm_i v5), some (vm_i v6), some (vm_l w7), none, some (vm_d e9), none, some (vm_i v11), some (vm_i ((v12 + 1))), none, none, none, none, none, none, none, none, none, none, none] [] S Qp)))) : lG lK_stands 876 [some (vm_r o0), some (vm_i v1), some (vm_i v2), none, none, some (vm_i v5), some (vm_i v6), some (vm_l w7), none, some (vm_d e9), none, some (vm_i v11), some (vm_i v12), none, none, none, none, none, none, none, none, none, none, none] [vm_i x0, vm_i x1, vm_i x2] S Qp := by
  obtain ⟨h1, h⟩ := h
  refine lg_iadd h1 (by decide +kernel : decode method_12_code 876 = .ok (.iadd, 1)) ?_
  obtain ⟨h1, h⟩ := h
  refine lg_iadd h1 (by decide +kernel : decode method_12_code 877 = .ok (.iadd, 1)) ?_
  refine lg_istore_n (k := 3) (l1 := [some (vm_r o0), some (vm_i v1), some (vm_i v2), some (vm_i ((x2 + ((x1 + x0))))), none, some (vm_i v5), some (vm_i v6), some (vm_l w7), none, some (vm_d e9), none, some (vm_i v11), some (vm_i v12), none, none, none, none, none, none, none, none, none, none, none]) rfl rfl rfl (by decide +kernel : decode method_12_code 878 = .ok (.istore_n 3, 1)) ?_
  obtain ⟨h1, h⟩ := h
  refine lg_iinc (k := 12) (l1 := [some (vm_r o0), some (vm_i v1), some (vm_i v2), some (vm_i ((x2 + ((x1 + x0))))), none, some (vm_i v5), some (vm_i v6), some (vm_l w7), none, some (vm_d e9), none, some (vm_i v11), some (vm_i ((v12 + 1))), none, none, none, none, none, none, none, none, none, none, none]) rfl rfl rfl h1 (by decide +kernel : decode method_12_code 879 = .ok (.iinc 12 1, 3)) ?_
  refine lg_goto (t := 59) (by decide +kernel : decode method_12_code 882 = .ok (.goto (-823), 3)) (by decide) ?_
  exact h
