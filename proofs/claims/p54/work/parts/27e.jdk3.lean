/-! ===== append(int) ===== -/
section JC
variable {p : Program} {l : Launch} {e : Env} {R : Room} {s : State} {m : MethodId} {args : Array Value} {below : List Frame} {meth : Method} {c : Code} {Q : State → Prop} {cells slots : Nat}
variable {dC : Nat → ClassId} {dI : Nat → Nat → Nat} {CA : Nat → ClassId} {A : Nat → Prop}
theorem jd1_b (w : Nat) : vp_nar .byte (jd1 w) = sb_b (48 + w % 10) := by rw [vp_nar_byte]; rfl
theorem jd2_b (w : Nat) : vp_nar .byte (jd2 w) = sb_b (48 + w / 10) := by rw [vp_nar_byte]; rfl
set_option maxHeartbeats 8000000 in
theorem jl_chars (hx : p.tables.exec = Jvm.exec) (hb : c.code = prog_16_method_12_code) (hts : ∀ w ∈ vm_W, w.before args s = true) (hown : s.vm.findClass "java/lang/Integer" = some m.cls) (hK : va_K (dC, dI) vm_cls (vm_tys CA) s) (hX : jX A s s.heap) {h b n a0 n0 : Nat} (ha : a0 ≤ 65536) :
    ∀ (fu w p9 : Nat) (f : Nat → Int32) (H : Heap) (locs : List Loc) (ls : Array Slot), w < fu → w < 10000000 → p9 = n0 + sb_dg w → p9 ≤ a0 → sb_Fit f → va_P (dC, dI) vm_cls (jW CA h b n a0 f) H → va_D A (jW CA h b n a0 f) → va_S A s.heap H locs → lv_has ls 7 [(0, .int (-nI w)), (2, .ref b), (5, .int (nI p9)), (6, .int 0)] →
    (∀ (f1 : Nat → Int32) (H1 : Heap) (locs1 : List Loc) (ls1 : Array Slot), sb_Fit f1 → (∀ j, j < n0 ∨ p9 ≤ j → f1 j = f j) → (∀ i, i < sb_dg w → f1 (p9 - 1 - i) = sb_b (48 + w / 10 ^ i % 10)) → va_P (dC, dI) vm_cls (jW CA h b n a0 f1) H1 → va_D A (jW CA h b n a0 f1) → va_S A s.heap H1 locs1 → W p l e R s m args below meth c H1 locs1 cells slots Q (F0 m 120 ls1 [.int (nI n0)])) →
    W p l e R s m args below meth c H locs cells slots Q (F0 m 22 ls []) := by
  intro fu
  induction fu with
  | zero => intro w p9 f H locs ls h0; omega
  | succ fu ih =>
    intro w p9 f H locs ls hwf hw hp hpm hf hP hD hS hl kk
    obtain ⟨t1, hZ1, hT1⟩ := hX.2.2.1
    obtain ⟨t2, hZ2, hT2⟩ := hX.2.2.2.1
    have hd1 := (sb_dg_in w).1
    have hw31 : w < 2 ^ 31 := by omega
    have e1 : -(-nI w) = nI w := Int32.neg_neg
    have em : ∀ x : Nat, 0 < x → nI x + Int32.ofInt (-1) = nI (x - 1) := fun x h0 => by rw [show Int32.ofInt (-1) = -1 from rfl]; exact sb_m1 h0
    by_cases h100 : w < 100
    · skip
      refine lv_iload_n hx hb (by decide +kernel : decode prog_16_method_12_code 22 = .ok (.iload_n 0, 1)) rfl (lv_at hl 0 rfl) ?_
      refine lv_bipush (v := (-100)) hx hb (by decide +kernel : decode prog_16_method_12_code 23 = .ok (.bipush (-100), 2)) (by decide) ?_
      refine lv_icmp_gt (tgt := 72) hx hb (by decide +kernel : decode prog_16_method_12_code 25 = .ok (.if_icmp .gt 47, 3)) (by decide) (fun _ => ?_) (fun z9 => absurd ((sb_nlt (a := 100) (b := w) (by decide) hw31).mpr h100) z9)
      refine lv_aload_n hx hb (by decide +kernel : decode prog_16_method_12_code 72 = .ok (.aload_n 2, 1)) rfl (lv_at hl 1 rfl) ?_
      refine lv_iinc (v := nI (p9 - 1)) (lv' := [(5, .int (nI (p9 - 1))), (0, .int (-nI w)), (2, .ref b), (6, .int 0)]) hx hb (by decide +kernel : decode prog_16_method_12_code 73 = .ok (.iinc 5 (-1), 3)) hl (k := 2) rfl (em _ (by omega)) (by decide) rfl (fun ls hl => ?_)
      refine lv_iload hx hb (by decide +kernel : decode prog_16_method_12_code 76 = .ok (.iload 5, 2)) (lv_at hl 0 rfl) ?_
      refine va_gets hx hb hZ1 hS hown (hts (.fieldLink "java/lang/Integer" 83 "java/lang/Integer" "DigitOnes" "[B") (vm_hw_in (i := 925) (by decide +kernel))) (fun _ h => h) (by decide +kernel : decode prog_16_method_12_code 78 = .ok (.getstatic 83, 3)) ?_
      refine lv_iload_n hx hb (by decide +kernel : decode prog_16_method_12_code 81 = .ok (.iload_n 0, 1)) rfl (lv_at hl 1 rfl) ?_
      refine lv_ineg hx hb (by decide +kernel : decode prog_16_method_12_code 82 = .ok (.ineg, 1)) ?_
      refine jtop (nI w) e1 ?_
      refine va_tb hx hb hT1 hS (i := nI (w)) (vp_in_nI h100 (by decide)) (v := .int (jd1 (w))) (by rw [nI_clamp (by omega)]) (by decide +kernel : decode prog_16_method_12_code 83 = .ok (.baload, 1)) ?_
      refine va_bast hx hb hK hP hD hS 1 1 rfl rfl (i := nI ((p9 - 1))) (vp_in_nI (by omega) (by omega)) (by decide +kernel : decode prog_16_method_12_code 84 = .ok (.bastore, 1)) (fun H locs hP hD hS => ?_)
      rw [nI_clamp (n := (p9 - 1)) (by omega), jd1_b] at hP hD
      have hP : va_P (dC, dI) vm_cls (jW CA h b n a0 (upd (f) ((p9 - 1)) (sb_b (48 + (w) % 10)))) H := hP
      have hD : va_D A (jW CA h b n a0 (upd (f) ((p9 - 1)) (sb_b (48 + (w) % 10)))) := hD
      refine lv_iload_n hx hb (by decide +kernel : decode prog_16_method_12_code 85 = .ok (.iload_n 0, 1)) rfl (lv_at hl 1 rfl) ?_
      refine lv_bipush (v := (-9)) hx hb (by decide +kernel : decode prog_16_method_12_code 86 = .ok (.bipush (-9), 2)) (by decide) ?_
      by_cases h9 : w < 10
      · skip
        have hd : sb_dg w = 1 := if_pos h9
        refine lv_icmp_ge (tgt := 104) hx hb (by decide +kernel : decode prog_16_method_12_code 88 = .ok (.if_icmp .ge 16, 3)) (by decide) (fun _ => ?_) (fun z9 => absurd ((sb_nle (a := 9) (b := w) (by decide) hw31).mpr (by omega)) z9)
        refine lv_iload hx hb (by decide +kernel : decode prog_16_method_12_code 104 = .ok (.iload 6, 2)) (lv_at hl 3 rfl) ?_
        refine lv_if_eq (tgt := 118) hx hb (by decide +kernel : decode prog_16_method_12_code 106 = .ok (.ifCond .eq 12, 3)) (by decide) (fun _ => ?_) (fun z9 => absurd (rfl) z9)
        refine lv_iload hx hb (by decide +kernel : decode prog_16_method_12_code 118 = .ok (.iload 5, 2)) (lv_at hl 0 rfl) ?_
        rw [show p9 - 1 = n0 by omega]
        refine kk _ _ _ _ (sb_fitU hf (sb_fitB _)) (fun j hj => pk_un (by omega)) (fun i hi => ?_) hP hD hS
        obtain rfl : i = 0 := by omega
        rw [Nat.sub_zero, pk_us, Nat.pow_zero, Nat.div_one]
      · skip
        have hd : sb_dg w = 2 := by rw [sb_dg, if_neg h9, if_pos h100]
        refine lv_icmp_ge (tgt := 104) hx hb (by decide +kernel : decode prog_16_method_12_code 88 = .ok (.if_icmp .ge 16, 3)) (by decide) (fun z9 => absurd z9 (fun z => absurd ((sb_nle (a := 9) (b := w) (by decide) hw31).mp z) (by omega))) (fun _ => ?_)
        refine lv_aload_n hx hb (by decide +kernel : decode prog_16_method_12_code 91 = .ok (.aload_n 2, 1)) rfl (lv_at hl 2 rfl) ?_
        refine lv_iinc (v := nI (p9 - 1 - 1)) (lv' := [(5, .int (nI (p9 - 1 - 1))), (0, .int (-nI w)), (2, .ref b), (6, .int 0)]) hx hb (by decide +kernel : decode prog_16_method_12_code 92 = .ok (.iinc 5 (-1), 3)) hl (k := 0) rfl (em _ (by omega)) (by decide) rfl (fun ls hl => ?_)
        refine lv_iload hx hb (by decide +kernel : decode prog_16_method_12_code 95 = .ok (.iload 5, 2)) (lv_at hl 0 rfl) ?_
        refine va_gets hx hb hZ2 hS hown (hts (.fieldLink "java/lang/Integer" 87 "java/lang/Integer" "DigitTens" "[B") (vm_hw_in (i := 927) (by decide +kernel))) (fun _ h => h) (by decide +kernel : decode prog_16_method_12_code 97 = .ok (.getstatic 87, 3)) ?_
        refine lv_iload_n hx hb (by decide +kernel : decode prog_16_method_12_code 100 = .ok (.iload_n 0, 1)) rfl (lv_at hl 1 rfl) ?_
        refine lv_ineg hx hb (by decide +kernel : decode prog_16_method_12_code 101 = .ok (.ineg, 1)) ?_
        refine jtop (nI w) e1 ?_
        refine va_tb hx hb hT2 hS (i := nI (w)) (vp_in_nI h100 (by decide)) (v := .int (jd2 (w))) (by rw [nI_clamp (by omega)]) (by decide +kernel : decode prog_16_method_12_code 102 = .ok (.baload, 1)) ?_
        refine va_bast hx hb hK hP hD hS 1 1 rfl rfl (i := nI ((p9 - 1 - 1))) (vp_in_nI (by omega) (by omega)) (by decide +kernel : decode prog_16_method_12_code 103 = .ok (.bastore, 1)) (fun H locs hP hD hS => ?_)
        rw [nI_clamp (n := (p9 - 1 - 1)) (by omega), jd2_b] at hP hD
        have hP : va_P (dC, dI) vm_cls (jW CA h b n a0 (upd (upd (f) ((p9 - 1)) (sb_b (48 + (w) % 10))) ((p9 - 1 - 1)) (sb_b (48 + (w) / 10)))) H := hP
        have hD : va_D A (jW CA h b n a0 (upd (upd (f) ((p9 - 1)) (sb_b (48 + (w) % 10))) ((p9 - 1 - 1)) (sb_b (48 + (w) / 10)))) := hD
        refine lv_iload hx hb (by decide +kernel : decode prog_16_method_12_code 104 = .ok (.iload 6, 2)) (lv_at hl 3 rfl) ?_
        refine lv_if_eq (tgt := 118) hx hb (by decide +kernel : decode prog_16_method_12_code 106 = .ok (.ifCond .eq 12, 3)) (by decide) (fun _ => ?_) (fun z9 => absurd (rfl) z9)
        refine lv_iload hx hb (by decide +kernel : decode prog_16_method_12_code 118 = .ok (.iload 5, 2)) (lv_at hl 0 rfl) ?_
        rw [show p9 - 1 - 1 = n0 by omega]
        refine kk _ _ _ _ (sb_fitU (sb_fitU hf (sb_fitB _)) (sb_fitB _)) (fun j hj => by rw [pk_un (by omega), pk_un (by omega)]) (fun i hi => ?_) hP hD hS
        obtain rfl | rfl : i = 0 ∨ i = 1 := by omega
        · rw [Nat.sub_zero, pk_un (by omega), pk_us, Nat.pow_zero, Nat.div_one]
        · rw [pk_us, Nat.pow_one, show w / 10 % 10 = w / 10 by omega]
    · skip
      have hd := sb_dg100 (w := w) (by omega) hw31
      have hd2 := (sb_dg_in (w / 100)).1
      refine lv_iload_n hx hb (by decide +kernel : decode prog_16_method_12_code 22 = .ok (.iload_n 0, 1)) rfl (lv_at hl 0 rfl) ?_
      refine lv_bipush (v := (-100)) hx hb (by decide +kernel : decode prog_16_method_12_code 23 = .ok (.bipush (-100), 2)) (by decide) ?_
      refine lv_icmp_gt (tgt := 72) hx hb (by decide +kernel : decode prog_16_method_12_code 25 = .ok (.if_icmp .gt 47, 3)) (by decide) (fun z9 => absurd z9 (fun z => h100 ((sb_nlt (a := 100) (b := w) (by decide) hw31).mp z))) (fun _ => ?_)
      refine lv_iload_n hx hb (by decide +kernel : decode prog_16_method_12_code 28 = .ok (.iload_n 0, 1)) rfl (lv_at hl 0 rfl) ?_
      refine lv_bipush (v := 100) hx hb (by decide +kernel : decode prog_16_method_12_code 29 = .ok (.bipush 100, 2)) (by decide) ?_
      refine lv_idiv hx hb (by decide +kernel : decode prog_16_method_12_code 31 = .ok (.idiv, 1)) (by decide) ?_
      refine jtop (-nI (w / 100)) (sb_ndiv hw31) ?_
      refine lv_istore_n (lv' := [(3, .int (-nI (w / 100))), (0, .int (-nI w)), (2, .ref b), (5, .int (nI p9)), (6, .int 0)]) hx hb (by decide +kernel : decode prog_16_method_12_code 32 = .ok (.istore_n 3, 1)) rfl hl (by decide) rfl (fun ls hl => ?_)
      refine lv_iload_n hx hb (by decide +kernel : decode prog_16_method_12_code 33 = .ok (.iload_n 3, 1)) rfl (lv_at hl 0 rfl) ?_
      refine lv_bipush (v := 100) hx hb (by decide +kernel : decode prog_16_method_12_code 34 = .ok (.bipush 100, 2)) (by decide) ?_
      refine lv_imul hx hb (by decide +kernel : decode prog_16_method_12_code 36 = .ok (.imul, 1)) ?_
      refine lv_iload_n hx hb (by decide +kernel : decode prog_16_method_12_code 37 = .ok (.iload_n 0, 1)) rfl (lv_at hl 1 rfl) ?_
      refine lv_isub hx hb (by decide +kernel : decode prog_16_method_12_code 38 = .ok (.isub, 1)) ?_
      refine jtop (nI (w % 100)) (sb_nrem hw31) ?_
      refine lv_istore (lv' := [(4, .int (nI (w % 100))), (3, .int (-nI (w / 100))), (0, .int (-nI w)), (2, .ref b), (5, .int (nI p9)), (6, .int 0)]) hx hb (by decide +kernel : decode prog_16_method_12_code 39 = .ok (.istore 4, 2)) hl (by decide) rfl (fun ls hl => ?_)
      refine lv_iload_n hx hb (by decide +kernel : decode prog_16_method_12_code 41 = .ok (.iload_n 3, 1)) rfl (lv_at hl 1 rfl) ?_
      refine lv_istore_n (lv' := [(0, .int (-nI (w / 100))), (4, .int (nI (w % 100))), (3, .int (-nI (w / 100))), (2, .ref b), (5, .int (nI p9)), (6, .int 0)]) hx hb (by decide +kernel : decode prog_16_method_12_code 42 = .ok (.istore_n 0, 1)) rfl hl (by decide) rfl (fun ls hl => ?_)
      refine lv_aload_n hx hb (by decide +kernel : decode prog_16_method_12_code 43 = .ok (.aload_n 2, 1)) rfl (lv_at hl 3 rfl) ?_
      refine lv_iinc (v := nI (p9 - 1)) (lv' := [(5, .int (nI (p9 - 1))), (0, .int (-nI (w / 100))), (4, .int (nI (w % 100))), (3, .int (-nI (w / 100))), (2, .ref b), (6, .int 0)]) hx hb (by decide +kernel : decode prog_16_method_12_code 44 = .ok (.iinc 5 (-1), 3)) hl (k := 4) rfl (em _ (by omega)) (by decide) rfl (fun ls hl => ?_)
      refine lv_iload hx hb (by decide +kernel : decode prog_16_method_12_code 47 = .ok (.iload 5, 2)) (lv_at hl 0 rfl) ?_
      refine va_gets hx hb hZ1 hS hown (hts (.fieldLink "java/lang/Integer" 83 "java/lang/Integer" "DigitOnes" "[B") (vm_hw_in (i := 925) (by decide +kernel))) (fun _ h => h) (by decide +kernel : decode prog_16_method_12_code 49 = .ok (.getstatic 83, 3)) ?_
      refine lv_iload hx hb (by decide +kernel : decode prog_16_method_12_code 52 = .ok (.iload 4, 2)) (lv_at hl 2 rfl) ?_
      refine va_tb hx hb hT1 hS (i := nI (w % 100)) (vp_in_nI (by omega) (by decide)) (v := .int (jd1 (w % 100))) (by rw [nI_clamp (by omega)]) (by decide +kernel : decode prog_16_method_12_code 54 = .ok (.baload, 1)) ?_
      refine va_bast hx hb hK hP hD hS 1 1 rfl rfl (i := nI ((p9 - 1))) (vp_in_nI (by omega) (by omega)) (by decide +kernel : decode prog_16_method_12_code 55 = .ok (.bastore, 1)) (fun H locs hP hD hS => ?_)
      rw [nI_clamp (n := (p9 - 1)) (by omega), jd1_b] at hP hD
      have hP : va_P (dC, dI) vm_cls (jW CA h b n a0 (upd (f) ((p9 - 1)) (sb_b (48 + (w % 100) % 10)))) H := hP
      have hD : va_D A (jW CA h b n a0 (upd (f) ((p9 - 1)) (sb_b (48 + (w % 100) % 10)))) := hD
      refine lv_aload_n hx hb (by decide +kernel : decode prog_16_method_12_code 56 = .ok (.aload_n 2, 1)) rfl (lv_at hl 4 rfl) ?_
      refine lv_iinc (v := nI (p9 - 1 - 1)) (lv' := [(5, .int (nI (p9 - 1 - 1))), (0, .int (-nI (w / 100))), (4, .int (nI (w % 100))), (3, .int (-nI (w / 100))), (2, .ref b), (6, .int 0)]) hx hb (by decide +kernel : decode prog_16_method_12_code 57 = .ok (.iinc 5 (-1), 3)) hl (k := 0) rfl (em _ (by omega)) (by decide) rfl (fun ls hl => ?_)
      refine lv_iload hx hb (by decide +kernel : decode prog_16_method_12_code 60 = .ok (.iload 5, 2)) (lv_at hl 0 rfl) ?_
      refine va_gets hx hb hZ2 hS hown (hts (.fieldLink "java/lang/Integer" 87 "java/lang/Integer" "DigitTens" "[B") (vm_hw_in (i := 927) (by decide +kernel))) (fun _ h => h) (by decide +kernel : decode prog_16_method_12_code 62 = .ok (.getstatic 87, 3)) ?_
      refine lv_iload hx hb (by decide +kernel : decode prog_16_method_12_code 65 = .ok (.iload 4, 2)) (lv_at hl 2 rfl) ?_
      refine va_tb hx hb hT2 hS (i := nI (w % 100)) (vp_in_nI (by omega) (by decide)) (v := .int (jd2 (w % 100))) (by rw [nI_clamp (by omega)]) (by decide +kernel : decode prog_16_method_12_code 67 = .ok (.baload, 1)) ?_
      refine va_bast hx hb hK hP hD hS 1 1 rfl rfl (i := nI ((p9 - 1 - 1))) (vp_in_nI (by omega) (by omega)) (by decide +kernel : decode prog_16_method_12_code 68 = .ok (.bastore, 1)) (fun H locs hP hD hS => ?_)
      rw [nI_clamp (n := (p9 - 1 - 1)) (by omega), jd2_b] at hP hD
      have hP : va_P (dC, dI) vm_cls (jW CA h b n a0 (upd (upd (f) ((p9 - 1)) (sb_b (48 + (w % 100) % 10))) ((p9 - 1 - 1)) (sb_b (48 + (w % 100) / 10)))) H := hP
      have hD : va_D A (jW CA h b n a0 (upd (upd (f) ((p9 - 1)) (sb_b (48 + (w % 100) % 10))) ((p9 - 1 - 1)) (sb_b (48 + (w % 100) / 10)))) := hD
      refine lv_goto (tgt := 22) hx hb (by decide +kernel : decode prog_16_method_12_code 69 = .ok (.goto (-47), 3)) (by decide) ?_
      refine ih (w / 100) (p9 - 1 - 1) _ _ _ _ (by omega) (by omega) (by omega) (by omega) (sb_fitU (sb_fitU hf (sb_fitB _)) (sb_fitB _)) hP hD hS (lv_sub hl [1, 4, 0, 5] rfl) (fun f1 H1 locs1 ls1 q1 q2 q3 hP hD hS => ?_)
      refine kk f1 H1 locs1 ls1 q1 (fun j hj => by rw [q2 j (by omega), pk_un (by omega), pk_un (by omega)]) (fun i hi => ?_) hP hD hS
      match i, hi with
      | 0, _ => rw [Nat.sub_zero, q2 _ (by omega), pk_un (by omega), pk_us, Nat.pow_zero, Nat.div_one, show w % 100 % 10 = w % 10 by omega]
      | 1, _ => rw [q2 _ (by omega), pk_us, Nat.pow_one, show w % 100 / 10 = w / 10 % 10 by omega]
      | k + 2, hi =>
        rw [show p9 - 1 - (k + 2) = p9 - 1 - 1 - 1 - k by omega, q3 k (by omega), Nat.div_div_eq_div_mul, show 100 * 10 ^ k = 10 ^ (k + 2) by rw [show k + 2 = k + 1 + 1 from rfl, Nat.pow_succ, Nat.pow_succ]; omega]
end JC
theorem jk9 : Cond.code ⟨"java/lang/Integer", "getChars", "(II[B)I"⟩ prog_16_method_12_code 7 (some .int) ∈ vm_W := vm_code_in (vm_in4 (List.mem_of_getElem? (i := 167) (by rfl)))
set_option maxHeartbeats 4000000 in
theorem jm_getChars (l : Launch) (dC : Nat → ClassId) (dI : Nat → Nat → Nat) (CA : Nat → ClassId) (A : Nat → Prop) (L : jT) (h b n a0 n0 x p9 : Nat) (f : Nat → Int32) (ha : a0 ≤ 65536) (hx9 : x < 10000000) (hp : p9 = n0 + sb_dg x) (hpm : p9 ≤ a0) (hf : sb_Fit f) : Met l ⟨"java/lang/Integer", "getChars", "(II[B)I"⟩ (Cond.code ⟨"java/lang/Integer", "getChars", "(II[B)I"⟩ prog_16_method_12_code 7 (some .int) :: vm_W) ({ frames := 0, cells := 0, slots := 0, locals := 0 }) (va_Pc [.int (nI x), .int (nI p9), .ref b] (jB dC dI CA A L (jW CA h b n a0 f))) (jE dC dI A (fun v ws => ∃ f1 : Nat → Int32, v = some (.int (nI n0)) ∧ ws = jW CA h b n a0 f1 ∧ sb_Fit f1 ∧ (∀ j, j < n0 ∨ p9 ≤ j → f1 j = f j) ∧ ∀ i, i < sb_dg x → f1 (p9 - 1 - i) = sb_b (48 + x / 10 ^ i % 10))) 0 0 A := by
  refine Met.ofW (cc := prog_16_method_12_code) (maxL := 7) (ret := (some .int)) (by decide) rfl ?_
  intro p e s m args below meth c s₁ B hml hv
  obtain ⟨rfl, hK, hX, hL, hP, hD, hA⟩ := hv
  have hx := B.exec
  have hb := B.bytes
  have hr := B.returns
  have hts := vm_tsW (atoms_spec B.pre)
  have hown : s.vm.findClass "java/lang/Integer" = some m.cls := findClass_of_methodNamed B.named
  have hlocks := B.notSynchronized
  have hnm : meth.name = "getChars" := (name_of_methodNamed B.named B.method).1
  have hS : va_S A s.heap s.heap [] := va_S.rf
  have hl := lv_entry ([.int (nI x), .int (nI p9), .ref b]) (n := 7) (Nat.le_of_ble_eq_true rfl)
  rw [lg_entry_eq]
  generalize (lg_sl ([.int (nI x), .int (nI p9), .ref b]) ++ List.replicate (7 - (lg_sl ([.int (nI x), .int (nI p9), .ref b])).length) Slot.unset).toArray = ls at hl ⊢
  have hl : lv_has ls 7 [(0, .int (nI x)), (1, .int (nI p9)), (2, .ref b)] := hl
  refine lv_iload_n hx hb (by decide +kernel : decode prog_16_method_12_code 0 = .ok (.iload_n 1, 1)) rfl (lv_at hl 1 rfl) ?_
  refine lv_istore (lv' := [(5, .int (nI p9)), (0, .int (nI x)), (1, .int (nI p9)), (2, .ref b)]) hx hb (by decide +kernel : decode prog_16_method_12_code 1 = .ok (.istore 5, 2)) hl (by decide) rfl (fun ls hl => ?_)
  refine lv_iload_n hx hb (by decide +kernel : decode prog_16_method_12_code 3 = .ok (.iload_n 0, 1)) rfl (lv_at hl 1 rfl) ?_
  refine lv_if_ge (tgt := 11) hx hb (by decide +kernel : decode prog_16_method_12_code 4 = .ok (.ifCond .ge 7, 3)) (by decide) (fun _ => ?_) (fun z9 => absurd (nI_pos' (by omega)) z9)
  refine lv_iconst (v := 0) hx hb (by decide +kernel : decode prog_16_method_12_code 11 = .ok (.iconst 0, 1)) (by decide) ?_
  refine lv_istore (lv' := [(6, .int 0), (5, .int (nI p9)), (0, .int (nI x)), (1, .int (nI p9)), (2, .ref b)]) hx hb (by decide +kernel : decode prog_16_method_12_code 12 = .ok (.istore 6, 2)) hl (by decide) rfl (fun ls hl => ?_)
  refine lv_iload hx hb (by decide +kernel : decode prog_16_method_12_code 14 = .ok (.iload 6, 2)) (lv_at hl 0 rfl) ?_
  refine lv_if_ne (tgt := 22) hx hb (by decide +kernel : decode prog_16_method_12_code 16 = .ok (.ifCond .ne 6, 3)) (by decide) (fun z9 => absurd z9 (fun z => z rfl)) (fun _ => ?_)
  refine lv_iload_n hx hb (by decide +kernel : decode prog_16_method_12_code 19 = .ok (.iload_n 0, 1)) rfl (lv_at hl 2 rfl) ?_
  refine lv_ineg hx hb (by decide +kernel : decode prog_16_method_12_code 20 = .ok (.ineg, 1)) ?_
  refine lv_istore_n (lv' := [(0, .int (-nI x)), (6, .int 0), (5, .int (nI p9)), (1, .int (nI p9)), (2, .ref b)]) hx hb (by decide +kernel : decode prog_16_method_12_code 21 = .ok (.istore_n 0, 1)) rfl hl (by decide) rfl (fun ls hl => ?_)
  refine jl_chars hx hb hts hown hK hX ha (x + 1) x p9 f _ _ _ (by omega) hx9 hp hpm hf hP hD hS (lv_sub hl [0, 4, 2, 1] rfl) (fun f1 H locs ls q1 q2 q3 hP hD hS => ?_)
  refine W.widen (show 0 ≤ 0 by omega) (show 0 ≤ 0 by omega) ?_
  exact W.iret hx hb hr (fun t ht hW => ⟨_, _, ⟨f1, rfl, rfl, q1, q2, q3⟩, rfl, by rw [ht]; exact hP, hD, hS.F ht⟩) hS.2.2 (by decide +kernel : decode prog_16_method_12_code 120 = .ok (.ireturn, 1))
theorem jk10 : Cond.code ⟨"java/lang/AbstractStringBuilder", "append", "(I)Ljava/lang/AbstractStringBuilder;"⟩ prog_14_method_32_code 4 (some (.object "java/lang/AbstractStringBuilder")) ∈ vm_W := vm_code_in (vm_in4 (List.mem_of_getElem? (i := 161) (by rfl)))
set_option maxHeartbeats 4000000 in
theorem jm_appI (l : Launch) (dC : Nat → ClassId) (dI : Nat → Nat → Nat) (CA : Nat → ClassId) (A : Nat → Prop) (L : jT) (h b n a0 x : Nat) (f : Nat → Int32) (ha : a0 ≤ 65536) (hn : n ≤ a0) (hq : n + sb_dg x ≤ 32767) (hf : sb_Fit f) (hx9 : x < 10000000) : Met l ⟨"java/lang/AbstractStringBuilder", "append", "(I)Ljava/lang/AbstractStringBuilder;"⟩ (Cond.code ⟨"java/lang/AbstractStringBuilder", "append", "(I)Ljava/lang/AbstractStringBuilder;"⟩ prog_14_method_32_code 4 (some (.object "java/lang/AbstractStringBuilder")) :: vm_W) ({ frames := 4, cells := (sb_k (n + sb_dg x) a0), slots := (sb_z (n + sb_dg x) a0), locals := 160 }) (va_Pc [.ref h, .int (nI x)] (jB dC dI CA A L (jW CA h b n a0 f))) (jE dC dI A (fun v ws => ∃ (b1 : Nat) (f1 : Nat → Int32), v = some (.ref h) ∧ ws = jW CA h b1 (n + sb_dg x) (sb_cap (n + sb_dg x) a0) f1 ∧ sb_Fit f1 ∧ (∀ j, j < n → f1 j = f j) ∧ ∀ i, i < sb_dg x → f1 (n + sb_dg x - 1 - i) = sb_b (48 + x / 10 ^ i % 10))) ((sb_k (n + sb_dg x) a0)) ((sb_z (n + sb_dg x) a0)) A := by
  refine Met.ofW (cc := prog_14_method_32_code) (maxL := 4) (ret := (some (.object "java/lang/AbstractStringBuilder"))) (by decide) rfl ?_
  intro p e s m args below meth c s₁ B hml hv
  obtain ⟨rfl, hK, hX, hL, hP, hD, hA⟩ := hv
  have hx := B.exec
  have hb := B.bytes
  have hr := B.returns
  have hts := vm_tsW (atoms_spec B.pre)
  have hown : s.vm.findClass "java/lang/AbstractStringBuilder" = some m.cls := findClass_of_methodNamed B.named
  have hlocks := B.notSynchronized
  have hnm : meth.name = "append" := (name_of_methodNamed B.named B.method).1
  have hS : va_S A s.heap s.heap [] := va_S.rf
  have hl := lv_entry ([.ref h, .int (nI x)]) (n := 4) (Nat.le_of_ble_eq_true rfl)
  rw [lg_entry_eq]
  generalize (lg_sl ([.ref h, .int (nI x)]) ++ List.replicate (4 - (lg_sl ([.ref h, .int (nI x)])).length) Slot.unset).toArray = ls at hl ⊢
  have hl : lv_has ls 4 [(0, .ref h), (1, .int (nI x))] := hl
  have hd1 := sb_dg_in x
  have hcg := sb_cap_ge (n + sb_dg x) a0
  have hcm : sb_cap (n + sb_dg x) a0 ≤ 65536 := by unfold sb_cap; (repeat' split) <;> omega
  refine lv_aload_n hx hb (by decide +kernel : decode prog_14_method_32_code 0 = .ok (.aload_n 0, 1)) rfl (lv_at hl 0 rfl) ?_
  refine va_get hx hb hts jSBin hown hK hP 0 rfl jcl12 3 (by decide) (hts (.fieldLink "java/lang/AbstractStringBuilder" 79 "java/lang/AbstractStringBuilder" "count" "I") (vm_hw_in (i := 903) (by decide +kernel))) (fun _ h => h) (v := .int (nI n)) rfl (by decide +kernel : decode prog_14_method_32_code 1 = .ok (.getfield 79, 3)) ?_
  refine lv_istore_n (lv' := [(2, .int (nI n)), (0, .ref h), (1, .int (nI x))]) hx hb (by decide +kernel : decode prog_14_method_32_code 4 = .ok (.istore_n 2, 1)) rfl hl (by decide) rfl (fun ls hl => ?_)
  refine lv_iload_n hx hb (by decide +kernel : decode prog_14_method_32_code 5 = .ok (.iload_n 2, 1)) rfl (lv_at hl 0 rfl) ?_
  refine lv_iload_n hx hb (by decide +kernel : decode prog_14_method_32_code 6 = .ok (.iload_n 1, 1)) rfl (lv_at hl 2 rfl) ?_
  refine j_call (va_runS (As := [.int (nI x)]) (rest := [.int (nI n)]) ⟨hx, hb, hml, hown, hts⟩ (jm_size l dC dI CA A L x _ hx9) (va_cwS 1 hts (vm_gS jk8 (vm_hw_in (i := 919) (by decide +kernel)) (vm_hw_in (i := 920) (by decide +kernel)) (vm_hw_in (i := 59) (by decide +kernel))) rfl rfl rfl (by decide +kernel) ⟨Nat.le_of_ble_eq_true rfl, Nat.le_of_ble_eq_true rfl⟩) ⟨jB.blind, fun U hU hW => ⟨rfl, jB.of hK hX hL hA hP hD hS hU hW⟩⟩ rfl rfl hl.1 rfl (lv_room (Nat.le_of_ble_eq_true rfl)) (by decide +kernel : decode prog_14_method_32_code 7 = .ok (.invokestatic 245, 3)) ⟨by show 0 + 0 ≤ (sb_k (n + sb_dg x) a0); omega, by show 0 + 0 ≤ (sb_z (n + sb_dg x) a0); omega⟩) hS (fun v ws H locs hR hP hD hS => ?_)
  obtain ⟨rfl, rfl⟩ := hR
  refine lv_iadd hx hb (by decide +kernel : decode prog_14_method_32_code 10 = .ok (.iadd, 1)) ?_
  refine jtop (nI (n + sb_dg x)) (nI_add _ _) ?_
  refine lv_istore_n (lv' := [(3, .int (nI (n + sb_dg x))), (2, .int (nI n)), (0, .ref h), (1, .int (nI x))]) hx hb (by decide +kernel : decode prog_14_method_32_code 11 = .ok (.istore_n 3, 1)) rfl hl (by decide) rfl (fun ls hl => ?_)
  refine lv_aload_n hx hb (by decide +kernel : decode prog_14_method_32_code 12 = .ok (.aload_n 0, 1)) rfl (lv_at hl 2 rfl) ?_
  refine lv_iload_n hx hb (by decide +kernel : decode prog_14_method_32_code 13 = .ok (.iload_n 3, 1)) rfl (lv_at hl 0 rfl) ?_
  refine j_call (va_runU (b := h) (As := [.int (nI (n + sb_dg x))]) (rest := []) ⟨hx, hb, hml, hown, hts⟩ (jm_ensure l dC dI CA A L h b n a0 (n + sb_dg x) f ha (by omega) hf) (va_cwU (owner := "java/lang/AbstractStringBuilder") (x := ⟨"java/lang/AbstractStringBuilder", "ensureCapacityInternal", "(I)V"⟩) 1 hts (jgU jk5 (vm_hw_in (i := 818) (by decide +kernel)) (vm_hw_in (i := 1386) (by decide +kernel)) (vm_hw_in (i := 1393) (by decide +kernel)) (vm_hw_in (i := 820) (by decide +kernel)) (vm_hw_in (i := 49) (by decide +kernel))) rfl rfl rfl rfl (by decide +kernel) ⟨Nat.le_of_ble_eq_true rfl, Nat.le_of_ble_eq_true rfl⟩) ⟨jB.blind, va_recv hK hP jcl12 (show ((jW CA h b n a0 f : va_W))[0]? = _ from rfl), fun U hU hW => ⟨rfl, jB.of hK hX hL hA hP hD hS hU hW⟩⟩ rfl rfl hl.1 rfl (lv_room (Nat.le_of_ble_eq_true rfl)) (by decide +kernel : decode prog_14_method_32_code 14 = .ok (.invokevirtual 100, 3)) ⟨by show (0 + 0) + sb_k (n + sb_dg x) a0 ≤ (sb_k (n + sb_dg x) a0); omega, by show (0 + 0) + sb_z (n + sb_dg x) a0 ≤ (sb_z (n + sb_dg x) a0); omega⟩) hS (fun v ws H locs hR hP hD hS => ?_)
  obtain ⟨b1, f1, rfl, rfl, hf1, hk1⟩ := hR
  refine lv_aload_n hx hb (by decide +kernel : decode prog_14_method_32_code 17 = .ok (.aload_n 0, 1)) rfl (lv_at hl 2 rfl) ?_
  refine j_call (va_runU (b := h) (As := []) (rest := []) ⟨hx, hb, hml, hown, hts⟩ (jm_isLat l dC dI CA A L h (.ref b1) (.int (nI n)) _ rfl) (va_cwU (owner := "java/lang/AbstractStringBuilder") (x := ⟨"java/lang/AbstractStringBuilder", "isLatin1", "()Z"⟩) 0 hts (jgU jk0 (vm_hw_in (i := 846) (by decide +kernel)) (vm_hw_in (i := 848) (by decide +kernel)) (vm_hw_in (i := 849) (by decide +kernel)) (vm_hw_in (i := 847) (by decide +kernel)) (vm_hw_in (i := 49) (by decide +kernel))) rfl rfl rfl rfl (by decide +kernel) ⟨Nat.le_of_ble_eq_true rfl, Nat.le_of_ble_eq_true rfl⟩) ⟨jB.blind, va_recv hK hP jcl12 (show ((jW CA h b1 n (sb_cap (n + sb_dg x) a0) f1 : va_W))[0]? = _ from rfl), fun U hU hW => ⟨rfl, jB.of hK hX hL hA hP hD hS hU hW⟩⟩ rfl rfl hl.1 rfl (lv_room (Nat.le_of_ble_eq_true rfl)) (by decide +kernel : decode prog_14_method_32_code 18 = .ok (.invokevirtual 83, 3)) ⟨by show ((0 + 0) + sb_k (n + sb_dg x) a0) + 0 ≤ (sb_k (n + sb_dg x) a0); omega, by show ((0 + 0) + sb_z (n + sb_dg x) a0) + 0 ≤ (sb_z (n + sb_dg x) a0); omega⟩) hS (fun v ws H locs hR hP hD hS => ?_)
  obtain ⟨rfl, rfl⟩ := hR
  refine lv_if_eq (tgt := 37) hx hb (by decide +kernel : decode prog_14_method_32_code 21 = .ok (.ifCond .eq 16, 3)) (by decide) (fun z9 => absurd z9 (by decide)) (fun _ => ?_)
  refine lv_iload_n hx hb (by decide +kernel : decode prog_14_method_32_code 24 = .ok (.iload_n 1, 1)) rfl (lv_at hl 3 rfl) ?_
  refine lv_iload_n hx hb (by decide +kernel : decode prog_14_method_32_code 25 = .ok (.iload_n 3, 1)) rfl (lv_at hl 0 rfl) ?_
  refine lv_aload_n hx hb (by decide +kernel : decode prog_14_method_32_code 26 = .ok (.aload_n 0, 1)) rfl (lv_at hl 2 rfl) ?_
  refine va_get hx hb hts jSBin hown hK hP 0 rfl jcl12 0 (by decide) (hts (.fieldLink "java/lang/AbstractStringBuilder" 15 "java/lang/AbstractStringBuilder" "value" "[B") (vm_hw_in (i := 900) (by decide +kernel))) (fun _ h => h) (v := .ref b1) rfl (by decide +kernel : decode prog_14_method_32_code 27 = .ok (.getfield 15, 3)) ?_
  refine j_call (va_runS (As := [.int (nI x), .int (nI (n + sb_dg x)), .ref b1]) (rest := []) ⟨hx, hb, hml, hown, hts⟩ (jm_getChars l dC dI CA A L h b1 n (sb_cap (n + sb_dg x) a0) n x (n + sb_dg x) f1 hcm hx9 rfl hcg hf1) (va_cwS 3 hts (vm_gS jk9 (vm_hw_in (i := 922) (by decide +kernel)) (vm_hw_in (i := 923) (by decide +kernel)) (vm_hw_in (i := 59) (by decide +kernel))) rfl rfl rfl (by decide +kernel) ⟨Nat.le_of_ble_eq_true rfl, Nat.le_of_ble_eq_true rfl⟩) ⟨jB.blind, fun U hU hW => ⟨rfl, jB.of hK hX hL hA hP hD hS hU hW⟩⟩ rfl rfl hl.1 rfl (lv_room (Nat.le_of_ble_eq_true rfl)) (by decide +kernel : decode prog_14_method_32_code 30 = .ok (.invokestatic 248, 3)) ⟨by show (((0 + 0) + sb_k (n + sb_dg x) a0) + 0) + 0 ≤ (sb_k (n + sb_dg x) a0); omega, by show (((0 + 0) + sb_z (n + sb_dg x) a0) + 0) + 0 ≤ (sb_z (n + sb_dg x) a0); omega⟩) hS (fun v ws H locs hR hP hD hS => ?_)
  obtain ⟨f2, rfl, rfl, hf2, q2, q3⟩ := hR
  refine lv_pop hx hb (by decide +kernel : decode prog_14_method_32_code 33 = .ok (.pop, 1)) rfl ?_
  refine lv_goto (tgt := 48) hx hb (by decide +kernel : decode prog_14_method_32_code 34 = .ok (.goto 14, 3)) (by decide) ?_
  refine lv_aload_n hx hb (by decide +kernel : decode prog_14_method_32_code 48 = .ok (.aload_n 0, 1)) rfl (lv_at hl 2 rfl) ?_
  refine lv_iload_n hx hb (by decide +kernel : decode prog_14_method_32_code 49 = .ok (.iload_n 3, 1)) rfl (lv_at hl 0 rfl) ?_
  refine va_put hx hb hts jSBin jSBty jSBok jSBnm hown hK hP hD hS 0 rfl jcl12 3 (by decide) (hts (.fieldLink "java/lang/AbstractStringBuilder" 79 "java/lang/AbstractStringBuilder" "count" "I") (vm_hw_in (i := 903) (by decide +kernel))) (fun _ h => h) rfl (ty := .int) rfl rfl rfl (Nat.le_of_ble_eq_true rfl) (by decide +kernel : decode prog_14_method_32_code 50 = .ok (.putfield 79, 3)) (fun H locs hP hD hS => ?_)
  have hP : va_P (dC, dI) vm_cls ([(h, .inr (12, [.ref b1, .int 0, .int 0, .int (nI (n + sb_dg x))])), (b1, .inl (CA 101, sb_cap (n + sb_dg x) a0, .inl f2))]) _ := hP
  have hD : va_D A ([(h, .inr (12, [.ref b1, .int 0, .int 0, .int (nI (n + sb_dg x))])), (b1, .inl (CA 101, sb_cap (n + sb_dg x) a0, .inl f2))]) := hD
  refine lv_aload_n hx hb (by decide +kernel : decode prog_14_method_32_code 53 = .ok (.aload_n 0, 1)) rfl (lv_at hl 2 rfl) ?_
  refine W.widen (show ((((0 + 0) + sb_k (n + sb_dg x) a0) + 0) + 0) ≤ (sb_k (n + sb_dg x) a0) by omega) (show ((((0 + 0) + sb_z (n + sb_dg x) a0) + 0) + 0) ≤ (sb_z (n + sb_dg x) a0) by omega) ?_
  exact W.aret hx hb hr (Or.inl ⟨_, rfl⟩) (Or.inr ⟨_, rfl⟩) (fun t ht hW => ⟨_, _, ⟨b1, f2, rfl, rfl, hf2, fun j hj => by rw [q2 j (Or.inl hj)]; exact hk1 j (by omega), q3⟩, rfl, by rw [ht]; exact hP, hD, hS.F ht⟩) hS.2.2 (by decide +kernel : decode prog_14_method_32_code 54 = .ok (.areturn, 1))
theorem jk11 : Cond.code ⟨"java/lang/StringBuilder", "append", "(I)Ljava/lang/StringBuilder;"⟩ prog_19_method_15_code 2 (some (.object "java/lang/StringBuilder")) ∈ vm_W := vm_code_in (vm_in4 (List.mem_of_getElem? (i := 158) (by rfl)))
set_option maxHeartbeats 4000000 in
theorem jm_sbI (l : Launch) (dC : Nat → ClassId) (dI : Nat → Nat → Nat) (CA : Nat → ClassId) (A : Nat → Prop) (L : jT) (h b n a0 x : Nat) (f : Nat → Int32) (ha : a0 ≤ 65536) (hn : n ≤ a0) (hq : n + sb_dg x ≤ 32767) (hf : sb_Fit f) (hx9 : x < 10000000) : Met l ⟨"java/lang/StringBuilder", "append", "(I)Ljava/lang/StringBuilder;"⟩ (Cond.code ⟨"java/lang/StringBuilder", "append", "(I)Ljava/lang/StringBuilder;"⟩ prog_19_method_15_code 2 (some (.object "java/lang/StringBuilder")) :: vm_W) ({ frames := 5, cells := (sb_k (n + sb_dg x) a0), slots := (sb_z (n + sb_dg x) a0), locals := 200 }) (va_Pc [.ref h, .int (nI x)] (jB dC dI CA A L (jW CA h b n a0 f))) (jE dC dI A (fun v ws => ∃ (b1 : Nat) (f1 : Nat → Int32), v = some (.ref h) ∧ ws = jW CA h b1 (n + sb_dg x) (sb_cap (n + sb_dg x) a0) f1 ∧ sb_Fit f1 ∧ (∀ j, j < n → f1 j = f j) ∧ ∀ i, i < sb_dg x → f1 (n + sb_dg x - 1 - i) = sb_b (48 + x / 10 ^ i % 10))) ((sb_k (n + sb_dg x) a0)) ((sb_z (n + sb_dg x) a0)) A := by
  refine Met.ofW (cc := prog_19_method_15_code) (maxL := 2) (ret := (some (.object "java/lang/StringBuilder"))) (by decide) rfl ?_
  intro p e s m args below meth c s₁ B hml hv
  obtain ⟨rfl, hK, hX, hL, hP, hD, hA⟩ := hv
  have hx := B.exec
  have hb := B.bytes
  have hr := B.returns
  have hts := vm_tsW (atoms_spec B.pre)
  have hown : s.vm.findClass "java/lang/StringBuilder" = some m.cls := findClass_of_methodNamed B.named
  have hlocks := B.notSynchronized
  have hnm : meth.name = "append" := (name_of_methodNamed B.named B.method).1
  have hS : va_S A s.heap s.heap [] := va_S.rf
  have hl := lv_entry ([.ref h, .int (nI x)]) (n := 2) (Nat.le_of_ble_eq_true rfl)
  rw [lg_entry_eq]
  generalize (lg_sl ([.ref h, .int (nI x)]) ++ List.replicate (2 - (lg_sl ([.ref h, .int (nI x)])).length) Slot.unset).toArray = ls at hl ⊢
  have hl : lv_has ls 2 [(0, .ref h), (1, .int (nI x))] := hl
  refine lv_aload_n hx hb (by decide +kernel : decode prog_19_method_15_code 0 = .ok (.aload_n 0, 1)) rfl (lv_at hl 0 rfl) ?_
  refine lv_iload_n hx hb (by decide +kernel : decode prog_19_method_15_code 1 = .ok (.iload_n 1, 1)) rfl (lv_at hl 1 rfl) ?_
  refine j_call (va_runSU (C := "java/lang/StringBuilder") (b := h) (As := [.int (nI x)]) (rest := []) (hK.1 12 _ jcl12).2 ⟨hx, hb, hml, hown, hts⟩ (jm_appI l dC dI CA A L h b n a0 x f ha hn hq hf hx9) (va_cwSU 1 hts (jgSU jk10 (vm_hw_in (i := 916) (by decide +kernel)) (vm_hw_in (i := 1391) (by decide +kernel)) (vm_hw_in (i := 812) (by decide +kernel)) (vm_hw_in (i := 917) (by decide +kernel)) (vm_hw_in (i := 49) (by decide +kernel))) rfl rfl rfl (by decide +kernel) ⟨Nat.le_of_ble_eq_true rfl, Nat.le_of_ble_eq_true rfl⟩) ⟨jB.blind, va_recv hK hP jcl12 (show ((jW CA h b n a0 f : va_W))[0]? = _ from rfl), fun U hU hW => ⟨rfl, jB.of hK hX hL hA hP hD hS hU hW⟩⟩ rfl rfl hl.1 rfl (lv_room (Nat.le_of_ble_eq_true rfl)) (by decide +kernel : decode prog_19_method_15_code 2 = .ok (.invokespecial 53, 3)) ⟨by show 0 + sb_k (n + sb_dg x) a0 ≤ (sb_k (n + sb_dg x) a0); omega, by show 0 + sb_z (n + sb_dg x) a0 ≤ (sb_z (n + sb_dg x) a0); omega⟩) hS (fun v ws H locs hR hP hD hS => ?_)
  obtain ⟨b1, f1, rfl, rfl, hR⟩ := hR
  refine lv_pop hx hb (by decide +kernel : decode prog_19_method_15_code 5 = .ok (.pop, 1)) rfl ?_
  refine lv_aload_n hx hb (by decide +kernel : decode prog_19_method_15_code 6 = .ok (.aload_n 0, 1)) rfl (lv_at hl 0 rfl) ?_
  refine W.widen (show (0 + sb_k (n + sb_dg x) a0) ≤ (sb_k (n + sb_dg x) a0) by omega) (show (0 + sb_z (n + sb_dg x) a0) ≤ (sb_z (n + sb_dg x) a0) by omega) ?_
  exact W.aret hx hb hr (Or.inl ⟨_, rfl⟩) (Or.inr ⟨_, rfl⟩) (fun t ht hW => ⟨_, _, ⟨b1, f1, rfl, rfl, hR⟩, rfl, by rw [ht]; exact hP, hD, hS.F ht⟩) hS.2.2 (by decide +kernel : decode prog_19_method_15_code 7 = .ok (.areturn, 1))
