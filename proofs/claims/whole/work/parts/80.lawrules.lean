/-! ===== rules of the law (printed) ===== -/
abbrev kuL_law_16 (w3 : Option vm_V) (w4 : Option vm_V) (w6 : Option vm_V) (m : vm_M) (Q : Int → vm_M → Prop) : Prop := vm_G 301 16 [some (vm_r 902), some (vm_r 0), some (vm_r 96), w3, w4, none, w6, none] [] m (vm_qi Q)
abbrev kuL_law_18 (v3 : Int) (w4 : Option vm_V) (w6 : Option vm_V) (m : vm_M) (Q : Int → vm_M → Prop) : Prop := vm_G 301 18 [some (vm_r 902), some (vm_r 0), some (vm_r 96), some (vm_i v3), w4, none, w6, none] [] m (vm_qi Q)
abbrev kuL_law_252 (v3 : Int) (w4 : Option vm_V) (w6 : Option vm_V) (m : vm_M) (Q : Int → vm_M → Prop) : Prop := vm_G 301 252 [some (vm_r 902), some (vm_r 0), some (vm_r 96), some (vm_i v3), w4, none, w6, none] [] m (vm_qi Q)
abbrev kuL_law_315 (v3 : Int) (w4 : Option vm_V) (w6 : Option vm_V) (m : vm_M) (Q : Int → vm_M → Prop) : Prop := vm_G 301 315 [some (vm_r 902), some (vm_r 0), some (vm_r 96), some (vm_i v3), w4, none, w6, none] [] m (vm_qi Q)
abbrev kuL_law_338 (v3 : Int) (w4 : Option vm_V) (w6 : Option vm_V) (m : vm_M) (Q : Int → vm_M → Prop) : Prop := vm_G 301 338 [some (vm_r 902), some (vm_r 0), some (vm_r 96), some (vm_i v3), w4, none, w6, none] [] m (vm_qi Q)
abbrev kuL_law_351 (v3 : Int) (w4 : Option vm_V) (w6 : Option vm_V) (m : vm_M) (Q : Int → vm_M → Prop) : Prop := vm_G 301 351 [some (vm_r 902), some (vm_r 0), some (vm_r 96), some (vm_i v3), w4, none, w6, none] [] m (vm_qi Q)
abbrev kuL_law_364 (v3 : Int) (w4 : Option vm_V) (w6 : Option vm_V) (m : vm_M) (Q : Int → vm_M → Prop) : Prop := vm_G 301 364 [some (vm_r 902), some (vm_r 0), some (vm_r 96), some (vm_i v3), w4, none, w6, none] [] m (vm_qi Q)
abbrev kuL_law_377 (v3 : Int) (w4 : Option vm_V) (w6 : Option vm_V) (m : vm_M) (Q : Int → vm_M → Prop) : Prop := vm_G 301 377 [some (vm_r 902), some (vm_r 0), some (vm_r 96), some (vm_i v3), w4, none, w6, none] [] m (vm_qi Q)
abbrev kuL_law_410 (v3 : Int) (w4 : Option vm_V) (w6 : Option vm_V) (m : vm_M) (Q : Int → vm_M → Prop) : Prop := vm_G 301 410 [some (vm_r 902), some (vm_r 0), some (vm_r 96), some (vm_i v3), w4, none, w6, none] [] m (vm_qi Q)
abbrev kuL_law_453 (v3 : Int) (w4 : Option vm_V) (w6 : Option vm_V) (m : vm_M) (Q : Int → vm_M → Prop) : Prop := vm_G 301 453 [some (vm_r 902), some (vm_r 0), some (vm_r 96), some (vm_i v3), w4, none, w6, none] [] m (vm_qi Q)
abbrev kuL_law_476 (v3 : Int) (w4 : Option vm_V) (w6 : Option vm_V) (m : vm_M) (Q : Int → vm_M → Prop) : Prop := vm_G 301 476 [some (vm_r 902), some (vm_r 0), some (vm_r 96), some (vm_i v3), w4, none, w6, none] [] m (vm_qi Q)
abbrev kuL_law_515 (v3 : Int) (w4 : Option vm_V) (w6 : Option vm_V) (m : vm_M) (Q : Int → vm_M → Prop) : Prop := vm_G 301 515 [some (vm_r 902), some (vm_r 0), some (vm_r 96), some (vm_i v3), w4, none, w6, none] [] m (vm_qi Q)
abbrev kuL_law_548 (v3 : Int) (w4 : Option vm_V) (w6 : Option vm_V) (m : vm_M) (Q : Int → vm_M → Prop) : Prop := vm_G 301 548 [some (vm_r 902), some (vm_r 0), some (vm_r 96), some (vm_i v3), w4, none, w6, none] [] m (vm_qi Q)
abbrev kuL_law_571 (v3 : Int) (w4 : Option vm_V) (w6 : Option vm_V) (m : vm_M) (Q : Int → vm_M → Prop) : Prop := vm_G 301 571 [some (vm_r 902), some (vm_r 0), some (vm_r 96), some (vm_i v3), w4, none, w6, none] [] m (vm_qi Q)
abbrev kuL_law_594 (v3 : Int) (w4 : Option vm_V) (w6 : Option vm_V) (m : vm_M) (Q : Int → vm_M → Prop) : Prop := vm_G 301 594 [some (vm_r 902), some (vm_r 0), some (vm_r 96), some (vm_i v3), w4, none, w6, none] [] m (vm_qi Q)
abbrev kuL_law_607 (v3 : Int) (w4 : Option vm_V) (w6 : Option vm_V) (m : vm_M) (Q : Int → vm_M → Prop) : Prop := vm_G 301 607 [some (vm_r 902), some (vm_r 0), some (vm_r 96), some (vm_i v3), w4, none, w6, none] [] m (vm_qi Q)
abbrev kuL_law_630 (v3 : Int) (w4 : Option vm_V) (w6 : Option vm_V) (m : vm_M) (Q : Int → vm_M → Prop) : Prop := vm_G 301 630 [some (vm_r 902), some (vm_r 0), some (vm_r 96), some (vm_i v3), w4, none, w6, none] [] m (vm_qi Q)
abbrev kuL_law_689 (v3 : Int) (w4 : Option vm_V) (w6 : Option vm_V) (m : vm_M) (Q : Int → vm_M → Prop) : Prop := vm_G 301 689 [some (vm_r 902), some (vm_r 0), some (vm_r 96), some (vm_i v3), w4, none, w6, none] [] m (vm_qi Q)
abbrev kuL_law_722 (v3 : Int) (w4 : Option vm_V) (w6 : Option vm_V) (m : vm_M) (Q : Int → vm_M → Prop) : Prop := vm_G 301 722 [some (vm_r 902), some (vm_r 0), some (vm_r 96), some (vm_i v3), w4, none, w6, none] [] m (vm_qi Q)
abbrev kuL_law_765 (v3 : Int) (w4 : Option vm_V) (w6 : Option vm_V) (m : vm_M) (Q : Int → vm_M → Prop) : Prop := vm_G 301 765 [some (vm_r 902), some (vm_r 0), some (vm_r 96), some (vm_i v3), w4, none, w6, none] [] m (vm_qi Q)
abbrev kuL_law_808 (v3 : Int) (w4 : Option vm_V) (w6 : Option vm_V) (m : vm_M) (Q : Int → vm_M → Prop) : Prop := vm_G 301 808 [some (vm_r 902), some (vm_r 0), some (vm_r 96), some (vm_i v3), w4, none, w6, none] [] m (vm_qi Q)
abbrev kuL_law_841 (v3 : Int) (w4 : Option vm_V) (w6 : Option vm_V) (m : vm_M) (Q : Int → vm_M → Prop) : Prop := vm_G 301 841 [some (vm_r 902), some (vm_r 0), some (vm_r 96), some (vm_i v3), w4, none, w6, none] [] m (vm_qi Q)
abbrev kuL_law_880 (v3 : Int) (w4 : Option vm_V) (w6 : Option vm_V) (m : vm_M) (Q : Int → vm_M → Prop) : Prop := vm_G 301 880 [some (vm_r 902), some (vm_r 0), some (vm_r 96), some (vm_i v3), w4, none, w6, none] [] m (vm_qi Q)
abbrev kuL_law_903 (v3 : Int) (w4 : Option vm_V) (w6 : Option vm_V) (m : vm_M) (Q : Int → vm_M → Prop) : Prop := vm_G 301 903 [some (vm_r 902), some (vm_r 0), some (vm_r 96), some (vm_i v3), w4, none, w6, none] [] m (vm_qi Q)
abbrev kuL_law_952 (v3 : Int) (w4 : Option vm_V) (w6 : Option vm_V) (m : vm_M) (Q : Int → vm_M → Prop) : Prop := vm_G 301 952 [some (vm_r 902), some (vm_r 0), some (vm_r 96), some (vm_i v3), w4, none, w6, none] [] m (vm_qi Q)
abbrev kuL_law_985 (v3 : Int) (w4 : Option vm_V) (w6 : Option vm_V) (m : vm_M) (Q : Int → vm_M → Prop) : Prop := vm_G 301 985 [some (vm_r 902), some (vm_r 0), some (vm_r 96), some (vm_i v3), w4, none, w6, none] [] m (vm_qi Q)
abbrev kuL_law_1018 (v3 : Int) (w4 : Option vm_V) (w6 : Option vm_V) (m : vm_M) (Q : Int → vm_M → Prop) : Prop := vm_G 301 1018 [some (vm_r 902), some (vm_r 0), some (vm_r 96), some (vm_i v3), w4, none, w6, none] [] m (vm_qi Q)
abbrev kuL_law_1031 (v3 : Int) (w4 : Option vm_V) (w6 : Option vm_V) (m : vm_M) (Q : Int → vm_M → Prop) : Prop := vm_G 301 1031 [some (vm_r 902), some (vm_r 0), some (vm_r 96), some (vm_i v3), w4, none, w6, none] [] m (vm_qi Q)
abbrev kuL_law_1064 (v3 : Int) (w4 : Option vm_V) (w6 : Option vm_V) (m : vm_M) (Q : Int → vm_M → Prop) : Prop := vm_G 301 1064 [some (vm_r 902), some (vm_r 0), some (vm_r 96), some (vm_i v3), w4, none, w6, none] [] m (vm_qi Q)
abbrev kuL_law_1097 (v3 : Int) (w4 : Option vm_V) (w6 : Option vm_V) (m : vm_M) (Q : Int → vm_M → Prop) : Prop := vm_G 301 1097 [some (vm_r 902), some (vm_r 0), some (vm_r 96), some (vm_i v3), w4, none, w6, none] [] m (vm_qi Q)
abbrev kuL_law_1130 (v3 : Int) (w4 : Option vm_V) (w6 : Option vm_V) (m : vm_M) (Q : Int → vm_M → Prop) : Prop := vm_G 301 1130 [some (vm_r 902), some (vm_r 0), some (vm_r 96), some (vm_i v3), w4, none, w6, none] [] m (vm_qi Q)
abbrev kuL_law_1163 (v3 : Int) (w4 : Option vm_V) (w6 : Option vm_V) (m : vm_M) (Q : Int → vm_M → Prop) : Prop := vm_G 301 1163 [some (vm_r 902), some (vm_r 0), some (vm_r 96), some (vm_i v3), w4, none, w6, none] [] m (vm_qi Q)
abbrev kuL_law_1186 (v3 : Int) (w4 : Option vm_V) (w6 : Option vm_V) (m : vm_M) (Q : Int → vm_M → Prop) : Prop := vm_G 301 1186 [some (vm_r 902), some (vm_r 0), some (vm_r 96), some (vm_i v3), w4, none, w6, none] [] m (vm_qi Q)
abbrev kuL_law_1229 (v3 : Int) (w4 : Option vm_V) (w6 : Option vm_V) (m : vm_M) (Q : Int → vm_M → Prop) : Prop := vm_G 301 1229 [some (vm_r 902), some (vm_r 0), some (vm_r 96), some (vm_i v3), w4, none, w6, none] [] m (vm_qi Q)
abbrev kuL_law_1252 (v3 : Int) (w4 : Option vm_V) (w6 : Option vm_V) (m : vm_M) (Q : Int → vm_M → Prop) : Prop := vm_G 301 1252 [some (vm_r 902), some (vm_r 0), some (vm_r 96), some (vm_i v3), w4, none, w6, none] [] m (vm_qi Q)
abbrev kuL_law_1291 (v3 : Int) (w4 : Option vm_V) (w6 : Option vm_V) (m : vm_M) (Q : Int → vm_M → Prop) : Prop := vm_G 301 1291 [some (vm_r 902), some (vm_r 0), some (vm_r 96), some (vm_i v3), w4, none, w6, none] [] m (vm_qi Q)
abbrev kuL_law_1324 (v3 : Int) (w4 : Option vm_V) (w6 : Option vm_V) (m : vm_M) (Q : Int → vm_M → Prop) : Prop := vm_G 301 1324 [some (vm_r 902), some (vm_r 0), some (vm_r 96), some (vm_i v3), w4, none, w6, none] [] m (vm_qi Q)
abbrev kuL_law_1337 (v3 : Int) (w4 : Option vm_V) (w6 : Option vm_V) (m : vm_M) (Q : Int → vm_M → Prop) : Prop := vm_G 301 1337 [some (vm_r 902), some (vm_r 0), some (vm_r 96), some (vm_i v3), w4, none, w6, none] [] m (vm_qi Q)
abbrev kuL_law_1350 (v3 : Int) (w4 : Option vm_V) (w6 : Option vm_V) (m : vm_M) (Q : Int → vm_M → Prop) : Prop := vm_G 301 1350 [some (vm_r 902), some (vm_r 0), some (vm_r 96), some (vm_i v3), w4, none, w6, none] [] m (vm_qi Q)
abbrev kuL_law_1363 (v3 : Int) (w4 : Option vm_V) (w6 : Option vm_V) (m : vm_M) (Q : Int → vm_M → Prop) : Prop := vm_G 301 1363 [some (vm_r 902), some (vm_r 0), some (vm_r 96), some (vm_i v3), w4, none, w6, none] [] m (vm_qi Q)
abbrev kuL_law_1386 (v3 : Int) (w4 : Option vm_V) (w6 : Option vm_V) (m : vm_M) (Q : Int → vm_M → Prop) : Prop := vm_G 301 1386 [some (vm_r 902), some (vm_r 0), some (vm_r 96), some (vm_i v3), w4, none, w6, none] [] m (vm_qi Q)
abbrev kuL_law_1399 (v3 : Int) (w4 : Option vm_V) (w6 : Option vm_V) (m : vm_M) (Q : Int → vm_M → Prop) : Prop := vm_G 301 1399 [some (vm_r 902), some (vm_r 0), some (vm_r 96), some (vm_i v3), w4, none, w6, none] [] m (vm_qi Q)
abbrev kuL_law_1412 (v3 : Int) (w4 : Option vm_V) (w6 : Option vm_V) (m : vm_M) (Q : Int → vm_M → Prop) : Prop := vm_G 301 1412 [some (vm_r 902), some (vm_r 0), some (vm_r 96), some (vm_i v3), w4, none, w6, none] [] m (vm_qi Q)
abbrev kuL_law_1425 (v3 : Int) (w4 : Option vm_V) (w6 : Option vm_V) (m : vm_M) (Q : Int → vm_M → Prop) : Prop := vm_G 301 1425 [some (vm_r 902), some (vm_r 0), some (vm_r 96), some (vm_i v3), w4, none, w6, none] [] m (vm_qi Q)
abbrev kuL_law_1448 (v3 : Int) (w4 : Option vm_V) (w6 : Option vm_V) (m : vm_M) (Q : Int → vm_M → Prop) : Prop := vm_G 301 1448 [some (vm_r 902), some (vm_r 0), some (vm_r 96), some (vm_i v3), w4, none, w6, none] [] m (vm_qi Q)
abbrev kuL_law_1461 (v3 : Int) (w4 : Option vm_V) (w6 : Option vm_V) (m : vm_M) (Q : Int → vm_M → Prop) : Prop := vm_G 301 1461 [some (vm_r 902), some (vm_r 0), some (vm_r 96), some (vm_i v3), w4, none, w6, none] [] m (vm_qi Q)
abbrev kuL_law_1494 (v3 : Int) (w4 : Option vm_V) (w6 : Option vm_V) (m : vm_M) (Q : Int → vm_M → Prop) : Prop := vm_G 301 1494 [some (vm_r 902), some (vm_r 0), some (vm_r 96), some (vm_i v3), w4, none, w6, none] [] m (vm_qi Q)
abbrev kuL_law_1547 (v3 : Int) (w4 : Option vm_V) (w6 : Option vm_V) (m : vm_M) (Q : Int → vm_M → Prop) : Prop := vm_G 301 1547 [some (vm_r 902), some (vm_r 0), some (vm_r 96), some (vm_i v3), w4, none, w6, none] [] m (vm_qi Q)
abbrev kuL_law_1588 (v3 : Int) (w4 : Option vm_V) (w6 : Option vm_V) (m : vm_M) (Q : Int → vm_M → Prop) : Prop := vm_G 301 1588 [some (vm_r 902), some (vm_r 0), some (vm_r 96), some (vm_i v3), w4, none, w6, none] [] m (vm_qi Q)
abbrev kuL_law_1601 (v3 : Int) (w4 : Option vm_V) (w6 : Option vm_V) (m : vm_M) (Q : Int → vm_M → Prop) : Prop := vm_G 301 1601 [some (vm_r 902), some (vm_r 0), some (vm_r 96), some (vm_i v3), w4, none, w6, none] [] m (vm_qi Q)
abbrev kuL_law_1624 (v3 : Int) (w4 : Option vm_V) (w6 : Option vm_V) (m : vm_M) (Q : Int → vm_M → Prop) : Prop := vm_G 301 1624 [some (vm_r 902), some (vm_r 0), some (vm_r 96), some (vm_i v3), w4, none, w6, none] [] m (vm_qi Q)
abbrev kuL_law_1637 (v3 : Int) (w4 : Option vm_V) (w6 : Option vm_V) (m : vm_M) (Q : Int → vm_M → Prop) : Prop := vm_G 301 1637 [some (vm_r 902), some (vm_r 0), some (vm_r 96), some (vm_i v3), w4, none, w6, none] [] m (vm_qi Q)
abbrev kuL_law_1660 (v3 : Int) (w4 : Option vm_V) (w6 : Option vm_V) (m : vm_M) (Q : Int → vm_M → Prop) : Prop := vm_G 301 1660 [some (vm_r 902), some (vm_r 0), some (vm_r 96), some (vm_i v3), w4, none, w6, none] [] m (vm_qi Q)
abbrev kuL_law_1673 (v3 : Int) (w4 : Option vm_V) (w6 : Option vm_V) (m : vm_M) (Q : Int → vm_M → Prop) : Prop := vm_G 301 1673 [some (vm_r 902), some (vm_r 0), some (vm_r 96), some (vm_i v3), w4, none, w6, none] [] m (vm_qi Q)
abbrev kuL_law_1679 (v3 : Int) (w4 : Option vm_V) (w6 : Option vm_V) (m : vm_M) (Q : Int → vm_M → Prop) : Prop := vm_G 301 1679 [some (vm_r 902), some (vm_r 0), some (vm_r 96), some (vm_i v3), w4, none, w6, none] [] m (vm_qi Q)
set_option maxRecDepth 20000 in
theorem ruL_law_16 {w3 : Option vm_V} {w4 : Option vm_V} {w6 : Option vm_V} {m : vm_M} {Q : Int → vm_M → Prop}  (h :
    kuL_law_18 0 w4 w6 m Q) : kuL_law_16 w3 w4 w6 m Q := by
  show vm_G 301 16 [some (vm_r 902), some (vm_r 0), some (vm_r 96), w3, w4, none, w6, none] [] m (vm_qi Q)
  refine vm_gp [(.iconst 0, 0, 0, []), (.istore 3, 0, 0, [])] (pc1 := 18) (ls1 := [some (vm_r 902), some (vm_r 0), some (vm_r 96), some (vm_i 0), w4, none, w6, none]) (st1 := []) (m1 := m) (ob := true) (by decide +kernel) rfl rfl ?_
  exact h
set_option maxRecDepth 20000 in
theorem ruL_law_18 {v3 : Int} {w4 : Option vm_V} {w6 : Option vm_V} {m : vm_M} {Q : Int → vm_M → Prop}  (h :
    ((vm_32 ((m 903 0) - 6))) ∧
    ((((m 903 0) - 6) < v3 →
      kuL_law_1679 v3 w4 w6 m Q) ∧ (¬ ((m 903 0) - 6) < v3 →
      ((0 ≤ v3 ∧ v3 < (m 903 0))) ∧
      (((vm_and (m 902 v3) 63) = 0 →
        kuL_law_252 v3 w4 w6 m Q) ∧ (¬ (vm_and (m 902 v3) 63) = 0 →
        (((vm_and (m 902 v3) 63) = 1 →
          kuL_law_315 v3 w4 w6 m Q) ∧ (¬ (vm_and (m 902 v3) 63) = 1 →
          (((vm_and (m 902 v3) 63) = 2 →
            kuL_law_338 v3 w4 w6 m Q) ∧ (¬ (vm_and (m 902 v3) 63) = 2 →
            (((vm_and (m 902 v3) 63) = 3 →
              kuL_law_351 v3 w4 w6 m Q) ∧ (¬ (vm_and (m 902 v3) 63) = 3 →
              (((vm_and (m 902 v3) 63) = 4 →
                kuL_law_364 v3 w4 w6 m Q) ∧ (¬ (vm_and (m 902 v3) 63) = 4 →
                (((vm_and (m 902 v3) 63) = 5 →
                  kuL_law_377 v3 w4 w6 m Q) ∧ (¬ (vm_and (m 902 v3) 63) = 5 →
                  (((vm_and (m 902 v3) 63) = 6 →
                    kuL_law_410 v3 w4 w6 m Q) ∧ (¬ (vm_and (m 902 v3) 63) = 6 →
                    (((vm_and (m 902 v3) 63) = 7 →
                      kuL_law_453 v3 w4 w6 m Q) ∧ (¬ (vm_and (m 902 v3) 63) = 7 →
                      (((vm_and (m 902 v3) 63) = 8 →
                        kuL_law_476 v3 w4 w6 m Q) ∧ (¬ (vm_and (m 902 v3) 63) = 8 →
                        (((vm_and (m 902 v3) 63) = 9 →
                          kuL_law_515 v3 w4 w6 m Q) ∧ (¬ (vm_and (m 902 v3) 63) = 9 →
                          (((vm_and (m 902 v3) 63) = 10 →
                            kuL_law_548 v3 w4 w6 m Q) ∧ (¬ (vm_and (m 902 v3) 63) = 10 →
                            (((vm_and (m 902 v3) 63) = 11 →
                              kuL_law_571 v3 w4 w6 m Q) ∧ (¬ (vm_and (m 902 v3) 63) = 11 →
                              (((vm_and (m 902 v3) 63) = 12 →
                                kuL_law_594 v3 w4 w6 m Q) ∧ (¬ (vm_and (m 902 v3) 63) = 12 →
                                (((vm_and (m 902 v3) 63) = 13 →
                                  kuL_law_607 v3 w4 w6 m Q) ∧ (¬ (vm_and (m 902 v3) 63) = 13 →
                                  (((vm_and (m 902 v3) 63) = 14 →
                                    kuL_law_630 v3 w4 w6 m Q) ∧ (¬ (vm_and (m 902 v3) 63) = 14 →
                                    (((vm_and (m 902 v3) 63) = 15 →
                                      kuL_law_689 v3 w4 w6 m Q) ∧ (¬ (vm_and (m 902 v3) 63) = 15 →
                                      (((vm_and (m 902 v3) 63) = 16 →
                                        kuL_law_722 v3 w4 w6 m Q) ∧ (¬ (vm_and (m 902 v3) 63) = 16 →
                                        (((vm_and (m 902 v3) 63) = 17 →
                                          kuL_law_765 v3 w4 w6 m Q) ∧ (¬ (vm_and (m 902 v3) 63) = 17 →
                                          (((vm_and (m 902 v3) 63) = 18 →
                                            kuL_law_808 v3 w4 w6 m Q) ∧ (¬ (vm_and (m 902 v3) 63) = 18 →
                                            (((vm_and (m 902 v3) 63) = 19 →
                                              kuL_law_841 v3 w4 w6 m Q) ∧ (¬ (vm_and (m 902 v3) 63) = 19 →
                                              (((vm_and (m 902 v3) 63) = 20 →
                                                kuL_law_880 v3 w4 w6 m Q) ∧ (¬ (vm_and (m 902 v3) 63) = 20 →
                                                (((vm_and (m 902 v3) 63) = 21 →
                                                  kuL_law_903 v3 w4 w6 m Q) ∧ (¬ (vm_and (m 902 v3) 63) = 21 →
                                                  (((vm_and (m 902 v3) 63) = 22 →
                                                    kuL_law_952 v3 w4 w6 m Q) ∧ (¬ (vm_and (m 902 v3) 63) = 22 →
                                                    (((vm_and (m 902 v3) 63) = 23 →
                                                      kuL_law_985 v3 w4 w6 m Q) ∧ (¬ (vm_and (m 902 v3) 63) = 23 →
                                                      (((vm_and (m 902 v3) 63) = 24 →
                                                        kuL_law_1018 v3 w4 w6 m Q) ∧ (¬ (vm_and (m 902 v3) 63) = 24 →
                                                        (((vm_and (m 902 v3) 63) = 25 →
                                                          kuL_law_1031 v3 w4 w6 m Q) ∧ (¬ (vm_and (m 902 v3) 63) = 25 →
                                                          (((vm_and (m 902 v3) 63) = 26 →
                                                            kuL_law_1064 v3 w4 w6 m Q) ∧ (¬ (vm_and (m 902 v3) 63) = 26 →
                                                            (((vm_and (m 902 v3) 63) = 27 →
                                                              kuL_law_1097 v3 w4 w6 m Q) ∧ (¬ (vm_and (m 902 v3) 63) = 27 →
                                                              (((vm_and (m 902 v3) 63) = 28 →
                                                                kuL_law_1130 v3 w4 w6 m Q) ∧ (¬ (vm_and (m 902 v3) 63) = 28 →
                                                                (((vm_and (m 902 v3) 63) = 29 →
                                                                  kuL_law_1163 v3 w4 w6 m Q) ∧ (¬ (vm_and (m 902 v3) 63) = 29 →
                                                                  (((vm_and (m 902 v3) 63) = 30 →
                                                                    kuL_law_1186 v3 w4 w6 m Q) ∧ (¬ (vm_and (m 902 v3) 63) = 30 →
                                                                    (((vm_and (m 902 v3) 63) = 31 →
                                                                      kuL_law_1229 v3 w4 w6 m Q) ∧ (¬ (vm_and (m 902 v3) 63) = 31 →
                                                                      (((vm_and (m 902 v3) 63) = 32 →
                                                                        kuL_law_1252 v3 w4 w6 m Q) ∧ (¬ (vm_and (m 902 v3) 63) = 32 →
                                                                        (((vm_and (m 902 v3) 63) = 33 →
                                                                          kuL_law_1291 v3 w4 w6 m Q) ∧ (¬ (vm_and (m 902 v3) 63) = 33 →
                                                                          (((vm_and (m 902 v3) 63) = 34 →
                                                                            kuL_law_1324 v3 w4 w6 m Q) ∧ (¬ (vm_and (m 902 v3) 63) = 34 →
                                                                            (((vm_and (m 902 v3) 63) = 35 →
                                                                              kuL_law_1337 v3 w4 w6 m Q) ∧ (¬ (vm_and (m 902 v3) 63) = 35 →
                                                                              (((vm_and (m 902 v3) 63) = 36 →
                                                                                kuL_law_1350 v3 w4 w6 m Q) ∧ (¬ (vm_and (m 902 v3) 63) = 36 →
                                                                                (((vm_and (m 902 v3) 63) = 37 →
                                                                                  kuL_law_1363 v3 w4 w6 m Q) ∧ (¬ (vm_and (m 902 v3) 63) = 37 →
                                                                                  (((vm_and (m 902 v3) 63) = 38 →
                                                                                    kuL_law_1386 v3 w4 w6 m Q) ∧ (¬ (vm_and (m 902 v3) 63) = 38 →
                                                                                    (((vm_and (m 902 v3) 63) = 39 →
                                                                                      kuL_law_1399 v3 w4 w6 m Q) ∧ (¬ (vm_and (m 902 v3) 63) = 39 →
                                                                                      (((vm_and (m 902 v3) 63) = 40 →
                                                                                        kuL_law_1412 v3 w4 w6 m Q) ∧ (¬ (vm_and (m 902 v3) 63) = 40 →
                                                                                        (((vm_and (m 902 v3) 63) = 41 →
                                                                                          kuL_law_1425 v3 w4 w6 m Q) ∧ (¬ (vm_and (m 902 v3) 63) = 41 →
                                                                                          (((vm_and (m 902 v3) 63) = 42 →
                                                                                            kuL_law_1448 v3 w4 w6 m Q) ∧ (¬ (vm_and (m 902 v3) 63) = 42 →
                                                                                            (((vm_and (m 902 v3) 63) = 43 →
                                                                                              kuL_law_1461 v3 w4 w6 m Q) ∧ (¬ (vm_and (m 902 v3) 63) = 43 →
                                                                                              (((vm_and (m 902 v3) 63) = 44 →
                                                                                                kuL_law_1494 v3 w4 w6 m Q) ∧ (¬ (vm_and (m 902 v3) 63) = 44 →
                                                                                                (((vm_and (m 902 v3) 63) = 45 →
                                                                                                  kuL_law_1547 v3 w4 w6 m Q) ∧ (¬ (vm_and (m 902 v3) 63) = 45 →
                                                                                                  (((vm_and (m 902 v3) 63) = 46 →
                                                                                                    kuL_law_1588 v3 w4 w6 m Q) ∧ (¬ (vm_and (m 902 v3) 63) = 46 →
                                                                                                    (((vm_and (m 902 v3) 63) = 47 →
                                                                                                      kuL_law_1601 v3 w4 w6 m Q) ∧ (¬ (vm_and (m 902 v3) 63) = 47 →
                                                                                                      (((vm_and (m 902 v3) 63) = 48 →
                                                                                                        kuL_law_1624 v3 w4 w6 m Q) ∧ (¬ (vm_and (m 902 v3) 63) = 48 →
                                                                                                        (((vm_and (m 902 v3) 63) = 49 →
                                                                                                          kuL_law_1637 v3 w4 w6 m Q) ∧ (¬ (vm_and (m 902 v3) 63) = 49 →
                                                                                                          (((vm_and (m 902 v3) 63) = 50 →
                                                                                                            kuL_law_1660 v3 w4 w6 m Q) ∧ (¬ (vm_and (m 902 v3) 63) = 50 →
                                                                                                            kuL_law_1673 v3 w4 w6 m Q))))))))))))))))))))))))))))))))))))))))))))))))))))))))))))))))))))))))))))))))))))))))))))))))))))))))) : kuL_law_18 v3 w4 w6 m Q := by
  show vm_G 301 18 [some (vm_r 902), some (vm_r 0), some (vm_r 96), some (vm_i v3), w4, none, w6, none] [] m (vm_qi Q)
  obtain ⟨o1_0, h⟩ := h
  refine vm_gp [(.iload 3, 0, 0, []), (.aload 0, 0, 0, []), (.arraylength, 0, 0, []), (.iconst 6, 0, 0, []), (.isub, 0, 0, [])] (pc1 := 24) (ls1 := [some (vm_r 902), some (vm_r 0), some (vm_r 96), some (vm_i v3), w4, none, w6, none]) (st1 := [vm_i ((m 903 0) - 6), vm_i v3]) (m1 := m) (ob := ((true && decide ((902 : Nat) = 902)) && decide (vm_32 ((m 903 0) - 6)))) (by decide +kernel) rfl (vm_t (vm_t rfl rfl) o1_0) ?_
  refine vm_gj (c := ((m 903 0) - 6) < v3) (t := 1679) (e := 27) (i := (.if_icmp .gt 0, 1679, 0, [])) (len := 3) (st1 := []) (by decide +kernel) rfl rfl (fun c1 => ?_) (fun c1 => ?_)
  · replace h := h.1 c1
    exact h
  · replace h := h.2 c1
    obtain ⟨o3_0, h⟩ := h
    refine vm_gp [(.aload 0, 0, 0, []), (.iload 3, 0, 0, []), (.iaload, 0, 0, []), (.iconst 63, 0, 0, []), (.iand, 0, 0, [])] (pc1 := 33) (ls1 := [some (vm_r 902), some (vm_r 0), some (vm_r 96), some (vm_i v3), w4, none, w6, none]) (st1 := [vm_i (vm_and (m 902 v3) 63)]) (m1 := m) (ob := ((true && decide ((902 : Nat) = 902)) && decide (0 ≤ v3 ∧ v3 < (m 903 0)))) (by decide +kernel) rfl (vm_t (vm_t rfl rfl) o3_0) ?_
    by_cases c2 : (vm_and (m 902 v3) 63) = 0
    · replace h := h.1 c2
      refine vm_gj1 (i := (.tableswitch 0 0 0 #[], 1673, 0, [(0, 252), (1, 315), (2, 338), (3, 351), (4, 364), (5, 377), (6, 410), (7, 453), (8, 476), (9, 515), (10, 548), (11, 571), (12, 594), (13, 607), (14, 630), (15, 689), (16, 722), (17, 765), (18, 808), (19, 841), (20, 880), (21, 903), (22, 952), (23, 985), (24, 1018), (25, 1031), (26, 1064), (27, 1097), (28, 1130), (29, 1163), (30, 1186), (31, 1229), (32, 1252), (33, 1291), (34, 1324), (35, 1337), (36, 1350), (37, 1363), (38, 1386), (39, 1399), (40, 1412), (41, 1425), (42, 1448), (43, 1461), (44, 1494), (45, 1547), (46, 1588), (47, 1601), (48, 1624), (49, 1637), (50, 1660)])) (len := 219) (t := 252) (st1 := []) (by decide +kernel) rfl (by rw [c2]; rfl) ?_
      exact h
    · replace h := h.2 c2
      by_cases c3 : (vm_and (m 902 v3) 63) = 1
      · replace h := h.1 c3
        refine vm_gj1 (i := (.tableswitch 0 0 0 #[], 1673, 0, [(0, 252), (1, 315), (2, 338), (3, 351), (4, 364), (5, 377), (6, 410), (7, 453), (8, 476), (9, 515), (10, 548), (11, 571), (12, 594), (13, 607), (14, 630), (15, 689), (16, 722), (17, 765), (18, 808), (19, 841), (20, 880), (21, 903), (22, 952), (23, 985), (24, 1018), (25, 1031), (26, 1064), (27, 1097), (28, 1130), (29, 1163), (30, 1186), (31, 1229), (32, 1252), (33, 1291), (34, 1324), (35, 1337), (36, 1350), (37, 1363), (38, 1386), (39, 1399), (40, 1412), (41, 1425), (42, 1448), (43, 1461), (44, 1494), (45, 1547), (46, 1588), (47, 1601), (48, 1624), (49, 1637), (50, 1660)])) (len := 219) (t := 315) (st1 := []) (by decide +kernel) rfl (by rw [c3]; rfl) ?_
        exact h
      · replace h := h.2 c3
        by_cases c4 : (vm_and (m 902 v3) 63) = 2
        · replace h := h.1 c4
          refine vm_gj1 (i := (.tableswitch 0 0 0 #[], 1673, 0, [(0, 252), (1, 315), (2, 338), (3, 351), (4, 364), (5, 377), (6, 410), (7, 453), (8, 476), (9, 515), (10, 548), (11, 571), (12, 594), (13, 607), (14, 630), (15, 689), (16, 722), (17, 765), (18, 808), (19, 841), (20, 880), (21, 903), (22, 952), (23, 985), (24, 1018), (25, 1031), (26, 1064), (27, 1097), (28, 1130), (29, 1163), (30, 1186), (31, 1229), (32, 1252), (33, 1291), (34, 1324), (35, 1337), (36, 1350), (37, 1363), (38, 1386), (39, 1399), (40, 1412), (41, 1425), (42, 1448), (43, 1461), (44, 1494), (45, 1547), (46, 1588), (47, 1601), (48, 1624), (49, 1637), (50, 1660)])) (len := 219) (t := 338) (st1 := []) (by decide +kernel) rfl (by rw [c4]; rfl) ?_
          exact h
        · replace h := h.2 c4
          by_cases c5 : (vm_and (m 902 v3) 63) = 3
          · replace h := h.1 c5
            refine vm_gj1 (i := (.tableswitch 0 0 0 #[], 1673, 0, [(0, 252), (1, 315), (2, 338), (3, 351), (4, 364), (5, 377), (6, 410), (7, 453), (8, 476), (9, 515), (10, 548), (11, 571), (12, 594), (13, 607), (14, 630), (15, 689), (16, 722), (17, 765), (18, 808), (19, 841), (20, 880), (21, 903), (22, 952), (23, 985), (24, 1018), (25, 1031), (26, 1064), (27, 1097), (28, 1130), (29, 1163), (30, 1186), (31, 1229), (32, 1252), (33, 1291), (34, 1324), (35, 1337), (36, 1350), (37, 1363), (38, 1386), (39, 1399), (40, 1412), (41, 1425), (42, 1448), (43, 1461), (44, 1494), (45, 1547), (46, 1588), (47, 1601), (48, 1624), (49, 1637), (50, 1660)])) (len := 219) (t := 351) (st1 := []) (by decide +kernel) rfl (by rw [c5]; rfl) ?_
            exact h
          · replace h := h.2 c5
            by_cases c6 : (vm_and (m 902 v3) 63) = 4
            · replace h := h.1 c6
              refine vm_gj1 (i := (.tableswitch 0 0 0 #[], 1673, 0, [(0, 252), (1, 315), (2, 338), (3, 351), (4, 364), (5, 377), (6, 410), (7, 453), (8, 476), (9, 515), (10, 548), (11, 571), (12, 594), (13, 607), (14, 630), (15, 689), (16, 722), (17, 765), (18, 808), (19, 841), (20, 880), (21, 903), (22, 952), (23, 985), (24, 1018), (25, 1031), (26, 1064), (27, 1097), (28, 1130), (29, 1163), (30, 1186), (31, 1229), (32, 1252), (33, 1291), (34, 1324), (35, 1337), (36, 1350), (37, 1363), (38, 1386), (39, 1399), (40, 1412), (41, 1425), (42, 1448), (43, 1461), (44, 1494), (45, 1547), (46, 1588), (47, 1601), (48, 1624), (49, 1637), (50, 1660)])) (len := 219) (t := 364) (st1 := []) (by decide +kernel) rfl (by rw [c6]; rfl) ?_
              exact h
            · replace h := h.2 c6
              by_cases c7 : (vm_and (m 902 v3) 63) = 5
              · replace h := h.1 c7
                refine vm_gj1 (i := (.tableswitch 0 0 0 #[], 1673, 0, [(0, 252), (1, 315), (2, 338), (3, 351), (4, 364), (5, 377), (6, 410), (7, 453), (8, 476), (9, 515), (10, 548), (11, 571), (12, 594), (13, 607), (14, 630), (15, 689), (16, 722), (17, 765), (18, 808), (19, 841), (20, 880), (21, 903), (22, 952), (23, 985), (24, 1018), (25, 1031), (26, 1064), (27, 1097), (28, 1130), (29, 1163), (30, 1186), (31, 1229), (32, 1252), (33, 1291), (34, 1324), (35, 1337), (36, 1350), (37, 1363), (38, 1386), (39, 1399), (40, 1412), (41, 1425), (42, 1448), (43, 1461), (44, 1494), (45, 1547), (46, 1588), (47, 1601), (48, 1624), (49, 1637), (50, 1660)])) (len := 219) (t := 377) (st1 := []) (by decide +kernel) rfl (by rw [c7]; rfl) ?_
                exact h
              · replace h := h.2 c7
                by_cases c8 : (vm_and (m 902 v3) 63) = 6
                · replace h := h.1 c8
                  refine vm_gj1 (i := (.tableswitch 0 0 0 #[], 1673, 0, [(0, 252), (1, 315), (2, 338), (3, 351), (4, 364), (5, 377), (6, 410), (7, 453), (8, 476), (9, 515), (10, 548), (11, 571), (12, 594), (13, 607), (14, 630), (15, 689), (16, 722), (17, 765), (18, 808), (19, 841), (20, 880), (21, 903), (22, 952), (23, 985), (24, 1018), (25, 1031), (26, 1064), (27, 1097), (28, 1130), (29, 1163), (30, 1186), (31, 1229), (32, 1252), (33, 1291), (34, 1324), (35, 1337), (36, 1350), (37, 1363), (38, 1386), (39, 1399), (40, 1412), (41, 1425), (42, 1448), (43, 1461), (44, 1494), (45, 1547), (46, 1588), (47, 1601), (48, 1624), (49, 1637), (50, 1660)])) (len := 219) (t := 410) (st1 := []) (by decide +kernel) rfl (by rw [c8]; rfl) ?_
                  exact h
                · replace h := h.2 c8
                  by_cases c9 : (vm_and (m 902 v3) 63) = 7
                  · replace h := h.1 c9
                    refine vm_gj1 (i := (.tableswitch 0 0 0 #[], 1673, 0, [(0, 252), (1, 315), (2, 338), (3, 351), (4, 364), (5, 377), (6, 410), (7, 453), (8, 476), (9, 515), (10, 548), (11, 571), (12, 594), (13, 607), (14, 630), (15, 689), (16, 722), (17, 765), (18, 808), (19, 841), (20, 880), (21, 903), (22, 952), (23, 985), (24, 1018), (25, 1031), (26, 1064), (27, 1097), (28, 1130), (29, 1163), (30, 1186), (31, 1229), (32, 1252), (33, 1291), (34, 1324), (35, 1337), (36, 1350), (37, 1363), (38, 1386), (39, 1399), (40, 1412), (41, 1425), (42, 1448), (43, 1461), (44, 1494), (45, 1547), (46, 1588), (47, 1601), (48, 1624), (49, 1637), (50, 1660)])) (len := 219) (t := 453) (st1 := []) (by decide +kernel) rfl (by rw [c9]; rfl) ?_
                    exact h
                  · replace h := h.2 c9
                    by_cases c10 : (vm_and (m 902 v3) 63) = 8
                    · replace h := h.1 c10
                      refine vm_gj1 (i := (.tableswitch 0 0 0 #[], 1673, 0, [(0, 252), (1, 315), (2, 338), (3, 351), (4, 364), (5, 377), (6, 410), (7, 453), (8, 476), (9, 515), (10, 548), (11, 571), (12, 594), (13, 607), (14, 630), (15, 689), (16, 722), (17, 765), (18, 808), (19, 841), (20, 880), (21, 903), (22, 952), (23, 985), (24, 1018), (25, 1031), (26, 1064), (27, 1097), (28, 1130), (29, 1163), (30, 1186), (31, 1229), (32, 1252), (33, 1291), (34, 1324), (35, 1337), (36, 1350), (37, 1363), (38, 1386), (39, 1399), (40, 1412), (41, 1425), (42, 1448), (43, 1461), (44, 1494), (45, 1547), (46, 1588), (47, 1601), (48, 1624), (49, 1637), (50, 1660)])) (len := 219) (t := 476) (st1 := []) (by decide +kernel) rfl (by rw [c10]; rfl) ?_
                      exact h
                    · replace h := h.2 c10
                      by_cases c11 : (vm_and (m 902 v3) 63) = 9
                      · replace h := h.1 c11
                        refine vm_gj1 (i := (.tableswitch 0 0 0 #[], 1673, 0, [(0, 252), (1, 315), (2, 338), (3, 351), (4, 364), (5, 377), (6, 410), (7, 453), (8, 476), (9, 515), (10, 548), (11, 571), (12, 594), (13, 607), (14, 630), (15, 689), (16, 722), (17, 765), (18, 808), (19, 841), (20, 880), (21, 903), (22, 952), (23, 985), (24, 1018), (25, 1031), (26, 1064), (27, 1097), (28, 1130), (29, 1163), (30, 1186), (31, 1229), (32, 1252), (33, 1291), (34, 1324), (35, 1337), (36, 1350), (37, 1363), (38, 1386), (39, 1399), (40, 1412), (41, 1425), (42, 1448), (43, 1461), (44, 1494), (45, 1547), (46, 1588), (47, 1601), (48, 1624), (49, 1637), (50, 1660)])) (len := 219) (t := 515) (st1 := []) (by decide +kernel) rfl (by rw [c11]; rfl) ?_
                        exact h
                      · replace h := h.2 c11
                        by_cases c12 : (vm_and (m 902 v3) 63) = 10
                        · replace h := h.1 c12
                          refine vm_gj1 (i := (.tableswitch 0 0 0 #[], 1673, 0, [(0, 252), (1, 315), (2, 338), (3, 351), (4, 364), (5, 377), (6, 410), (7, 453), (8, 476), (9, 515), (10, 548), (11, 571), (12, 594), (13, 607), (14, 630), (15, 689), (16, 722), (17, 765), (18, 808), (19, 841), (20, 880), (21, 903), (22, 952), (23, 985), (24, 1018), (25, 1031), (26, 1064), (27, 1097), (28, 1130), (29, 1163), (30, 1186), (31, 1229), (32, 1252), (33, 1291), (34, 1324), (35, 1337), (36, 1350), (37, 1363), (38, 1386), (39, 1399), (40, 1412), (41, 1425), (42, 1448), (43, 1461), (44, 1494), (45, 1547), (46, 1588), (47, 1601), (48, 1624), (49, 1637), (50, 1660)])) (len := 219) (t := 548) (st1 := []) (by decide +kernel) rfl (by rw [c12]; rfl) ?_
                          exact h
                        · replace h := h.2 c12
                          by_cases c13 : (vm_and (m 902 v3) 63) = 11
                          · replace h := h.1 c13
                            refine vm_gj1 (i := (.tableswitch 0 0 0 #[], 1673, 0, [(0, 252), (1, 315), (2, 338), (3, 351), (4, 364), (5, 377), (6, 410), (7, 453), (8, 476), (9, 515), (10, 548), (11, 571), (12, 594), (13, 607), (14, 630), (15, 689), (16, 722), (17, 765), (18, 808), (19, 841), (20, 880), (21, 903), (22, 952), (23, 985), (24, 1018), (25, 1031), (26, 1064), (27, 1097), (28, 1130), (29, 1163), (30, 1186), (31, 1229), (32, 1252), (33, 1291), (34, 1324), (35, 1337), (36, 1350), (37, 1363), (38, 1386), (39, 1399), (40, 1412), (41, 1425), (42, 1448), (43, 1461), (44, 1494), (45, 1547), (46, 1588), (47, 1601), (48, 1624), (49, 1637), (50, 1660)])) (len := 219) (t := 571) (st1 := []) (by decide +kernel) rfl (by rw [c13]; rfl) ?_
                            exact h
                          · replace h := h.2 c13
                            by_cases c14 : (vm_and (m 902 v3) 63) = 12
                            · replace h := h.1 c14
                              refine vm_gj1 (i := (.tableswitch 0 0 0 #[], 1673, 0, [(0, 252), (1, 315), (2, 338), (3, 351), (4, 364), (5, 377), (6, 410), (7, 453), (8, 476), (9, 515), (10, 548), (11, 571), (12, 594), (13, 607), (14, 630), (15, 689), (16, 722), (17, 765), (18, 808), (19, 841), (20, 880), (21, 903), (22, 952), (23, 985), (24, 1018), (25, 1031), (26, 1064), (27, 1097), (28, 1130), (29, 1163), (30, 1186), (31, 1229), (32, 1252), (33, 1291), (34, 1324), (35, 1337), (36, 1350), (37, 1363), (38, 1386), (39, 1399), (40, 1412), (41, 1425), (42, 1448), (43, 1461), (44, 1494), (45, 1547), (46, 1588), (47, 1601), (48, 1624), (49, 1637), (50, 1660)])) (len := 219) (t := 594) (st1 := []) (by decide +kernel) rfl (by rw [c14]; rfl) ?_
                              exact h
                            · replace h := h.2 c14
                              by_cases c15 : (vm_and (m 902 v3) 63) = 13
                              · replace h := h.1 c15
                                refine vm_gj1 (i := (.tableswitch 0 0 0 #[], 1673, 0, [(0, 252), (1, 315), (2, 338), (3, 351), (4, 364), (5, 377), (6, 410), (7, 453), (8, 476), (9, 515), (10, 548), (11, 571), (12, 594), (13, 607), (14, 630), (15, 689), (16, 722), (17, 765), (18, 808), (19, 841), (20, 880), (21, 903), (22, 952), (23, 985), (24, 1018), (25, 1031), (26, 1064), (27, 1097), (28, 1130), (29, 1163), (30, 1186), (31, 1229), (32, 1252), (33, 1291), (34, 1324), (35, 1337), (36, 1350), (37, 1363), (38, 1386), (39, 1399), (40, 1412), (41, 1425), (42, 1448), (43, 1461), (44, 1494), (45, 1547), (46, 1588), (47, 1601), (48, 1624), (49, 1637), (50, 1660)])) (len := 219) (t := 607) (st1 := []) (by decide +kernel) rfl (by rw [c15]; rfl) ?_
                                exact h
                              · replace h := h.2 c15
                                by_cases c16 : (vm_and (m 902 v3) 63) = 14
                                · replace h := h.1 c16
                                  refine vm_gj1 (i := (.tableswitch 0 0 0 #[], 1673, 0, [(0, 252), (1, 315), (2, 338), (3, 351), (4, 364), (5, 377), (6, 410), (7, 453), (8, 476), (9, 515), (10, 548), (11, 571), (12, 594), (13, 607), (14, 630), (15, 689), (16, 722), (17, 765), (18, 808), (19, 841), (20, 880), (21, 903), (22, 952), (23, 985), (24, 1018), (25, 1031), (26, 1064), (27, 1097), (28, 1130), (29, 1163), (30, 1186), (31, 1229), (32, 1252), (33, 1291), (34, 1324), (35, 1337), (36, 1350), (37, 1363), (38, 1386), (39, 1399), (40, 1412), (41, 1425), (42, 1448), (43, 1461), (44, 1494), (45, 1547), (46, 1588), (47, 1601), (48, 1624), (49, 1637), (50, 1660)])) (len := 219) (t := 630) (st1 := []) (by decide +kernel) rfl (by rw [c16]; rfl) ?_
                                  exact h
                                · replace h := h.2 c16
                                  by_cases c17 : (vm_and (m 902 v3) 63) = 15
                                  · replace h := h.1 c17
                                    refine vm_gj1 (i := (.tableswitch 0 0 0 #[], 1673, 0, [(0, 252), (1, 315), (2, 338), (3, 351), (4, 364), (5, 377), (6, 410), (7, 453), (8, 476), (9, 515), (10, 548), (11, 571), (12, 594), (13, 607), (14, 630), (15, 689), (16, 722), (17, 765), (18, 808), (19, 841), (20, 880), (21, 903), (22, 952), (23, 985), (24, 1018), (25, 1031), (26, 1064), (27, 1097), (28, 1130), (29, 1163), (30, 1186), (31, 1229), (32, 1252), (33, 1291), (34, 1324), (35, 1337), (36, 1350), (37, 1363), (38, 1386), (39, 1399), (40, 1412), (41, 1425), (42, 1448), (43, 1461), (44, 1494), (45, 1547), (46, 1588), (47, 1601), (48, 1624), (49, 1637), (50, 1660)])) (len := 219) (t := 689) (st1 := []) (by decide +kernel) rfl (by rw [c17]; rfl) ?_
                                    exact h
                                  · replace h := h.2 c17
                                    by_cases c18 : (vm_and (m 902 v3) 63) = 16
                                    · replace h := h.1 c18
                                      refine vm_gj1 (i := (.tableswitch 0 0 0 #[], 1673, 0, [(0, 252), (1, 315), (2, 338), (3, 351), (4, 364), (5, 377), (6, 410), (7, 453), (8, 476), (9, 515), (10, 548), (11, 571), (12, 594), (13, 607), (14, 630), (15, 689), (16, 722), (17, 765), (18, 808), (19, 841), (20, 880), (21, 903), (22, 952), (23, 985), (24, 1018), (25, 1031), (26, 1064), (27, 1097), (28, 1130), (29, 1163), (30, 1186), (31, 1229), (32, 1252), (33, 1291), (34, 1324), (35, 1337), (36, 1350), (37, 1363), (38, 1386), (39, 1399), (40, 1412), (41, 1425), (42, 1448), (43, 1461), (44, 1494), (45, 1547), (46, 1588), (47, 1601), (48, 1624), (49, 1637), (50, 1660)])) (len := 219) (t := 722) (st1 := []) (by decide +kernel) rfl (by rw [c18]; rfl) ?_
                                      exact h
                                    · replace h := h.2 c18
                                      by_cases c19 : (vm_and (m 902 v3) 63) = 17
                                      · replace h := h.1 c19
                                        refine vm_gj1 (i := (.tableswitch 0 0 0 #[], 1673, 0, [(0, 252), (1, 315), (2, 338), (3, 351), (4, 364), (5, 377), (6, 410), (7, 453), (8, 476), (9, 515), (10, 548), (11, 571), (12, 594), (13, 607), (14, 630), (15, 689), (16, 722), (17, 765), (18, 808), (19, 841), (20, 880), (21, 903), (22, 952), (23, 985), (24, 1018), (25, 1031), (26, 1064), (27, 1097), (28, 1130), (29, 1163), (30, 1186), (31, 1229), (32, 1252), (33, 1291), (34, 1324), (35, 1337), (36, 1350), (37, 1363), (38, 1386), (39, 1399), (40, 1412), (41, 1425), (42, 1448), (43, 1461), (44, 1494), (45, 1547), (46, 1588), (47, 1601), (48, 1624), (49, 1637), (50, 1660)])) (len := 219) (t := 765) (st1 := []) (by decide +kernel) rfl (by rw [c19]; rfl) ?_
                                        exact h
                                      · replace h := h.2 c19
                                        by_cases c20 : (vm_and (m 902 v3) 63) = 18
                                        · replace h := h.1 c20
                                          refine vm_gj1 (i := (.tableswitch 0 0 0 #[], 1673, 0, [(0, 252), (1, 315), (2, 338), (3, 351), (4, 364), (5, 377), (6, 410), (7, 453), (8, 476), (9, 515), (10, 548), (11, 571), (12, 594), (13, 607), (14, 630), (15, 689), (16, 722), (17, 765), (18, 808), (19, 841), (20, 880), (21, 903), (22, 952), (23, 985), (24, 1018), (25, 1031), (26, 1064), (27, 1097), (28, 1130), (29, 1163), (30, 1186), (31, 1229), (32, 1252), (33, 1291), (34, 1324), (35, 1337), (36, 1350), (37, 1363), (38, 1386), (39, 1399), (40, 1412), (41, 1425), (42, 1448), (43, 1461), (44, 1494), (45, 1547), (46, 1588), (47, 1601), (48, 1624), (49, 1637), (50, 1660)])) (len := 219) (t := 808) (st1 := []) (by decide +kernel) rfl (by rw [c20]; rfl) ?_
                                          exact h
                                        · replace h := h.2 c20
                                          by_cases c21 : (vm_and (m 902 v3) 63) = 19
                                          · replace h := h.1 c21
                                            refine vm_gj1 (i := (.tableswitch 0 0 0 #[], 1673, 0, [(0, 252), (1, 315), (2, 338), (3, 351), (4, 364), (5, 377), (6, 410), (7, 453), (8, 476), (9, 515), (10, 548), (11, 571), (12, 594), (13, 607), (14, 630), (15, 689), (16, 722), (17, 765), (18, 808), (19, 841), (20, 880), (21, 903), (22, 952), (23, 985), (24, 1018), (25, 1031), (26, 1064), (27, 1097), (28, 1130), (29, 1163), (30, 1186), (31, 1229), (32, 1252), (33, 1291), (34, 1324), (35, 1337), (36, 1350), (37, 1363), (38, 1386), (39, 1399), (40, 1412), (41, 1425), (42, 1448), (43, 1461), (44, 1494), (45, 1547), (46, 1588), (47, 1601), (48, 1624), (49, 1637), (50, 1660)])) (len := 219) (t := 841) (st1 := []) (by decide +kernel) rfl (by rw [c21]; rfl) ?_
                                            exact h
                                          · replace h := h.2 c21
                                            by_cases c22 : (vm_and (m 902 v3) 63) = 20
                                            · replace h := h.1 c22
                                              refine vm_gj1 (i := (.tableswitch 0 0 0 #[], 1673, 0, [(0, 252), (1, 315), (2, 338), (3, 351), (4, 364), (5, 377), (6, 410), (7, 453), (8, 476), (9, 515), (10, 548), (11, 571), (12, 594), (13, 607), (14, 630), (15, 689), (16, 722), (17, 765), (18, 808), (19, 841), (20, 880), (21, 903), (22, 952), (23, 985), (24, 1018), (25, 1031), (26, 1064), (27, 1097), (28, 1130), (29, 1163), (30, 1186), (31, 1229), (32, 1252), (33, 1291), (34, 1324), (35, 1337), (36, 1350), (37, 1363), (38, 1386), (39, 1399), (40, 1412), (41, 1425), (42, 1448), (43, 1461), (44, 1494), (45, 1547), (46, 1588), (47, 1601), (48, 1624), (49, 1637), (50, 1660)])) (len := 219) (t := 880) (st1 := []) (by decide +kernel) rfl (by rw [c22]; rfl) ?_
                                              exact h
                                            · replace h := h.2 c22
                                              by_cases c23 : (vm_and (m 902 v3) 63) = 21
                                              · replace h := h.1 c23
                                                refine vm_gj1 (i := (.tableswitch 0 0 0 #[], 1673, 0, [(0, 252), (1, 315), (2, 338), (3, 351), (4, 364), (5, 377), (6, 410), (7, 453), (8, 476), (9, 515), (10, 548), (11, 571), (12, 594), (13, 607), (14, 630), (15, 689), (16, 722), (17, 765), (18, 808), (19, 841), (20, 880), (21, 903), (22, 952), (23, 985), (24, 1018), (25, 1031), (26, 1064), (27, 1097), (28, 1130), (29, 1163), (30, 1186), (31, 1229), (32, 1252), (33, 1291), (34, 1324), (35, 1337), (36, 1350), (37, 1363), (38, 1386), (39, 1399), (40, 1412), (41, 1425), (42, 1448), (43, 1461), (44, 1494), (45, 1547), (46, 1588), (47, 1601), (48, 1624), (49, 1637), (50, 1660)])) (len := 219) (t := 903) (st1 := []) (by decide +kernel) rfl (by rw [c23]; rfl) ?_
                                                exact h
                                              · replace h := h.2 c23
                                                by_cases c24 : (vm_and (m 902 v3) 63) = 22
                                                · replace h := h.1 c24
                                                  refine vm_gj1 (i := (.tableswitch 0 0 0 #[], 1673, 0, [(0, 252), (1, 315), (2, 338), (3, 351), (4, 364), (5, 377), (6, 410), (7, 453), (8, 476), (9, 515), (10, 548), (11, 571), (12, 594), (13, 607), (14, 630), (15, 689), (16, 722), (17, 765), (18, 808), (19, 841), (20, 880), (21, 903), (22, 952), (23, 985), (24, 1018), (25, 1031), (26, 1064), (27, 1097), (28, 1130), (29, 1163), (30, 1186), (31, 1229), (32, 1252), (33, 1291), (34, 1324), (35, 1337), (36, 1350), (37, 1363), (38, 1386), (39, 1399), (40, 1412), (41, 1425), (42, 1448), (43, 1461), (44, 1494), (45, 1547), (46, 1588), (47, 1601), (48, 1624), (49, 1637), (50, 1660)])) (len := 219) (t := 952) (st1 := []) (by decide +kernel) rfl (by rw [c24]; rfl) ?_
                                                  exact h
                                                · replace h := h.2 c24
                                                  by_cases c25 : (vm_and (m 902 v3) 63) = 23
                                                  · replace h := h.1 c25
                                                    refine vm_gj1 (i := (.tableswitch 0 0 0 #[], 1673, 0, [(0, 252), (1, 315), (2, 338), (3, 351), (4, 364), (5, 377), (6, 410), (7, 453), (8, 476), (9, 515), (10, 548), (11, 571), (12, 594), (13, 607), (14, 630), (15, 689), (16, 722), (17, 765), (18, 808), (19, 841), (20, 880), (21, 903), (22, 952), (23, 985), (24, 1018), (25, 1031), (26, 1064), (27, 1097), (28, 1130), (29, 1163), (30, 1186), (31, 1229), (32, 1252), (33, 1291), (34, 1324), (35, 1337), (36, 1350), (37, 1363), (38, 1386), (39, 1399), (40, 1412), (41, 1425), (42, 1448), (43, 1461), (44, 1494), (45, 1547), (46, 1588), (47, 1601), (48, 1624), (49, 1637), (50, 1660)])) (len := 219) (t := 985) (st1 := []) (by decide +kernel) rfl (by rw [c25]; rfl) ?_
                                                    exact h
                                                  · replace h := h.2 c25
                                                    by_cases c26 : (vm_and (m 902 v3) 63) = 24
                                                    · replace h := h.1 c26
                                                      refine vm_gj1 (i := (.tableswitch 0 0 0 #[], 1673, 0, [(0, 252), (1, 315), (2, 338), (3, 351), (4, 364), (5, 377), (6, 410), (7, 453), (8, 476), (9, 515), (10, 548), (11, 571), (12, 594), (13, 607), (14, 630), (15, 689), (16, 722), (17, 765), (18, 808), (19, 841), (20, 880), (21, 903), (22, 952), (23, 985), (24, 1018), (25, 1031), (26, 1064), (27, 1097), (28, 1130), (29, 1163), (30, 1186), (31, 1229), (32, 1252), (33, 1291), (34, 1324), (35, 1337), (36, 1350), (37, 1363), (38, 1386), (39, 1399), (40, 1412), (41, 1425), (42, 1448), (43, 1461), (44, 1494), (45, 1547), (46, 1588), (47, 1601), (48, 1624), (49, 1637), (50, 1660)])) (len := 219) (t := 1018) (st1 := []) (by decide +kernel) rfl (by rw [c26]; rfl) ?_
                                                      exact h
                                                    · replace h := h.2 c26
                                                      by_cases c27 : (vm_and (m 902 v3) 63) = 25
                                                      · replace h := h.1 c27
                                                        refine vm_gj1 (i := (.tableswitch 0 0 0 #[], 1673, 0, [(0, 252), (1, 315), (2, 338), (3, 351), (4, 364), (5, 377), (6, 410), (7, 453), (8, 476), (9, 515), (10, 548), (11, 571), (12, 594), (13, 607), (14, 630), (15, 689), (16, 722), (17, 765), (18, 808), (19, 841), (20, 880), (21, 903), (22, 952), (23, 985), (24, 1018), (25, 1031), (26, 1064), (27, 1097), (28, 1130), (29, 1163), (30, 1186), (31, 1229), (32, 1252), (33, 1291), (34, 1324), (35, 1337), (36, 1350), (37, 1363), (38, 1386), (39, 1399), (40, 1412), (41, 1425), (42, 1448), (43, 1461), (44, 1494), (45, 1547), (46, 1588), (47, 1601), (48, 1624), (49, 1637), (50, 1660)])) (len := 219) (t := 1031) (st1 := []) (by decide +kernel) rfl (by rw [c27]; rfl) ?_
                                                        exact h
                                                      · replace h := h.2 c27
                                                        by_cases c28 : (vm_and (m 902 v3) 63) = 26
                                                        · replace h := h.1 c28
                                                          refine vm_gj1 (i := (.tableswitch 0 0 0 #[], 1673, 0, [(0, 252), (1, 315), (2, 338), (3, 351), (4, 364), (5, 377), (6, 410), (7, 453), (8, 476), (9, 515), (10, 548), (11, 571), (12, 594), (13, 607), (14, 630), (15, 689), (16, 722), (17, 765), (18, 808), (19, 841), (20, 880), (21, 903), (22, 952), (23, 985), (24, 1018), (25, 1031), (26, 1064), (27, 1097), (28, 1130), (29, 1163), (30, 1186), (31, 1229), (32, 1252), (33, 1291), (34, 1324), (35, 1337), (36, 1350), (37, 1363), (38, 1386), (39, 1399), (40, 1412), (41, 1425), (42, 1448), (43, 1461), (44, 1494), (45, 1547), (46, 1588), (47, 1601), (48, 1624), (49, 1637), (50, 1660)])) (len := 219) (t := 1064) (st1 := []) (by decide +kernel) rfl (by rw [c28]; rfl) ?_
                                                          exact h
                                                        · replace h := h.2 c28
                                                          by_cases c29 : (vm_and (m 902 v3) 63) = 27
                                                          · replace h := h.1 c29
                                                            refine vm_gj1 (i := (.tableswitch 0 0 0 #[], 1673, 0, [(0, 252), (1, 315), (2, 338), (3, 351), (4, 364), (5, 377), (6, 410), (7, 453), (8, 476), (9, 515), (10, 548), (11, 571), (12, 594), (13, 607), (14, 630), (15, 689), (16, 722), (17, 765), (18, 808), (19, 841), (20, 880), (21, 903), (22, 952), (23, 985), (24, 1018), (25, 1031), (26, 1064), (27, 1097), (28, 1130), (29, 1163), (30, 1186), (31, 1229), (32, 1252), (33, 1291), (34, 1324), (35, 1337), (36, 1350), (37, 1363), (38, 1386), (39, 1399), (40, 1412), (41, 1425), (42, 1448), (43, 1461), (44, 1494), (45, 1547), (46, 1588), (47, 1601), (48, 1624), (49, 1637), (50, 1660)])) (len := 219) (t := 1097) (st1 := []) (by decide +kernel) rfl (by rw [c29]; rfl) ?_
                                                            exact h
                                                          · replace h := h.2 c29
                                                            by_cases c30 : (vm_and (m 902 v3) 63) = 28
                                                            · replace h := h.1 c30
                                                              refine vm_gj1 (i := (.tableswitch 0 0 0 #[], 1673, 0, [(0, 252), (1, 315), (2, 338), (3, 351), (4, 364), (5, 377), (6, 410), (7, 453), (8, 476), (9, 515), (10, 548), (11, 571), (12, 594), (13, 607), (14, 630), (15, 689), (16, 722), (17, 765), (18, 808), (19, 841), (20, 880), (21, 903), (22, 952), (23, 985), (24, 1018), (25, 1031), (26, 1064), (27, 1097), (28, 1130), (29, 1163), (30, 1186), (31, 1229), (32, 1252), (33, 1291), (34, 1324), (35, 1337), (36, 1350), (37, 1363), (38, 1386), (39, 1399), (40, 1412), (41, 1425), (42, 1448), (43, 1461), (44, 1494), (45, 1547), (46, 1588), (47, 1601), (48, 1624), (49, 1637), (50, 1660)])) (len := 219) (t := 1130) (st1 := []) (by decide +kernel) rfl (by rw [c30]; rfl) ?_
                                                              exact h
                                                            · replace h := h.2 c30
                                                              by_cases c31 : (vm_and (m 902 v3) 63) = 29
                                                              · replace h := h.1 c31
                                                                refine vm_gj1 (i := (.tableswitch 0 0 0 #[], 1673, 0, [(0, 252), (1, 315), (2, 338), (3, 351), (4, 364), (5, 377), (6, 410), (7, 453), (8, 476), (9, 515), (10, 548), (11, 571), (12, 594), (13, 607), (14, 630), (15, 689), (16, 722), (17, 765), (18, 808), (19, 841), (20, 880), (21, 903), (22, 952), (23, 985), (24, 1018), (25, 1031), (26, 1064), (27, 1097), (28, 1130), (29, 1163), (30, 1186), (31, 1229), (32, 1252), (33, 1291), (34, 1324), (35, 1337), (36, 1350), (37, 1363), (38, 1386), (39, 1399), (40, 1412), (41, 1425), (42, 1448), (43, 1461), (44, 1494), (45, 1547), (46, 1588), (47, 1601), (48, 1624), (49, 1637), (50, 1660)])) (len := 219) (t := 1163) (st1 := []) (by decide +kernel) rfl (by rw [c31]; rfl) ?_
                                                                exact h
                                                              · replace h := h.2 c31
                                                                by_cases c32 : (vm_and (m 902 v3) 63) = 30
                                                                · replace h := h.1 c32
                                                                  refine vm_gj1 (i := (.tableswitch 0 0 0 #[], 1673, 0, [(0, 252), (1, 315), (2, 338), (3, 351), (4, 364), (5, 377), (6, 410), (7, 453), (8, 476), (9, 515), (10, 548), (11, 571), (12, 594), (13, 607), (14, 630), (15, 689), (16, 722), (17, 765), (18, 808), (19, 841), (20, 880), (21, 903), (22, 952), (23, 985), (24, 1018), (25, 1031), (26, 1064), (27, 1097), (28, 1130), (29, 1163), (30, 1186), (31, 1229), (32, 1252), (33, 1291), (34, 1324), (35, 1337), (36, 1350), (37, 1363), (38, 1386), (39, 1399), (40, 1412), (41, 1425), (42, 1448), (43, 1461), (44, 1494), (45, 1547), (46, 1588), (47, 1601), (48, 1624), (49, 1637), (50, 1660)])) (len := 219) (t := 1186) (st1 := []) (by decide +kernel) rfl (by rw [c32]; rfl) ?_
                                                                  exact h
                                                                · replace h := h.2 c32
                                                                  by_cases c33 : (vm_and (m 902 v3) 63) = 31
                                                                  · replace h := h.1 c33
                                                                    refine vm_gj1 (i := (.tableswitch 0 0 0 #[], 1673, 0, [(0, 252), (1, 315), (2, 338), (3, 351), (4, 364), (5, 377), (6, 410), (7, 453), (8, 476), (9, 515), (10, 548), (11, 571), (12, 594), (13, 607), (14, 630), (15, 689), (16, 722), (17, 765), (18, 808), (19, 841), (20, 880), (21, 903), (22, 952), (23, 985), (24, 1018), (25, 1031), (26, 1064), (27, 1097), (28, 1130), (29, 1163), (30, 1186), (31, 1229), (32, 1252), (33, 1291), (34, 1324), (35, 1337), (36, 1350), (37, 1363), (38, 1386), (39, 1399), (40, 1412), (41, 1425), (42, 1448), (43, 1461), (44, 1494), (45, 1547), (46, 1588), (47, 1601), (48, 1624), (49, 1637), (50, 1660)])) (len := 219) (t := 1229) (st1 := []) (by decide +kernel) rfl (by rw [c33]; rfl) ?_
                                                                    exact h
                                                                  · replace h := h.2 c33
                                                                    by_cases c34 : (vm_and (m 902 v3) 63) = 32
                                                                    · replace h := h.1 c34
                                                                      refine vm_gj1 (i := (.tableswitch 0 0 0 #[], 1673, 0, [(0, 252), (1, 315), (2, 338), (3, 351), (4, 364), (5, 377), (6, 410), (7, 453), (8, 476), (9, 515), (10, 548), (11, 571), (12, 594), (13, 607), (14, 630), (15, 689), (16, 722), (17, 765), (18, 808), (19, 841), (20, 880), (21, 903), (22, 952), (23, 985), (24, 1018), (25, 1031), (26, 1064), (27, 1097), (28, 1130), (29, 1163), (30, 1186), (31, 1229), (32, 1252), (33, 1291), (34, 1324), (35, 1337), (36, 1350), (37, 1363), (38, 1386), (39, 1399), (40, 1412), (41, 1425), (42, 1448), (43, 1461), (44, 1494), (45, 1547), (46, 1588), (47, 1601), (48, 1624), (49, 1637), (50, 1660)])) (len := 219) (t := 1252) (st1 := []) (by decide +kernel) rfl (by rw [c34]; rfl) ?_
                                                                      exact h
                                                                    · replace h := h.2 c34
                                                                      by_cases c35 : (vm_and (m 902 v3) 63) = 33
                                                                      · replace h := h.1 c35
                                                                        refine vm_gj1 (i := (.tableswitch 0 0 0 #[], 1673, 0, [(0, 252), (1, 315), (2, 338), (3, 351), (4, 364), (5, 377), (6, 410), (7, 453), (8, 476), (9, 515), (10, 548), (11, 571), (12, 594), (13, 607), (14, 630), (15, 689), (16, 722), (17, 765), (18, 808), (19, 841), (20, 880), (21, 903), (22, 952), (23, 985), (24, 1018), (25, 1031), (26, 1064), (27, 1097), (28, 1130), (29, 1163), (30, 1186), (31, 1229), (32, 1252), (33, 1291), (34, 1324), (35, 1337), (36, 1350), (37, 1363), (38, 1386), (39, 1399), (40, 1412), (41, 1425), (42, 1448), (43, 1461), (44, 1494), (45, 1547), (46, 1588), (47, 1601), (48, 1624), (49, 1637), (50, 1660)])) (len := 219) (t := 1291) (st1 := []) (by decide +kernel) rfl (by rw [c35]; rfl) ?_
                                                                        exact h
                                                                      · replace h := h.2 c35
                                                                        by_cases c36 : (vm_and (m 902 v3) 63) = 34
                                                                        · replace h := h.1 c36
                                                                          refine vm_gj1 (i := (.tableswitch 0 0 0 #[], 1673, 0, [(0, 252), (1, 315), (2, 338), (3, 351), (4, 364), (5, 377), (6, 410), (7, 453), (8, 476), (9, 515), (10, 548), (11, 571), (12, 594), (13, 607), (14, 630), (15, 689), (16, 722), (17, 765), (18, 808), (19, 841), (20, 880), (21, 903), (22, 952), (23, 985), (24, 1018), (25, 1031), (26, 1064), (27, 1097), (28, 1130), (29, 1163), (30, 1186), (31, 1229), (32, 1252), (33, 1291), (34, 1324), (35, 1337), (36, 1350), (37, 1363), (38, 1386), (39, 1399), (40, 1412), (41, 1425), (42, 1448), (43, 1461), (44, 1494), (45, 1547), (46, 1588), (47, 1601), (48, 1624), (49, 1637), (50, 1660)])) (len := 219) (t := 1324) (st1 := []) (by decide +kernel) rfl (by rw [c36]; rfl) ?_
                                                                          exact h
                                                                        · replace h := h.2 c36
                                                                          by_cases c37 : (vm_and (m 902 v3) 63) = 35
                                                                          · replace h := h.1 c37
                                                                            refine vm_gj1 (i := (.tableswitch 0 0 0 #[], 1673, 0, [(0, 252), (1, 315), (2, 338), (3, 351), (4, 364), (5, 377), (6, 410), (7, 453), (8, 476), (9, 515), (10, 548), (11, 571), (12, 594), (13, 607), (14, 630), (15, 689), (16, 722), (17, 765), (18, 808), (19, 841), (20, 880), (21, 903), (22, 952), (23, 985), (24, 1018), (25, 1031), (26, 1064), (27, 1097), (28, 1130), (29, 1163), (30, 1186), (31, 1229), (32, 1252), (33, 1291), (34, 1324), (35, 1337), (36, 1350), (37, 1363), (38, 1386), (39, 1399), (40, 1412), (41, 1425), (42, 1448), (43, 1461), (44, 1494), (45, 1547), (46, 1588), (47, 1601), (48, 1624), (49, 1637), (50, 1660)])) (len := 219) (t := 1337) (st1 := []) (by decide +kernel) rfl (by rw [c37]; rfl) ?_
                                                                            exact h
                                                                          · replace h := h.2 c37
                                                                            by_cases c38 : (vm_and (m 902 v3) 63) = 36
                                                                            · replace h := h.1 c38
                                                                              refine vm_gj1 (i := (.tableswitch 0 0 0 #[], 1673, 0, [(0, 252), (1, 315), (2, 338), (3, 351), (4, 364), (5, 377), (6, 410), (7, 453), (8, 476), (9, 515), (10, 548), (11, 571), (12, 594), (13, 607), (14, 630), (15, 689), (16, 722), (17, 765), (18, 808), (19, 841), (20, 880), (21, 903), (22, 952), (23, 985), (24, 1018), (25, 1031), (26, 1064), (27, 1097), (28, 1130), (29, 1163), (30, 1186), (31, 1229), (32, 1252), (33, 1291), (34, 1324), (35, 1337), (36, 1350), (37, 1363), (38, 1386), (39, 1399), (40, 1412), (41, 1425), (42, 1448), (43, 1461), (44, 1494), (45, 1547), (46, 1588), (47, 1601), (48, 1624), (49, 1637), (50, 1660)])) (len := 219) (t := 1350) (st1 := []) (by decide +kernel) rfl (by rw [c38]; rfl) ?_
                                                                              exact h
                                                                            · replace h := h.2 c38
                                                                              by_cases c39 : (vm_and (m 902 v3) 63) = 37
                                                                              · replace h := h.1 c39
                                                                                refine vm_gj1 (i := (.tableswitch 0 0 0 #[], 1673, 0, [(0, 252), (1, 315), (2, 338), (3, 351), (4, 364), (5, 377), (6, 410), (7, 453), (8, 476), (9, 515), (10, 548), (11, 571), (12, 594), (13, 607), (14, 630), (15, 689), (16, 722), (17, 765), (18, 808), (19, 841), (20, 880), (21, 903), (22, 952), (23, 985), (24, 1018), (25, 1031), (26, 1064), (27, 1097), (28, 1130), (29, 1163), (30, 1186), (31, 1229), (32, 1252), (33, 1291), (34, 1324), (35, 1337), (36, 1350), (37, 1363), (38, 1386), (39, 1399), (40, 1412), (41, 1425), (42, 1448), (43, 1461), (44, 1494), (45, 1547), (46, 1588), (47, 1601), (48, 1624), (49, 1637), (50, 1660)])) (len := 219) (t := 1363) (st1 := []) (by decide +kernel) rfl (by rw [c39]; rfl) ?_
                                                                                exact h
                                                                              · replace h := h.2 c39
                                                                                by_cases c40 : (vm_and (m 902 v3) 63) = 38
                                                                                · replace h := h.1 c40
                                                                                  refine vm_gj1 (i := (.tableswitch 0 0 0 #[], 1673, 0, [(0, 252), (1, 315), (2, 338), (3, 351), (4, 364), (5, 377), (6, 410), (7, 453), (8, 476), (9, 515), (10, 548), (11, 571), (12, 594), (13, 607), (14, 630), (15, 689), (16, 722), (17, 765), (18, 808), (19, 841), (20, 880), (21, 903), (22, 952), (23, 985), (24, 1018), (25, 1031), (26, 1064), (27, 1097), (28, 1130), (29, 1163), (30, 1186), (31, 1229), (32, 1252), (33, 1291), (34, 1324), (35, 1337), (36, 1350), (37, 1363), (38, 1386), (39, 1399), (40, 1412), (41, 1425), (42, 1448), (43, 1461), (44, 1494), (45, 1547), (46, 1588), (47, 1601), (48, 1624), (49, 1637), (50, 1660)])) (len := 219) (t := 1386) (st1 := []) (by decide +kernel) rfl (by rw [c40]; rfl) ?_
                                                                                  exact h
                                                                                · replace h := h.2 c40
                                                                                  by_cases c41 : (vm_and (m 902 v3) 63) = 39
                                                                                  · replace h := h.1 c41
                                                                                    refine vm_gj1 (i := (.tableswitch 0 0 0 #[], 1673, 0, [(0, 252), (1, 315), (2, 338), (3, 351), (4, 364), (5, 377), (6, 410), (7, 453), (8, 476), (9, 515), (10, 548), (11, 571), (12, 594), (13, 607), (14, 630), (15, 689), (16, 722), (17, 765), (18, 808), (19, 841), (20, 880), (21, 903), (22, 952), (23, 985), (24, 1018), (25, 1031), (26, 1064), (27, 1097), (28, 1130), (29, 1163), (30, 1186), (31, 1229), (32, 1252), (33, 1291), (34, 1324), (35, 1337), (36, 1350), (37, 1363), (38, 1386), (39, 1399), (40, 1412), (41, 1425), (42, 1448), (43, 1461), (44, 1494), (45, 1547), (46, 1588), (47, 1601), (48, 1624), (49, 1637), (50, 1660)])) (len := 219) (t := 1399) (st1 := []) (by decide +kernel) rfl (by rw [c41]; rfl) ?_
                                                                                    exact h
                                                                                  · replace h := h.2 c41
                                                                                    by_cases c42 : (vm_and (m 902 v3) 63) = 40
                                                                                    · replace h := h.1 c42
                                                                                      refine vm_gj1 (i := (.tableswitch 0 0 0 #[], 1673, 0, [(0, 252), (1, 315), (2, 338), (3, 351), (4, 364), (5, 377), (6, 410), (7, 453), (8, 476), (9, 515), (10, 548), (11, 571), (12, 594), (13, 607), (14, 630), (15, 689), (16, 722), (17, 765), (18, 808), (19, 841), (20, 880), (21, 903), (22, 952), (23, 985), (24, 1018), (25, 1031), (26, 1064), (27, 1097), (28, 1130), (29, 1163), (30, 1186), (31, 1229), (32, 1252), (33, 1291), (34, 1324), (35, 1337), (36, 1350), (37, 1363), (38, 1386), (39, 1399), (40, 1412), (41, 1425), (42, 1448), (43, 1461), (44, 1494), (45, 1547), (46, 1588), (47, 1601), (48, 1624), (49, 1637), (50, 1660)])) (len := 219) (t := 1412) (st1 := []) (by decide +kernel) rfl (by rw [c42]; rfl) ?_
                                                                                      exact h
                                                                                    · replace h := h.2 c42
                                                                                      by_cases c43 : (vm_and (m 902 v3) 63) = 41
                                                                                      · replace h := h.1 c43
                                                                                        refine vm_gj1 (i := (.tableswitch 0 0 0 #[], 1673, 0, [(0, 252), (1, 315), (2, 338), (3, 351), (4, 364), (5, 377), (6, 410), (7, 453), (8, 476), (9, 515), (10, 548), (11, 571), (12, 594), (13, 607), (14, 630), (15, 689), (16, 722), (17, 765), (18, 808), (19, 841), (20, 880), (21, 903), (22, 952), (23, 985), (24, 1018), (25, 1031), (26, 1064), (27, 1097), (28, 1130), (29, 1163), (30, 1186), (31, 1229), (32, 1252), (33, 1291), (34, 1324), (35, 1337), (36, 1350), (37, 1363), (38, 1386), (39, 1399), (40, 1412), (41, 1425), (42, 1448), (43, 1461), (44, 1494), (45, 1547), (46, 1588), (47, 1601), (48, 1624), (49, 1637), (50, 1660)])) (len := 219) (t := 1425) (st1 := []) (by decide +kernel) rfl (by rw [c43]; rfl) ?_
                                                                                        exact h
                                                                                      · replace h := h.2 c43
                                                                                        by_cases c44 : (vm_and (m 902 v3) 63) = 42
                                                                                        · replace h := h.1 c44
                                                                                          refine vm_gj1 (i := (.tableswitch 0 0 0 #[], 1673, 0, [(0, 252), (1, 315), (2, 338), (3, 351), (4, 364), (5, 377), (6, 410), (7, 453), (8, 476), (9, 515), (10, 548), (11, 571), (12, 594), (13, 607), (14, 630), (15, 689), (16, 722), (17, 765), (18, 808), (19, 841), (20, 880), (21, 903), (22, 952), (23, 985), (24, 1018), (25, 1031), (26, 1064), (27, 1097), (28, 1130), (29, 1163), (30, 1186), (31, 1229), (32, 1252), (33, 1291), (34, 1324), (35, 1337), (36, 1350), (37, 1363), (38, 1386), (39, 1399), (40, 1412), (41, 1425), (42, 1448), (43, 1461), (44, 1494), (45, 1547), (46, 1588), (47, 1601), (48, 1624), (49, 1637), (50, 1660)])) (len := 219) (t := 1448) (st1 := []) (by decide +kernel) rfl (by rw [c44]; rfl) ?_
                                                                                          exact h
                                                                                        · replace h := h.2 c44
                                                                                          by_cases c45 : (vm_and (m 902 v3) 63) = 43
                                                                                          · replace h := h.1 c45
                                                                                            refine vm_gj1 (i := (.tableswitch 0 0 0 #[], 1673, 0, [(0, 252), (1, 315), (2, 338), (3, 351), (4, 364), (5, 377), (6, 410), (7, 453), (8, 476), (9, 515), (10, 548), (11, 571), (12, 594), (13, 607), (14, 630), (15, 689), (16, 722), (17, 765), (18, 808), (19, 841), (20, 880), (21, 903), (22, 952), (23, 985), (24, 1018), (25, 1031), (26, 1064), (27, 1097), (28, 1130), (29, 1163), (30, 1186), (31, 1229), (32, 1252), (33, 1291), (34, 1324), (35, 1337), (36, 1350), (37, 1363), (38, 1386), (39, 1399), (40, 1412), (41, 1425), (42, 1448), (43, 1461), (44, 1494), (45, 1547), (46, 1588), (47, 1601), (48, 1624), (49, 1637), (50, 1660)])) (len := 219) (t := 1461) (st1 := []) (by decide +kernel) rfl (by rw [c45]; rfl) ?_
                                                                                            exact h
                                                                                          · replace h := h.2 c45
                                                                                            by_cases c46 : (vm_and (m 902 v3) 63) = 44
                                                                                            · replace h := h.1 c46
                                                                                              refine vm_gj1 (i := (.tableswitch 0 0 0 #[], 1673, 0, [(0, 252), (1, 315), (2, 338), (3, 351), (4, 364), (5, 377), (6, 410), (7, 453), (8, 476), (9, 515), (10, 548), (11, 571), (12, 594), (13, 607), (14, 630), (15, 689), (16, 722), (17, 765), (18, 808), (19, 841), (20, 880), (21, 903), (22, 952), (23, 985), (24, 1018), (25, 1031), (26, 1064), (27, 1097), (28, 1130), (29, 1163), (30, 1186), (31, 1229), (32, 1252), (33, 1291), (34, 1324), (35, 1337), (36, 1350), (37, 1363), (38, 1386), (39, 1399), (40, 1412), (41, 1425), (42, 1448), (43, 1461), (44, 1494), (45, 1547), (46, 1588), (47, 1601), (48, 1624), (49, 1637), (50, 1660)])) (len := 219) (t := 1494) (st1 := []) (by decide +kernel) rfl (by rw [c46]; rfl) ?_
                                                                                              exact h
                                                                                            · replace h := h.2 c46
                                                                                              by_cases c47 : (vm_and (m 902 v3) 63) = 45
                                                                                              · replace h := h.1 c47
                                                                                                refine vm_gj1 (i := (.tableswitch 0 0 0 #[], 1673, 0, [(0, 252), (1, 315), (2, 338), (3, 351), (4, 364), (5, 377), (6, 410), (7, 453), (8, 476), (9, 515), (10, 548), (11, 571), (12, 594), (13, 607), (14, 630), (15, 689), (16, 722), (17, 765), (18, 808), (19, 841), (20, 880), (21, 903), (22, 952), (23, 985), (24, 1018), (25, 1031), (26, 1064), (27, 1097), (28, 1130), (29, 1163), (30, 1186), (31, 1229), (32, 1252), (33, 1291), (34, 1324), (35, 1337), (36, 1350), (37, 1363), (38, 1386), (39, 1399), (40, 1412), (41, 1425), (42, 1448), (43, 1461), (44, 1494), (45, 1547), (46, 1588), (47, 1601), (48, 1624), (49, 1637), (50, 1660)])) (len := 219) (t := 1547) (st1 := []) (by decide +kernel) rfl (by rw [c47]; rfl) ?_
                                                                                                exact h
                                                                                              · replace h := h.2 c47
                                                                                                by_cases c48 : (vm_and (m 902 v3) 63) = 46
                                                                                                · replace h := h.1 c48
                                                                                                  refine vm_gj1 (i := (.tableswitch 0 0 0 #[], 1673, 0, [(0, 252), (1, 315), (2, 338), (3, 351), (4, 364), (5, 377), (6, 410), (7, 453), (8, 476), (9, 515), (10, 548), (11, 571), (12, 594), (13, 607), (14, 630), (15, 689), (16, 722), (17, 765), (18, 808), (19, 841), (20, 880), (21, 903), (22, 952), (23, 985), (24, 1018), (25, 1031), (26, 1064), (27, 1097), (28, 1130), (29, 1163), (30, 1186), (31, 1229), (32, 1252), (33, 1291), (34, 1324), (35, 1337), (36, 1350), (37, 1363), (38, 1386), (39, 1399), (40, 1412), (41, 1425), (42, 1448), (43, 1461), (44, 1494), (45, 1547), (46, 1588), (47, 1601), (48, 1624), (49, 1637), (50, 1660)])) (len := 219) (t := 1588) (st1 := []) (by decide +kernel) rfl (by rw [c48]; rfl) ?_
                                                                                                  exact h
                                                                                                · replace h := h.2 c48
                                                                                                  by_cases c49 : (vm_and (m 902 v3) 63) = 47
                                                                                                  · replace h := h.1 c49
                                                                                                    refine vm_gj1 (i := (.tableswitch 0 0 0 #[], 1673, 0, [(0, 252), (1, 315), (2, 338), (3, 351), (4, 364), (5, 377), (6, 410), (7, 453), (8, 476), (9, 515), (10, 548), (11, 571), (12, 594), (13, 607), (14, 630), (15, 689), (16, 722), (17, 765), (18, 808), (19, 841), (20, 880), (21, 903), (22, 952), (23, 985), (24, 1018), (25, 1031), (26, 1064), (27, 1097), (28, 1130), (29, 1163), (30, 1186), (31, 1229), (32, 1252), (33, 1291), (34, 1324), (35, 1337), (36, 1350), (37, 1363), (38, 1386), (39, 1399), (40, 1412), (41, 1425), (42, 1448), (43, 1461), (44, 1494), (45, 1547), (46, 1588), (47, 1601), (48, 1624), (49, 1637), (50, 1660)])) (len := 219) (t := 1601) (st1 := []) (by decide +kernel) rfl (by rw [c49]; rfl) ?_
                                                                                                    exact h
                                                                                                  · replace h := h.2 c49
                                                                                                    by_cases c50 : (vm_and (m 902 v3) 63) = 48
                                                                                                    · replace h := h.1 c50
                                                                                                      refine vm_gj1 (i := (.tableswitch 0 0 0 #[], 1673, 0, [(0, 252), (1, 315), (2, 338), (3, 351), (4, 364), (5, 377), (6, 410), (7, 453), (8, 476), (9, 515), (10, 548), (11, 571), (12, 594), (13, 607), (14, 630), (15, 689), (16, 722), (17, 765), (18, 808), (19, 841), (20, 880), (21, 903), (22, 952), (23, 985), (24, 1018), (25, 1031), (26, 1064), (27, 1097), (28, 1130), (29, 1163), (30, 1186), (31, 1229), (32, 1252), (33, 1291), (34, 1324), (35, 1337), (36, 1350), (37, 1363), (38, 1386), (39, 1399), (40, 1412), (41, 1425), (42, 1448), (43, 1461), (44, 1494), (45, 1547), (46, 1588), (47, 1601), (48, 1624), (49, 1637), (50, 1660)])) (len := 219) (t := 1624) (st1 := []) (by decide +kernel) rfl (by rw [c50]; rfl) ?_
                                                                                                      exact h
                                                                                                    · replace h := h.2 c50
                                                                                                      by_cases c51 : (vm_and (m 902 v3) 63) = 49
                                                                                                      · replace h := h.1 c51
                                                                                                        refine vm_gj1 (i := (.tableswitch 0 0 0 #[], 1673, 0, [(0, 252), (1, 315), (2, 338), (3, 351), (4, 364), (5, 377), (6, 410), (7, 453), (8, 476), (9, 515), (10, 548), (11, 571), (12, 594), (13, 607), (14, 630), (15, 689), (16, 722), (17, 765), (18, 808), (19, 841), (20, 880), (21, 903), (22, 952), (23, 985), (24, 1018), (25, 1031), (26, 1064), (27, 1097), (28, 1130), (29, 1163), (30, 1186), (31, 1229), (32, 1252), (33, 1291), (34, 1324), (35, 1337), (36, 1350), (37, 1363), (38, 1386), (39, 1399), (40, 1412), (41, 1425), (42, 1448), (43, 1461), (44, 1494), (45, 1547), (46, 1588), (47, 1601), (48, 1624), (49, 1637), (50, 1660)])) (len := 219) (t := 1637) (st1 := []) (by decide +kernel) rfl (by rw [c51]; rfl) ?_
                                                                                                        exact h
                                                                                                      · replace h := h.2 c51
                                                                                                        by_cases c52 : (vm_and (m 902 v3) 63) = 50
                                                                                                        · replace h := h.1 c52
                                                                                                          refine vm_gj1 (i := (.tableswitch 0 0 0 #[], 1673, 0, [(0, 252), (1, 315), (2, 338), (3, 351), (4, 364), (5, 377), (6, 410), (7, 453), (8, 476), (9, 515), (10, 548), (11, 571), (12, 594), (13, 607), (14, 630), (15, 689), (16, 722), (17, 765), (18, 808), (19, 841), (20, 880), (21, 903), (22, 952), (23, 985), (24, 1018), (25, 1031), (26, 1064), (27, 1097), (28, 1130), (29, 1163), (30, 1186), (31, 1229), (32, 1252), (33, 1291), (34, 1324), (35, 1337), (36, 1350), (37, 1363), (38, 1386), (39, 1399), (40, 1412), (41, 1425), (42, 1448), (43, 1461), (44, 1494), (45, 1547), (46, 1588), (47, 1601), (48, 1624), (49, 1637), (50, 1660)])) (len := 219) (t := 1660) (st1 := []) (by decide +kernel) rfl (by rw [c52]; rfl) ?_
                                                                                                          exact h
                                                                                                        · replace h := h.2 c52
                                                                                                          refine vm_gj1 (i := (.tableswitch 0 0 0 #[], 1673, 0, [(0, 252), (1, 315), (2, 338), (3, 351), (4, 364), (5, 377), (6, 410), (7, 453), (8, 476), (9, 515), (10, 548), (11, 571), (12, 594), (13, 607), (14, 630), (15, 689), (16, 722), (17, 765), (18, 808), (19, 841), (20, 880), (21, 903), (22, 952), (23, 985), (24, 1018), (25, 1031), (26, 1064), (27, 1097), (28, 1130), (29, 1163), (30, 1186), (31, 1229), (32, 1252), (33, 1291), (34, 1324), (35, 1337), (36, 1350), (37, 1363), (38, 1386), (39, 1399), (40, 1412), (41, 1425), (42, 1448), (43, 1461), (44, 1494), (45, 1547), (46, 1588), (47, 1601), (48, 1624), (49, 1637), (50, 1660)])) (len := 219) (t := 1673) (st1 := []) (by decide +kernel) rfl (by simp only [vm_jmp, vm_sw, cond, decide_eq_false c2, decide_eq_false c3, decide_eq_false c4, decide_eq_false c5, decide_eq_false c6, decide_eq_false c7, decide_eq_false c8, decide_eq_false c9, decide_eq_false c10, decide_eq_false c11, decide_eq_false c12, decide_eq_false c13, decide_eq_false c14, decide_eq_false c15, decide_eq_false c16, decide_eq_false c17, decide_eq_false c18, decide_eq_false c19, decide_eq_false c20, decide_eq_false c21, decide_eq_false c22, decide_eq_false c23, decide_eq_false c24, decide_eq_false c25, decide_eq_false c26, decide_eq_false c27, decide_eq_false c28, decide_eq_false c29, decide_eq_false c30, decide_eq_false c31, decide_eq_false c32, decide_eq_false c33, decide_eq_false c34, decide_eq_false c35, decide_eq_false c36, decide_eq_false c37, decide_eq_false c38, decide_eq_false c39, decide_eq_false c40, decide_eq_false c41, decide_eq_false c42, decide_eq_false c43, decide_eq_false c44, decide_eq_false c45, decide_eq_false c46, decide_eq_false c47, decide_eq_false c48, decide_eq_false c49, decide_eq_false c50, decide_eq_false c51, decide_eq_false c52]) ?_
                                                                                                          exact h
set_option maxRecDepth 20000 in
theorem ruL_law_252 {v3 : Int} {w4 : Option vm_V} {w6 : Option vm_V} {m : vm_M} {Q : Int → vm_M → Prop}  (h :
    ((vm_32 (v3 + 1)) ∧ (0 ≤ (v3 + 1) ∧ (v3 + 1) < (m 903 0)) ∧ (vm_32 (v3 + 2)) ∧ (0 ≤ (v3 + 2) ∧ (v3 + 2) < (m 903 0)) ∧ (vm_32 (v3 + 3)) ∧ (0 ≤ (v3 + 3) ∧ (v3 + 3) < (m 903 0)) ∧ (vm_32 (v3 + 4)) ∧ (0 ≤ (v3 + 4) ∧ (v3 + 4) < (m 903 0)) ∧ (vm_32 (v3 + 5)) ∧ (0 ≤ (v3 + 5) ∧ (v3 + 5) < (m 903 0))) ∧
    (vm_C 101 [vm_r 0, vm_i (m 902 (v3 + 1)), vm_i (m 902 (v3 + 2)), vm_i (m 902 (v3 + 3)), vm_i (m 902 (v3 + 4)), vm_i (m 902 (v3 + 5))] m (vm_qi (fun z1 m1 =>
      ((vm_32 (v3 + 1)) ∧ (0 ≤ (v3 + 1) ∧ (v3 + 1) < (m1 903 0)) ∧ (vm_32 (v3 + 2)) ∧ (0 ≤ (v3 + 2) ∧ (v3 + 2) < (m1 903 0)) ∧ (vm_32 (v3 + 3)) ∧ (0 ≤ (v3 + 3) ∧ (v3 + 3) < (m1 903 0)) ∧ (vm_32 (v3 + 4)) ∧ (0 ≤ (v3 + 4) ∧ (v3 + 4) < (m1 903 0)) ∧ (vm_32 (v3 + 5)) ∧ (0 ≤ (v3 + 5) ∧ (v3 + 5) < (m1 903 0))) ∧
      (vm_C 213 [vm_r 96, vm_i (m1 902 (v3 + 1)), vm_i (m1 902 (v3 + 2)), vm_i (m1 902 (v3 + 3)), vm_i (m1 902 (v3 + 4)), vm_i (m1 902 (v3 + 5))] m1 (vm_qi (fun z2 m2 =>
        ((z1 = z2 →
          kuL_law_1673 v3 w4 w6 m2 Q) ∧ (¬ z1 = z2 →
          Q 0 m2))))))))) : kuL_law_252 v3 w4 w6 m Q := by
  show vm_G 301 252 [some (vm_r 902), some (vm_r 0), some (vm_r 96), some (vm_i v3), w4, none, w6, none] [] m (vm_qi Q)
  obtain ⟨⟨o1_0, o1_1, o1_2, o1_3, o1_4, o1_5, o1_6, o1_7, o1_8, o1_9⟩, h⟩ := h
  refine vm_gp [(.aload 1, 0, 0, []), (.aload 0, 0, 0, []), (.iload 3, 0, 0, []), (.iconst 1, 0, 0, []), (.iadd, 0, 0, []), (.iaload, 0, 0, []), (.aload 0, 0, 0, []), (.iload 3, 0, 0, []), (.iconst 2, 0, 0, []), (.iadd, 0, 0, []), (.iaload, 0, 0, []), (.aload 0, 0, 0, []), (.iload 3, 0, 0, []), (.iconst 3, 0, 0, []), (.iadd, 0, 0, []), (.iaload, 0, 0, []), (.aload 0, 0, 0, []), (.iload 3, 0, 0, []), (.iconst 4, 0, 0, []), (.iadd, 0, 0, []), (.iaload, 0, 0, []), (.aload 0, 0, 0, []), (.iload 3, 0, 0, []), (.iconst 5, 0, 0, []), (.iadd, 0, 0, []), (.iaload, 0, 0, [])] (pc1 := 278) (ls1 := [some (vm_r 902), some (vm_r 0), some (vm_r 96), some (vm_i v3), w4, none, w6, none]) (st1 := [vm_i (m 902 (v3 + 5)), vm_i (m 902 (v3 + 4)), vm_i (m 902 (v3 + 3)), vm_i (m 902 (v3 + 2)), vm_i (m 902 (v3 + 1)), vm_r 0]) (m1 := m) (ob := (((((((((((((((true && decide (vm_32 (v3 + 1))) && decide ((902 : Nat) = 902)) && decide (0 ≤ (v3 + 1) ∧ (v3 + 1) < (m 903 0))) && decide (vm_32 (v3 + 2))) && decide ((902 : Nat) = 902)) && decide (0 ≤ (v3 + 2) ∧ (v3 + 2) < (m 903 0))) && decide (vm_32 (v3 + 3))) && decide ((902 : Nat) = 902)) && decide (0 ≤ (v3 + 3) ∧ (v3 + 3) < (m 903 0))) && decide (vm_32 (v3 + 4))) && decide ((902 : Nat) = 902)) && decide (0 ≤ (v3 + 4) ∧ (v3 + 4) < (m 903 0))) && decide (vm_32 (v3 + 5))) && decide ((902 : Nat) = 902)) && decide (0 ≤ (v3 + 5) ∧ (v3 + 5) < (m 903 0)))) (by decide +kernel) rfl (vm_t (vm_t (vm_t (vm_t (vm_t (vm_t (vm_t (vm_t (vm_t (vm_t (vm_t (vm_t (vm_t (vm_t (vm_t rfl o1_0) rfl) o1_1) o1_2) rfl) o1_3) o1_4) rfl) o1_5) o1_6) rfl) o1_7) o1_8) rfl) o1_9) ?_
  refine vm_gc (g := 101) (na := 6) (av := [vm_r 0, vm_i (m 902 (v3 + 1)), vm_i (m 902 (v3 + 2)), vm_i (m 902 (v3 + 3)), vm_i (m 902 (v3 + 4)), vm_i (m 902 (v3 + 5))]) (rest := []) (i := (.invokevirtual 0, 101, 6, [])) (len := 3) (by decide +kernel) rfl rfl rfl (by decide +kernel) (by decide +kernel) rfl rfl (vm_u (vm_okh_v (c := 10) (by decide +kernel) (by decide +kernel)) (show vm_okn 101 6 0 0 0 6 = true by decide +kernel)) ?_
  refine vm_G.mono h ?_
  rintro _ m1 ⟨z1, rfl, h⟩
  show vm_G 301 281 [some (vm_r 902), some (vm_r 0), some (vm_r 96), some (vm_i v3), w4, none, w6, none] [vm_i z1] m1 _
  obtain ⟨⟨o2_0, o2_1, o2_2, o2_3, o2_4, o2_5, o2_6, o2_7, o2_8, o2_9⟩, h⟩ := h
  refine vm_gp [(.aload 2, 0, 0, []), (.aload 0, 0, 0, []), (.iload 3, 0, 0, []), (.iconst 1, 0, 0, []), (.iadd, 0, 0, []), (.iaload, 0, 0, []), (.aload 0, 0, 0, []), (.iload 3, 0, 0, []), (.iconst 2, 0, 0, []), (.iadd, 0, 0, []), (.iaload, 0, 0, []), (.aload 0, 0, 0, []), (.iload 3, 0, 0, []), (.iconst 3, 0, 0, []), (.iadd, 0, 0, []), (.iaload, 0, 0, []), (.aload 0, 0, 0, []), (.iload 3, 0, 0, []), (.iconst 4, 0, 0, []), (.iadd, 0, 0, []), (.iaload, 0, 0, []), (.aload 0, 0, 0, []), (.iload 3, 0, 0, []), (.iconst 5, 0, 0, []), (.iadd, 0, 0, []), (.iaload, 0, 0, [])] (pc1 := 307) (ls1 := [some (vm_r 902), some (vm_r 0), some (vm_r 96), some (vm_i v3), w4, none, w6, none]) (st1 := [vm_i (m1 902 (v3 + 5)), vm_i (m1 902 (v3 + 4)), vm_i (m1 902 (v3 + 3)), vm_i (m1 902 (v3 + 2)), vm_i (m1 902 (v3 + 1)), vm_r 96, vm_i z1]) (m1 := m1) (ob := (((((((((((((((true && decide (vm_32 (v3 + 1))) && decide ((902 : Nat) = 902)) && decide (0 ≤ (v3 + 1) ∧ (v3 + 1) < (m1 903 0))) && decide (vm_32 (v3 + 2))) && decide ((902 : Nat) = 902)) && decide (0 ≤ (v3 + 2) ∧ (v3 + 2) < (m1 903 0))) && decide (vm_32 (v3 + 3))) && decide ((902 : Nat) = 902)) && decide (0 ≤ (v3 + 3) ∧ (v3 + 3) < (m1 903 0))) && decide (vm_32 (v3 + 4))) && decide ((902 : Nat) = 902)) && decide (0 ≤ (v3 + 4) ∧ (v3 + 4) < (m1 903 0))) && decide (vm_32 (v3 + 5))) && decide ((902 : Nat) = 902)) && decide (0 ≤ (v3 + 5) ∧ (v3 + 5) < (m1 903 0)))) (by decide +kernel) rfl (vm_t (vm_t (vm_t (vm_t (vm_t (vm_t (vm_t (vm_t (vm_t (vm_t (vm_t (vm_t (vm_t (vm_t (vm_t rfl o2_0) rfl) o2_1) o2_2) rfl) o2_3) o2_4) rfl) o2_5) o2_6) rfl) o2_7) o2_8) rfl) o2_9) ?_
  refine vm_gc (g := 213) (na := 6) (av := [vm_r 96, vm_i (m1 902 (v3 + 1)), vm_i (m1 902 (v3 + 2)), vm_i (m1 902 (v3 + 3)), vm_i (m1 902 (v3 + 4)), vm_i (m1 902 (v3 + 5))]) (rest := [vm_i z1]) (i := (.invokevirtual 0, 213, 6, [])) (len := 3) (by decide +kernel) rfl rfl rfl (by decide +kernel) (by decide +kernel) rfl rfl (vm_u (vm_okh_v (c := 11) (by decide +kernel) (by decide +kernel)) (show vm_okn 213 6 1 0 0 6 = true by decide +kernel)) ?_
  refine vm_G.mono h ?_
  rintro _ m2 ⟨z2, rfl, h⟩
  show vm_G 301 310 [some (vm_r 902), some (vm_r 0), some (vm_r 96), some (vm_i v3), w4, none, w6, none] [vm_i z2, vm_i z1] m2 _
  refine vm_gj (c := z1 = z2) (t := 1673) (e := 313) (i := (.if_icmp .eq 0, 1673, 0, [])) (len := 3) (st1 := []) (by decide +kernel) rfl rfl (fun c1 => ?_) (fun c1 => ?_)
  · replace h := h.1 c1
    exact h
  · replace h := h.2 c1
    refine vm_gp [(.iconst 0, 0, 0, [])] (pc1 := 314) (ls1 := [some (vm_r 902), some (vm_r 0), some (vm_r 96), some (vm_i v3), w4, none, w6, none]) (st1 := [vm_i 0]) (m1 := m2) (ob := true) (by decide +kernel) rfl rfl ?_
    exact vm_gr (r := some (vm_i 0)) (i := (.ireturn, 2, 0, [])) (len := 1) (by decide +kernel) rfl rfl (by decide) ⟨_, rfl, h⟩
set_option maxRecDepth 20000 in
theorem ruL_law_315 {v3 : Int} {w4 : Option vm_V} {w6 : Option vm_V} {m : vm_M} {Q : Int → vm_M → Prop}  (h :
    ((vm_32 (v3 + 1)) ∧ (0 ≤ (v3 + 1) ∧ (v3 + 1) < (m 903 0))) ∧
    (vm_C 102 [vm_r 0, vm_i (m 902 (v3 + 1))] m (vm_qi (fun z1 m1 =>
      ((vm_32 (v3 + 1)) ∧ (0 ≤ (v3 + 1) ∧ (v3 + 1) < (m1 903 0))) ∧
      (vm_C 215 [vm_r 96, vm_i (m1 902 (v3 + 1))] m1 (vm_qi (fun z2 m2 =>
        ((z1 = z2 →
          kuL_law_1673 v3 w4 w6 m2 Q) ∧ (¬ z1 = z2 →
          Q 0 m2))))))))) : kuL_law_315 v3 w4 w6 m Q := by
  show vm_G 301 315 [some (vm_r 902), some (vm_r 0), some (vm_r 96), some (vm_i v3), w4, none, w6, none] [] m (vm_qi Q)
  obtain ⟨⟨o1_0, o1_1⟩, h⟩ := h
  refine vm_gp [(.aload 1, 0, 0, []), (.aload 0, 0, 0, []), (.iload 3, 0, 0, []), (.iconst 1, 0, 0, []), (.iadd, 0, 0, []), (.iaload, 0, 0, [])] (pc1 := 321) (ls1 := [some (vm_r 902), some (vm_r 0), some (vm_r 96), some (vm_i v3), w4, none, w6, none]) (st1 := [vm_i (m 902 (v3 + 1)), vm_r 0]) (m1 := m) (ob := (((true && decide (vm_32 (v3 + 1))) && decide ((902 : Nat) = 902)) && decide (0 ≤ (v3 + 1) ∧ (v3 + 1) < (m 903 0)))) (by decide +kernel) rfl (vm_t (vm_t (vm_t rfl o1_0) rfl) o1_1) ?_
  refine vm_gc (g := 102) (na := 2) (av := [vm_r 0, vm_i (m 902 (v3 + 1))]) (rest := []) (i := (.invokevirtual 0, 102, 2, [])) (len := 3) (by decide +kernel) rfl rfl rfl (by decide +kernel) (by decide +kernel) rfl rfl (vm_u (vm_okh_v (c := 10) (by decide +kernel) (by decide +kernel)) (show vm_okn 102 2 0 0 0 2 = true by decide +kernel)) ?_
  refine vm_G.mono h ?_
  rintro _ m1 ⟨z1, rfl, h⟩
  show vm_G 301 324 [some (vm_r 902), some (vm_r 0), some (vm_r 96), some (vm_i v3), w4, none, w6, none] [vm_i z1] m1 _
  obtain ⟨⟨o2_0, o2_1⟩, h⟩ := h
  refine vm_gp [(.aload 2, 0, 0, []), (.aload 0, 0, 0, []), (.iload 3, 0, 0, []), (.iconst 1, 0, 0, []), (.iadd, 0, 0, []), (.iaload, 0, 0, [])] (pc1 := 330) (ls1 := [some (vm_r 902), some (vm_r 0), some (vm_r 96), some (vm_i v3), w4, none, w6, none]) (st1 := [vm_i (m1 902 (v3 + 1)), vm_r 96, vm_i z1]) (m1 := m1) (ob := (((true && decide (vm_32 (v3 + 1))) && decide ((902 : Nat) = 902)) && decide (0 ≤ (v3 + 1) ∧ (v3 + 1) < (m1 903 0)))) (by decide +kernel) rfl (vm_t (vm_t (vm_t rfl o2_0) rfl) o2_1) ?_
  refine vm_gc (g := 215) (na := 2) (av := [vm_r 96, vm_i (m1 902 (v3 + 1))]) (rest := [vm_i z1]) (i := (.invokevirtual 0, 215, 2, [])) (len := 3) (by decide +kernel) rfl rfl rfl (by decide +kernel) (by decide +kernel) rfl rfl (vm_u (vm_okh_v (c := 11) (by decide +kernel) (by decide +kernel)) (show vm_okn 215 2 1 0 0 2 = true by decide +kernel)) ?_
  refine vm_G.mono h ?_
  rintro _ m2 ⟨z2, rfl, h⟩
  show vm_G 301 333 [some (vm_r 902), some (vm_r 0), some (vm_r 96), some (vm_i v3), w4, none, w6, none] [vm_i z2, vm_i z1] m2 _
  refine vm_gj (c := z1 = z2) (t := 1673) (e := 336) (i := (.if_icmp .eq 0, 1673, 0, [])) (len := 3) (st1 := []) (by decide +kernel) rfl rfl (fun c1 => ?_) (fun c1 => ?_)
  · replace h := h.1 c1
    exact h
  · replace h := h.2 c1
    refine vm_gp [(.iconst 0, 0, 0, [])] (pc1 := 337) (ls1 := [some (vm_r 902), some (vm_r 0), some (vm_r 96), some (vm_i v3), w4, none, w6, none]) (st1 := [vm_i 0]) (m1 := m2) (ob := true) (by decide +kernel) rfl rfl ?_
    exact vm_gr (r := some (vm_i 0)) (i := (.ireturn, 2, 0, [])) (len := 1) (by decide +kernel) rfl rfl (by decide) ⟨_, rfl, h⟩
set_option maxRecDepth 20000 in
theorem ruL_law_338 {v3 : Int} {w4 : Option vm_V} {w6 : Option vm_V} {m : vm_M} {Q : Int → vm_M → Prop}  (h :
    (vm_C 103 [vm_r 0] m (vm_qi (fun z1 m1 =>
      (vm_C 216 [vm_r 96] m1 (vm_qi (fun z2 m2 =>
        ((z1 = z2 →
          kuL_law_1673 v3 w4 w6 m2 Q) ∧ (¬ z1 = z2 →
          Q 0 m2))))))))) : kuL_law_338 v3 w4 w6 m Q := by
  show vm_G 301 338 [some (vm_r 902), some (vm_r 0), some (vm_r 96), some (vm_i v3), w4, none, w6, none] [] m (vm_qi Q)
  refine vm_gp [(.aload 1, 0, 0, [])] (pc1 := 339) (ls1 := [some (vm_r 902), some (vm_r 0), some (vm_r 96), some (vm_i v3), w4, none, w6, none]) (st1 := [vm_r 0]) (m1 := m) (ob := true) (by decide +kernel) rfl rfl ?_
  refine vm_gc (g := 103) (na := 1) (av := [vm_r 0]) (rest := []) (i := (.invokevirtual 0, 103, 1, [])) (len := 3) (by decide +kernel) rfl rfl rfl (by decide +kernel) (by decide +kernel) rfl rfl (vm_u (vm_okh_v (c := 10) (by decide +kernel) (by decide +kernel)) (show vm_okn 103 1 0 0 0 1 = true by decide +kernel)) ?_
  refine vm_G.mono h ?_
  rintro _ m1 ⟨z1, rfl, h⟩
  show vm_G 301 342 [some (vm_r 902), some (vm_r 0), some (vm_r 96), some (vm_i v3), w4, none, w6, none] [vm_i z1] m1 _
  refine vm_gp [(.aload 2, 0, 0, [])] (pc1 := 343) (ls1 := [some (vm_r 902), some (vm_r 0), some (vm_r 96), some (vm_i v3), w4, none, w6, none]) (st1 := [vm_r 96, vm_i z1]) (m1 := m1) (ob := true) (by decide +kernel) rfl rfl ?_
  refine vm_gc (g := 216) (na := 1) (av := [vm_r 96]) (rest := [vm_i z1]) (i := (.invokevirtual 0, 216, 1, [])) (len := 3) (by decide +kernel) rfl rfl rfl (by decide +kernel) (by decide +kernel) rfl rfl (vm_u (vm_okh_v (c := 11) (by decide +kernel) (by decide +kernel)) (show vm_okn 216 1 1 0 0 1 = true by decide +kernel)) ?_
  refine vm_G.mono h ?_
  rintro _ m2 ⟨z2, rfl, h⟩
  show vm_G 301 346 [some (vm_r 902), some (vm_r 0), some (vm_r 96), some (vm_i v3), w4, none, w6, none] [vm_i z2, vm_i z1] m2 _
  refine vm_gj (c := z1 = z2) (t := 1673) (e := 349) (i := (.if_icmp .eq 0, 1673, 0, [])) (len := 3) (st1 := []) (by decide +kernel) rfl rfl (fun c1 => ?_) (fun c1 => ?_)
  · replace h := h.1 c1
    exact h
  · replace h := h.2 c1
    refine vm_gp [(.iconst 0, 0, 0, [])] (pc1 := 350) (ls1 := [some (vm_r 902), some (vm_r 0), some (vm_r 96), some (vm_i v3), w4, none, w6, none]) (st1 := [vm_i 0]) (m1 := m2) (ob := true) (by decide +kernel) rfl rfl ?_
    exact vm_gr (r := some (vm_i 0)) (i := (.ireturn, 2, 0, [])) (len := 1) (by decide +kernel) rfl rfl (by decide) ⟨_, rfl, h⟩
set_option maxRecDepth 20000 in
theorem ruL_law_351 {v3 : Int} {w4 : Option vm_V} {w6 : Option vm_V} {m : vm_M} {Q : Int → vm_M → Prop}  (h :
    (vm_C 104 [vm_r 0] m (vm_qi (fun z1 m1 =>
      (vm_C 217 [vm_r 96] m1 (vm_qi (fun z2 m2 =>
        ((z1 = z2 →
          kuL_law_1673 v3 w4 w6 m2 Q) ∧ (¬ z1 = z2 →
          Q 0 m2))))))))) : kuL_law_351 v3 w4 w6 m Q := by
  show vm_G 301 351 [some (vm_r 902), some (vm_r 0), some (vm_r 96), some (vm_i v3), w4, none, w6, none] [] m (vm_qi Q)
  refine vm_gp [(.aload 1, 0, 0, [])] (pc1 := 352) (ls1 := [some (vm_r 902), some (vm_r 0), some (vm_r 96), some (vm_i v3), w4, none, w6, none]) (st1 := [vm_r 0]) (m1 := m) (ob := true) (by decide +kernel) rfl rfl ?_
  refine vm_gc (g := 104) (na := 1) (av := [vm_r 0]) (rest := []) (i := (.invokevirtual 0, 104, 1, [])) (len := 3) (by decide +kernel) rfl rfl rfl (by decide +kernel) (by decide +kernel) rfl rfl (vm_u (vm_okh_v (c := 10) (by decide +kernel) (by decide +kernel)) (show vm_okn 104 1 0 0 0 1 = true by decide +kernel)) ?_
  refine vm_G.mono h ?_
  rintro _ m1 ⟨z1, rfl, h⟩
  show vm_G 301 355 [some (vm_r 902), some (vm_r 0), some (vm_r 96), some (vm_i v3), w4, none, w6, none] [vm_i z1] m1 _
  refine vm_gp [(.aload 2, 0, 0, [])] (pc1 := 356) (ls1 := [some (vm_r 902), some (vm_r 0), some (vm_r 96), some (vm_i v3), w4, none, w6, none]) (st1 := [vm_r 96, vm_i z1]) (m1 := m1) (ob := true) (by decide +kernel) rfl rfl ?_
  refine vm_gc (g := 217) (na := 1) (av := [vm_r 96]) (rest := [vm_i z1]) (i := (.invokevirtual 0, 217, 1, [])) (len := 3) (by decide +kernel) rfl rfl rfl (by decide +kernel) (by decide +kernel) rfl rfl (vm_u (vm_okh_v (c := 11) (by decide +kernel) (by decide +kernel)) (show vm_okn 217 1 1 0 0 1 = true by decide +kernel)) ?_
  refine vm_G.mono h ?_
  rintro _ m2 ⟨z2, rfl, h⟩
  show vm_G 301 359 [some (vm_r 902), some (vm_r 0), some (vm_r 96), some (vm_i v3), w4, none, w6, none] [vm_i z2, vm_i z1] m2 _
  refine vm_gj (c := z1 = z2) (t := 1673) (e := 362) (i := (.if_icmp .eq 0, 1673, 0, [])) (len := 3) (st1 := []) (by decide +kernel) rfl rfl (fun c1 => ?_) (fun c1 => ?_)
  · replace h := h.1 c1
    exact h
  · replace h := h.2 c1
    refine vm_gp [(.iconst 0, 0, 0, [])] (pc1 := 363) (ls1 := [some (vm_r 902), some (vm_r 0), some (vm_r 96), some (vm_i v3), w4, none, w6, none]) (st1 := [vm_i 0]) (m1 := m2) (ob := true) (by decide +kernel) rfl rfl ?_
    exact vm_gr (r := some (vm_i 0)) (i := (.ireturn, 2, 0, [])) (len := 1) (by decide +kernel) rfl rfl (by decide) ⟨_, rfl, h⟩
set_option maxRecDepth 20000 in
theorem ruL_law_364 {v3 : Int} {w4 : Option vm_V} {w6 : Option vm_V} {m : vm_M} {Q : Int → vm_M → Prop}  (h :
    (vm_C 105 [vm_r 0] m (vm_qi (fun z1 m1 =>
      (vm_C 220 [vm_r 96] m1 (vm_qi (fun z2 m2 =>
        ((z1 = z2 →
          kuL_law_1673 v3 w4 w6 m2 Q) ∧ (¬ z1 = z2 →
          Q 0 m2))))))))) : kuL_law_364 v3 w4 w6 m Q := by
  show vm_G 301 364 [some (vm_r 902), some (vm_r 0), some (vm_r 96), some (vm_i v3), w4, none, w6, none] [] m (vm_qi Q)
  refine vm_gp [(.aload 1, 0, 0, [])] (pc1 := 365) (ls1 := [some (vm_r 902), some (vm_r 0), some (vm_r 96), some (vm_i v3), w4, none, w6, none]) (st1 := [vm_r 0]) (m1 := m) (ob := true) (by decide +kernel) rfl rfl ?_
  refine vm_gc (g := 105) (na := 1) (av := [vm_r 0]) (rest := []) (i := (.invokevirtual 0, 105, 1, [])) (len := 3) (by decide +kernel) rfl rfl rfl (by decide +kernel) (by decide +kernel) rfl rfl (vm_u (vm_okh_v (c := 10) (by decide +kernel) (by decide +kernel)) (show vm_okn 105 1 0 0 0 1 = true by decide +kernel)) ?_
  refine vm_G.mono h ?_
  rintro _ m1 ⟨z1, rfl, h⟩
  show vm_G 301 368 [some (vm_r 902), some (vm_r 0), some (vm_r 96), some (vm_i v3), w4, none, w6, none] [vm_i z1] m1 _
  refine vm_gp [(.aload 2, 0, 0, [])] (pc1 := 369) (ls1 := [some (vm_r 902), some (vm_r 0), some (vm_r 96), some (vm_i v3), w4, none, w6, none]) (st1 := [vm_r 96, vm_i z1]) (m1 := m1) (ob := true) (by decide +kernel) rfl rfl ?_
  refine vm_gc (g := 220) (na := 1) (av := [vm_r 96]) (rest := [vm_i z1]) (i := (.invokevirtual 0, 220, 1, [])) (len := 3) (by decide +kernel) rfl rfl rfl (by decide +kernel) (by decide +kernel) rfl rfl (vm_u (vm_okh_v (c := 11) (by decide +kernel) (by decide +kernel)) (show vm_okn 220 1 1 0 0 1 = true by decide +kernel)) ?_
  refine vm_G.mono h ?_
  rintro _ m2 ⟨z2, rfl, h⟩
  show vm_G 301 372 [some (vm_r 902), some (vm_r 0), some (vm_r 96), some (vm_i v3), w4, none, w6, none] [vm_i z2, vm_i z1] m2 _
  refine vm_gj (c := z1 = z2) (t := 1673) (e := 375) (i := (.if_icmp .eq 0, 1673, 0, [])) (len := 3) (st1 := []) (by decide +kernel) rfl rfl (fun c1 => ?_) (fun c1 => ?_)
  · replace h := h.1 c1
    exact h
  · replace h := h.2 c1
    refine vm_gp [(.iconst 0, 0, 0, [])] (pc1 := 376) (ls1 := [some (vm_r 902), some (vm_r 0), some (vm_r 96), some (vm_i v3), w4, none, w6, none]) (st1 := [vm_i 0]) (m1 := m2) (ob := true) (by decide +kernel) rfl rfl ?_
    exact vm_gr (r := some (vm_i 0)) (i := (.ireturn, 2, 0, [])) (len := 1) (by decide +kernel) rfl rfl (by decide) ⟨_, rfl, h⟩
set_option maxRecDepth 20000 in
theorem ruL_law_377 {v3 : Int} {w4 : Option vm_V} {w6 : Option vm_V} {m : vm_M} {Q : Int → vm_M → Prop}  (h :
    ((vm_32 (v3 + 1)) ∧ (0 ≤ (v3 + 1) ∧ (v3 + 1) < (m 903 0)) ∧ (vm_32 (v3 + 2)) ∧ (0 ≤ (v3 + 2) ∧ (v3 + 2) < (m 903 0))) ∧
    (vm_C 106 [vm_r 0, vm_i (m 902 (v3 + 1)), vm_i (m 902 (v3 + 2))] m (vm_qi (fun z1 m1 =>
      ((vm_32 (v3 + 1)) ∧ (0 ≤ (v3 + 1) ∧ (v3 + 1) < (m1 903 0)) ∧ (vm_32 (v3 + 2)) ∧ (0 ≤ (v3 + 2) ∧ (v3 + 2) < (m1 903 0))) ∧
      (vm_C 225 [vm_r 96, vm_i (m1 902 (v3 + 1)), vm_i (m1 902 (v3 + 2))] m1 (vm_qi (fun z2 m2 =>
        ((z1 = z2 →
          kuL_law_1673 v3 w4 w6 m2 Q) ∧ (¬ z1 = z2 →
          Q 0 m2))))))))) : kuL_law_377 v3 w4 w6 m Q := by
  show vm_G 301 377 [some (vm_r 902), some (vm_r 0), some (vm_r 96), some (vm_i v3), w4, none, w6, none] [] m (vm_qi Q)
  obtain ⟨⟨o1_0, o1_1, o1_2, o1_3⟩, h⟩ := h
  refine vm_gp [(.aload 1, 0, 0, []), (.aload 0, 0, 0, []), (.iload 3, 0, 0, []), (.iconst 1, 0, 0, []), (.iadd, 0, 0, []), (.iaload, 0, 0, []), (.aload 0, 0, 0, []), (.iload 3, 0, 0, []), (.iconst 2, 0, 0, []), (.iadd, 0, 0, []), (.iaload, 0, 0, [])] (pc1 := 388) (ls1 := [some (vm_r 902), some (vm_r 0), some (vm_r 96), some (vm_i v3), w4, none, w6, none]) (st1 := [vm_i (m 902 (v3 + 2)), vm_i (m 902 (v3 + 1)), vm_r 0]) (m1 := m) (ob := ((((((true && decide (vm_32 (v3 + 1))) && decide ((902 : Nat) = 902)) && decide (0 ≤ (v3 + 1) ∧ (v3 + 1) < (m 903 0))) && decide (vm_32 (v3 + 2))) && decide ((902 : Nat) = 902)) && decide (0 ≤ (v3 + 2) ∧ (v3 + 2) < (m 903 0)))) (by decide +kernel) rfl (vm_t (vm_t (vm_t (vm_t (vm_t (vm_t rfl o1_0) rfl) o1_1) o1_2) rfl) o1_3) ?_
  refine vm_gc (g := 106) (na := 3) (av := [vm_r 0, vm_i (m 902 (v3 + 1)), vm_i (m 902 (v3 + 2))]) (rest := []) (i := (.invokevirtual 0, 106, 3, [])) (len := 3) (by decide +kernel) rfl rfl rfl (by decide +kernel) (by decide +kernel) rfl rfl (vm_u (vm_okh_v (c := 10) (by decide +kernel) (by decide +kernel)) (show vm_okn 106 3 0 0 0 3 = true by decide +kernel)) ?_
  refine vm_G.mono h ?_
  rintro _ m1 ⟨z1, rfl, h⟩
  show vm_G 301 391 [some (vm_r 902), some (vm_r 0), some (vm_r 96), some (vm_i v3), w4, none, w6, none] [vm_i z1] m1 _
  obtain ⟨⟨o2_0, o2_1, o2_2, o2_3⟩, h⟩ := h
  refine vm_gp [(.aload 2, 0, 0, []), (.aload 0, 0, 0, []), (.iload 3, 0, 0, []), (.iconst 1, 0, 0, []), (.iadd, 0, 0, []), (.iaload, 0, 0, []), (.aload 0, 0, 0, []), (.iload 3, 0, 0, []), (.iconst 2, 0, 0, []), (.iadd, 0, 0, []), (.iaload, 0, 0, [])] (pc1 := 402) (ls1 := [some (vm_r 902), some (vm_r 0), some (vm_r 96), some (vm_i v3), w4, none, w6, none]) (st1 := [vm_i (m1 902 (v3 + 2)), vm_i (m1 902 (v3 + 1)), vm_r 96, vm_i z1]) (m1 := m1) (ob := ((((((true && decide (vm_32 (v3 + 1))) && decide ((902 : Nat) = 902)) && decide (0 ≤ (v3 + 1) ∧ (v3 + 1) < (m1 903 0))) && decide (vm_32 (v3 + 2))) && decide ((902 : Nat) = 902)) && decide (0 ≤ (v3 + 2) ∧ (v3 + 2) < (m1 903 0)))) (by decide +kernel) rfl (vm_t (vm_t (vm_t (vm_t (vm_t (vm_t rfl o2_0) rfl) o2_1) o2_2) rfl) o2_3) ?_
  refine vm_gc (g := 225) (na := 3) (av := [vm_r 96, vm_i (m1 902 (v3 + 1)), vm_i (m1 902 (v3 + 2))]) (rest := [vm_i z1]) (i := (.invokevirtual 0, 225, 3, [])) (len := 3) (by decide +kernel) rfl rfl rfl (by decide +kernel) (by decide +kernel) rfl rfl (vm_u (vm_okh_v (c := 11) (by decide +kernel) (by decide +kernel)) (show vm_okn 225 3 1 0 0 3 = true by decide +kernel)) ?_
  refine vm_G.mono h ?_
  rintro _ m2 ⟨z2, rfl, h⟩
  show vm_G 301 405 [some (vm_r 902), some (vm_r 0), some (vm_r 96), some (vm_i v3), w4, none, w6, none] [vm_i z2, vm_i z1] m2 _
  refine vm_gj (c := z1 = z2) (t := 1673) (e := 408) (i := (.if_icmp .eq 0, 1673, 0, [])) (len := 3) (st1 := []) (by decide +kernel) rfl rfl (fun c1 => ?_) (fun c1 => ?_)
  · replace h := h.1 c1
    exact h
  · replace h := h.2 c1
    refine vm_gp [(.iconst 0, 0, 0, [])] (pc1 := 409) (ls1 := [some (vm_r 902), some (vm_r 0), some (vm_r 96), some (vm_i v3), w4, none, w6, none]) (st1 := [vm_i 0]) (m1 := m2) (ob := true) (by decide +kernel) rfl rfl ?_
    exact vm_gr (r := some (vm_i 0)) (i := (.ireturn, 2, 0, [])) (len := 1) (by decide +kernel) rfl rfl (by decide) ⟨_, rfl, h⟩
set_option maxRecDepth 20000 in
theorem ruL_law_410 {v3 : Int} {w4 : Option vm_V} {w6 : Option vm_V} {m : vm_M} {Q : Int → vm_M → Prop}  (h :
    ((vm_32 (v3 + 1)) ∧ (0 ≤ (v3 + 1) ∧ (v3 + 1) < (m 903 0)) ∧ (vm_32 (v3 + 2)) ∧ (0 ≤ (v3 + 2) ∧ (v3 + 2) < (m 903 0)) ∧ (vm_32 (v3 + 3)) ∧ (0 ≤ (v3 + 3) ∧ (v3 + 3) < (m 903 0))) ∧
    (vm_C 107 [vm_r 0, vm_i (m 902 (v3 + 1)), vm_i (m 902 (v3 + 2)), vm_i (m 902 (v3 + 3))] m (vm_qi (fun z1 m1 =>
      ((vm_32 (v3 + 1)) ∧ (0 ≤ (v3 + 1) ∧ (v3 + 1) < (m1 903 0)) ∧ (vm_32 (v3 + 2)) ∧ (0 ≤ (v3 + 2) ∧ (v3 + 2) < (m1 903 0)) ∧ (vm_32 (v3 + 3)) ∧ (0 ≤ (v3 + 3) ∧ (v3 + 3) < (m1 903 0))) ∧
      (vm_C 226 [vm_r 96, vm_i (m1 902 (v3 + 1)), vm_i (m1 902 (v3 + 2)), vm_i (m1 902 (v3 + 3))] m1 (vm_qi (fun z2 m2 =>
        ((z1 = z2 →
          kuL_law_1673 v3 w4 w6 m2 Q) ∧ (¬ z1 = z2 →
          Q 0 m2))))))))) : kuL_law_410 v3 w4 w6 m Q := by
  show vm_G 301 410 [some (vm_r 902), some (vm_r 0), some (vm_r 96), some (vm_i v3), w4, none, w6, none] [] m (vm_qi Q)
  obtain ⟨⟨o1_0, o1_1, o1_2, o1_3, o1_4, o1_5⟩, h⟩ := h
  refine vm_gp [(.aload 1, 0, 0, []), (.aload 0, 0, 0, []), (.iload 3, 0, 0, []), (.iconst 1, 0, 0, []), (.iadd, 0, 0, []), (.iaload, 0, 0, []), (.aload 0, 0, 0, []), (.iload 3, 0, 0, []), (.iconst 2, 0, 0, []), (.iadd, 0, 0, []), (.iaload, 0, 0, []), (.aload 0, 0, 0, []), (.iload 3, 0, 0, []), (.iconst 3, 0, 0, []), (.iadd, 0, 0, []), (.iaload, 0, 0, [])] (pc1 := 426) (ls1 := [some (vm_r 902), some (vm_r 0), some (vm_r 96), some (vm_i v3), w4, none, w6, none]) (st1 := [vm_i (m 902 (v3 + 3)), vm_i (m 902 (v3 + 2)), vm_i (m 902 (v3 + 1)), vm_r 0]) (m1 := m) (ob := (((((((((true && decide (vm_32 (v3 + 1))) && decide ((902 : Nat) = 902)) && decide (0 ≤ (v3 + 1) ∧ (v3 + 1) < (m 903 0))) && decide (vm_32 (v3 + 2))) && decide ((902 : Nat) = 902)) && decide (0 ≤ (v3 + 2) ∧ (v3 + 2) < (m 903 0))) && decide (vm_32 (v3 + 3))) && decide ((902 : Nat) = 902)) && decide (0 ≤ (v3 + 3) ∧ (v3 + 3) < (m 903 0)))) (by decide +kernel) rfl (vm_t (vm_t (vm_t (vm_t (vm_t (vm_t (vm_t (vm_t (vm_t rfl o1_0) rfl) o1_1) o1_2) rfl) o1_3) o1_4) rfl) o1_5) ?_
  refine vm_gc (g := 107) (na := 4) (av := [vm_r 0, vm_i (m 902 (v3 + 1)), vm_i (m 902 (v3 + 2)), vm_i (m 902 (v3 + 3))]) (rest := []) (i := (.invokevirtual 0, 107, 4, [])) (len := 3) (by decide +kernel) rfl rfl rfl (by decide +kernel) (by decide +kernel) rfl rfl (vm_u (vm_okh_v (c := 10) (by decide +kernel) (by decide +kernel)) (show vm_okn 107 4 0 0 0 4 = true by decide +kernel)) ?_
  refine vm_G.mono h ?_
  rintro _ m1 ⟨z1, rfl, h⟩
  show vm_G 301 429 [some (vm_r 902), some (vm_r 0), some (vm_r 96), some (vm_i v3), w4, none, w6, none] [vm_i z1] m1 _
  obtain ⟨⟨o2_0, o2_1, o2_2, o2_3, o2_4, o2_5⟩, h⟩ := h
  refine vm_gp [(.aload 2, 0, 0, []), (.aload 0, 0, 0, []), (.iload 3, 0, 0, []), (.iconst 1, 0, 0, []), (.iadd, 0, 0, []), (.iaload, 0, 0, []), (.aload 0, 0, 0, []), (.iload 3, 0, 0, []), (.iconst 2, 0, 0, []), (.iadd, 0, 0, []), (.iaload, 0, 0, []), (.aload 0, 0, 0, []), (.iload 3, 0, 0, []), (.iconst 3, 0, 0, []), (.iadd, 0, 0, []), (.iaload, 0, 0, [])] (pc1 := 445) (ls1 := [some (vm_r 902), some (vm_r 0), some (vm_r 96), some (vm_i v3), w4, none, w6, none]) (st1 := [vm_i (m1 902 (v3 + 3)), vm_i (m1 902 (v3 + 2)), vm_i (m1 902 (v3 + 1)), vm_r 96, vm_i z1]) (m1 := m1) (ob := (((((((((true && decide (vm_32 (v3 + 1))) && decide ((902 : Nat) = 902)) && decide (0 ≤ (v3 + 1) ∧ (v3 + 1) < (m1 903 0))) && decide (vm_32 (v3 + 2))) && decide ((902 : Nat) = 902)) && decide (0 ≤ (v3 + 2) ∧ (v3 + 2) < (m1 903 0))) && decide (vm_32 (v3 + 3))) && decide ((902 : Nat) = 902)) && decide (0 ≤ (v3 + 3) ∧ (v3 + 3) < (m1 903 0)))) (by decide +kernel) rfl (vm_t (vm_t (vm_t (vm_t (vm_t (vm_t (vm_t (vm_t (vm_t rfl o2_0) rfl) o2_1) o2_2) rfl) o2_3) o2_4) rfl) o2_5) ?_
  refine vm_gc (g := 226) (na := 4) (av := [vm_r 96, vm_i (m1 902 (v3 + 1)), vm_i (m1 902 (v3 + 2)), vm_i (m1 902 (v3 + 3))]) (rest := [vm_i z1]) (i := (.invokevirtual 0, 226, 4, [])) (len := 3) (by decide +kernel) rfl rfl rfl (by decide +kernel) (by decide +kernel) rfl rfl (vm_u (vm_okh_v (c := 11) (by decide +kernel) (by decide +kernel)) (show vm_okn 226 4 1 0 0 4 = true by decide +kernel)) ?_
  refine vm_G.mono h ?_
  rintro _ m2 ⟨z2, rfl, h⟩
  show vm_G 301 448 [some (vm_r 902), some (vm_r 0), some (vm_r 96), some (vm_i v3), w4, none, w6, none] [vm_i z2, vm_i z1] m2 _
  refine vm_gj (c := z1 = z2) (t := 1673) (e := 451) (i := (.if_icmp .eq 0, 1673, 0, [])) (len := 3) (st1 := []) (by decide +kernel) rfl rfl (fun c1 => ?_) (fun c1 => ?_)
  · replace h := h.1 c1
    exact h
  · replace h := h.2 c1
    refine vm_gp [(.iconst 0, 0, 0, [])] (pc1 := 452) (ls1 := [some (vm_r 902), some (vm_r 0), some (vm_r 96), some (vm_i v3), w4, none, w6, none]) (st1 := [vm_i 0]) (m1 := m2) (ob := true) (by decide +kernel) rfl rfl ?_
    exact vm_gr (r := some (vm_i 0)) (i := (.ireturn, 2, 0, [])) (len := 1) (by decide +kernel) rfl rfl (by decide) ⟨_, rfl, h⟩
set_option maxRecDepth 20000 in
theorem ruL_law_453 {v3 : Int} {w4 : Option vm_V} {w6 : Option vm_V} {m : vm_M} {Q : Int → vm_M → Prop}  (h :
    ((vm_32 (v3 + 1)) ∧ (0 ≤ (v3 + 1) ∧ (v3 + 1) < (m 903 0))) ∧
    (vm_C 108 [vm_r 0, vm_i (m 902 (v3 + 1))] m (vm_qi (fun z1 m1 =>
      ((vm_32 (v3 + 1)) ∧ (0 ≤ (v3 + 1) ∧ (v3 + 1) < (m1 903 0))) ∧
      (vm_C 227 [vm_r 96, vm_i (m1 902 (v3 + 1))] m1 (vm_qi (fun z2 m2 =>
        ((z1 = z2 →
          kuL_law_1673 v3 w4 w6 m2 Q) ∧ (¬ z1 = z2 →
          Q 0 m2))))))))) : kuL_law_453 v3 w4 w6 m Q := by
  show vm_G 301 453 [some (vm_r 902), some (vm_r 0), some (vm_r 96), some (vm_i v3), w4, none, w6, none] [] m (vm_qi Q)
  obtain ⟨⟨o1_0, o1_1⟩, h⟩ := h
  refine vm_gp [(.aload 1, 0, 0, []), (.aload 0, 0, 0, []), (.iload 3, 0, 0, []), (.iconst 1, 0, 0, []), (.iadd, 0, 0, []), (.iaload, 0, 0, [])] (pc1 := 459) (ls1 := [some (vm_r 902), some (vm_r 0), some (vm_r 96), some (vm_i v3), w4, none, w6, none]) (st1 := [vm_i (m 902 (v3 + 1)), vm_r 0]) (m1 := m) (ob := (((true && decide (vm_32 (v3 + 1))) && decide ((902 : Nat) = 902)) && decide (0 ≤ (v3 + 1) ∧ (v3 + 1) < (m 903 0)))) (by decide +kernel) rfl (vm_t (vm_t (vm_t rfl o1_0) rfl) o1_1) ?_
  refine vm_gc (g := 108) (na := 2) (av := [vm_r 0, vm_i (m 902 (v3 + 1))]) (rest := []) (i := (.invokevirtual 0, 108, 2, [])) (len := 3) (by decide +kernel) rfl rfl rfl (by decide +kernel) (by decide +kernel) rfl rfl (vm_u (vm_okh_v (c := 10) (by decide +kernel) (by decide +kernel)) (show vm_okn 108 2 0 0 0 2 = true by decide +kernel)) ?_
  refine vm_G.mono h ?_
  rintro _ m1 ⟨z1, rfl, h⟩
  show vm_G 301 462 [some (vm_r 902), some (vm_r 0), some (vm_r 96), some (vm_i v3), w4, none, w6, none] [vm_i z1] m1 _
  obtain ⟨⟨o2_0, o2_1⟩, h⟩ := h
  refine vm_gp [(.aload 2, 0, 0, []), (.aload 0, 0, 0, []), (.iload 3, 0, 0, []), (.iconst 1, 0, 0, []), (.iadd, 0, 0, []), (.iaload, 0, 0, [])] (pc1 := 468) (ls1 := [some (vm_r 902), some (vm_r 0), some (vm_r 96), some (vm_i v3), w4, none, w6, none]) (st1 := [vm_i (m1 902 (v3 + 1)), vm_r 96, vm_i z1]) (m1 := m1) (ob := (((true && decide (vm_32 (v3 + 1))) && decide ((902 : Nat) = 902)) && decide (0 ≤ (v3 + 1) ∧ (v3 + 1) < (m1 903 0)))) (by decide +kernel) rfl (vm_t (vm_t (vm_t rfl o2_0) rfl) o2_1) ?_
  refine vm_gc (g := 227) (na := 2) (av := [vm_r 96, vm_i (m1 902 (v3 + 1))]) (rest := [vm_i z1]) (i := (.invokevirtual 0, 227, 2, [])) (len := 3) (by decide +kernel) rfl rfl rfl (by decide +kernel) (by decide +kernel) rfl rfl (vm_u (vm_okh_v (c := 11) (by decide +kernel) (by decide +kernel)) (show vm_okn 227 2 1 0 0 2 = true by decide +kernel)) ?_
  refine vm_G.mono h ?_
  rintro _ m2 ⟨z2, rfl, h⟩
  show vm_G 301 471 [some (vm_r 902), some (vm_r 0), some (vm_r 96), some (vm_i v3), w4, none, w6, none] [vm_i z2, vm_i z1] m2 _
  refine vm_gj (c := z1 = z2) (t := 1673) (e := 474) (i := (.if_icmp .eq 0, 1673, 0, [])) (len := 3) (st1 := []) (by decide +kernel) rfl rfl (fun c1 => ?_) (fun c1 => ?_)
  · replace h := h.1 c1
    exact h
  · replace h := h.2 c1
    refine vm_gp [(.iconst 0, 0, 0, [])] (pc1 := 475) (ls1 := [some (vm_r 902), some (vm_r 0), some (vm_r 96), some (vm_i v3), w4, none, w6, none]) (st1 := [vm_i 0]) (m1 := m2) (ob := true) (by decide +kernel) rfl rfl ?_
    exact vm_gr (r := some (vm_i 0)) (i := (.ireturn, 2, 0, [])) (len := 1) (by decide +kernel) rfl rfl (by decide) ⟨_, rfl, h⟩
set_option maxRecDepth 20000 in
theorem ruL_law_476 {v3 : Int} {w4 : Option vm_V} {w6 : Option vm_V} {m : vm_M} {Q : Int → vm_M → Prop}  (h :
    ((vm_32 (v3 + 1)) ∧ (0 ≤ (v3 + 1) ∧ (v3 + 1) < (m 903 0))) ∧
    (((m 902 (v3 + 1)) = 0 →
      (vm_C 109 [vm_r 0, vm_i 0] m (vm_qi (fun z1 m1 =>
        ((vm_32 (v3 + 1)) ∧ (0 ≤ (v3 + 1) ∧ (v3 + 1) < (m1 903 0))) ∧
        (((m1 902 (v3 + 1)) = 0 →
          (vm_C 228 [vm_r 96, vm_i 0] m1 (vm_qi (fun z2 m2 =>
            ((z1 = z2 →
              kuL_law_1673 v3 w4 w6 m2 Q) ∧ (¬ z1 = z2 →
              Q 0 m2)))))) ∧ (¬ (m1 902 (v3 + 1)) = 0 →
          (vm_C 228 [vm_r 96, vm_i 1] m1 (vm_qi (fun z3 m3 =>
            ((z1 = z3 →
              kuL_law_1673 v3 w4 w6 m3 Q) ∧ (¬ z1 = z3 →
              Q 0 m3))))))))))) ∧ (¬ (m 902 (v3 + 1)) = 0 →
      (vm_C 109 [vm_r 0, vm_i 1] m (vm_qi (fun z4 m4 =>
        ((vm_32 (v3 + 1)) ∧ (0 ≤ (v3 + 1) ∧ (v3 + 1) < (m4 903 0))) ∧
        (((m4 902 (v3 + 1)) = 0 →
          (vm_C 228 [vm_r 96, vm_i 0] m4 (vm_qi (fun z5 m5 =>
            ((z4 = z5 →
              kuL_law_1673 v3 w4 w6 m5 Q) ∧ (¬ z4 = z5 →
              Q 0 m5)))))) ∧ (¬ (m4 902 (v3 + 1)) = 0 →
          (vm_C 228 [vm_r 96, vm_i 1] m4 (vm_qi (fun z6 m6 =>
            ((z4 = z6 →
              kuL_law_1673 v3 w4 w6 m6 Q) ∧ (¬ z4 = z6 →
              Q 0 m6))))))))))))) : kuL_law_476 v3 w4 w6 m Q := by
  show vm_G 301 476 [some (vm_r 902), some (vm_r 0), some (vm_r 96), some (vm_i v3), w4, none, w6, none] [] m (vm_qi Q)
  obtain ⟨⟨o1_0, o1_1⟩, h⟩ := h
  refine vm_gp [(.aload 1, 0, 0, []), (.aload 0, 0, 0, []), (.iload 3, 0, 0, []), (.iconst 1, 0, 0, []), (.iadd, 0, 0, []), (.iaload, 0, 0, [])] (pc1 := 482) (ls1 := [some (vm_r 902), some (vm_r 0), some (vm_r 96), some (vm_i v3), w4, none, w6, none]) (st1 := [vm_i (m 902 (v3 + 1)), vm_r 0]) (m1 := m) (ob := (((true && decide (vm_32 (v3 + 1))) && decide ((902 : Nat) = 902)) && decide (0 ≤ (v3 + 1) ∧ (v3 + 1) < (m 903 0)))) (by decide +kernel) rfl (vm_t (vm_t (vm_t rfl o1_0) rfl) o1_1) ?_
  refine vm_gj (c := (m 902 (v3 + 1)) = 0) (t := 489) (e := 485) (i := (.ifCond .eq 0, 489, 0, [])) (len := 3) (st1 := [vm_r 0]) (by decide +kernel) rfl rfl (fun c1 => ?_) (fun c1 => ?_)
  · replace h := h.1 c1
    refine vm_gp [(.iconst 0, 0, 0, [])] (pc1 := 490) (ls1 := [some (vm_r 902), some (vm_r 0), some (vm_r 96), some (vm_i v3), w4, none, w6, none]) (st1 := [vm_i 0, vm_r 0]) (m1 := m) (ob := true) (by decide +kernel) rfl rfl ?_
    refine vm_gc (g := 109) (na := 2) (av := [vm_r 0, vm_i 0]) (rest := []) (i := (.invokevirtual 0, 109, 2, [])) (len := 3) (by decide +kernel) rfl rfl rfl (by decide +kernel) (by decide +kernel) rfl rfl (vm_u (vm_okh_v (c := 10) (by decide +kernel) (by decide +kernel)) (show vm_okn 109 2 0 0 0 2 = true by decide +kernel)) ?_
    refine vm_G.mono h ?_
    rintro _ m1 ⟨z1, rfl, h⟩
    show vm_G 301 493 [some (vm_r 902), some (vm_r 0), some (vm_r 96), some (vm_i v3), w4, none, w6, none] [vm_i z1] m1 _
    obtain ⟨⟨o3_0, o3_1⟩, h⟩ := h
    refine vm_gp [(.aload 2, 0, 0, []), (.aload 0, 0, 0, []), (.iload 3, 0, 0, []), (.iconst 1, 0, 0, []), (.iadd, 0, 0, []), (.iaload, 0, 0, [])] (pc1 := 499) (ls1 := [some (vm_r 902), some (vm_r 0), some (vm_r 96), some (vm_i v3), w4, none, w6, none]) (st1 := [vm_i (m1 902 (v3 + 1)), vm_r 96, vm_i z1]) (m1 := m1) (ob := (((true && decide (vm_32 (v3 + 1))) && decide ((902 : Nat) = 902)) && decide (0 ≤ (v3 + 1) ∧ (v3 + 1) < (m1 903 0)))) (by decide +kernel) rfl (vm_t (vm_t (vm_t rfl o3_0) rfl) o3_1) ?_
    refine vm_gj (c := (m1 902 (v3 + 1)) = 0) (t := 506) (e := 502) (i := (.ifCond .eq 0, 506, 0, [])) (len := 3) (st1 := [vm_r 96, vm_i z1]) (by decide +kernel) rfl rfl (fun c2 => ?_) (fun c2 => ?_)
    · replace h := h.1 c2
      refine vm_gp [(.iconst 0, 0, 0, [])] (pc1 := 507) (ls1 := [some (vm_r 902), some (vm_r 0), some (vm_r 96), some (vm_i v3), w4, none, w6, none]) (st1 := [vm_i 0, vm_r 96, vm_i z1]) (m1 := m1) (ob := true) (by decide +kernel) rfl rfl ?_
      refine vm_gc (g := 228) (na := 2) (av := [vm_r 96, vm_i 0]) (rest := [vm_i z1]) (i := (.invokevirtual 0, 228, 2, [])) (len := 3) (by decide +kernel) rfl rfl rfl (by decide +kernel) (by decide +kernel) rfl rfl (vm_u (vm_okh_v (c := 11) (by decide +kernel) (by decide +kernel)) (show vm_okn 228 2 1 0 0 2 = true by decide +kernel)) ?_
      refine vm_G.mono h ?_
      rintro _ m2 ⟨z2, rfl, h⟩
      show vm_G 301 510 [some (vm_r 902), some (vm_r 0), some (vm_r 96), some (vm_i v3), w4, none, w6, none] [vm_i z2, vm_i z1] m2 _
      refine vm_gj (c := z1 = z2) (t := 1673) (e := 513) (i := (.if_icmp .eq 0, 1673, 0, [])) (len := 3) (st1 := []) (by decide +kernel) rfl rfl (fun c3 => ?_) (fun c3 => ?_)
      · replace h := h.1 c3
        exact h
      · replace h := h.2 c3
        refine vm_gp [(.iconst 0, 0, 0, [])] (pc1 := 514) (ls1 := [some (vm_r 902), some (vm_r 0), some (vm_r 96), some (vm_i v3), w4, none, w6, none]) (st1 := [vm_i 0]) (m1 := m2) (ob := true) (by decide +kernel) rfl rfl ?_
        exact vm_gr (r := some (vm_i 0)) (i := (.ireturn, 2, 0, [])) (len := 1) (by decide +kernel) rfl rfl (by decide) ⟨_, rfl, h⟩
    · replace h := h.2 c2
      refine vm_gp [(.iconst 1, 0, 0, []), (.goto 0, 507, 0, [])] (pc1 := 507) (ls1 := [some (vm_r 902), some (vm_r 0), some (vm_r 96), some (vm_i v3), w4, none, w6, none]) (st1 := [vm_i 1, vm_r 96, vm_i z1]) (m1 := m1) (ob := true) (by decide +kernel) rfl rfl ?_
      refine vm_gc (g := 228) (na := 2) (av := [vm_r 96, vm_i 1]) (rest := [vm_i z1]) (i := (.invokevirtual 0, 228, 2, [])) (len := 3) (by decide +kernel) rfl rfl rfl (by decide +kernel) (by decide +kernel) rfl rfl (vm_u (vm_okh_v (c := 11) (by decide +kernel) (by decide +kernel)) (show vm_okn 228 2 1 0 0 2 = true by decide +kernel)) ?_
      refine vm_G.mono h ?_
      rintro _ m3 ⟨z3, rfl, h⟩
      show vm_G 301 510 [some (vm_r 902), some (vm_r 0), some (vm_r 96), some (vm_i v3), w4, none, w6, none] [vm_i z3, vm_i z1] m3 _
      refine vm_gj (c := z1 = z3) (t := 1673) (e := 513) (i := (.if_icmp .eq 0, 1673, 0, [])) (len := 3) (st1 := []) (by decide +kernel) rfl rfl (fun c4 => ?_) (fun c4 => ?_)
      · replace h := h.1 c4
        exact h
      · replace h := h.2 c4
        refine vm_gp [(.iconst 0, 0, 0, [])] (pc1 := 514) (ls1 := [some (vm_r 902), some (vm_r 0), some (vm_r 96), some (vm_i v3), w4, none, w6, none]) (st1 := [vm_i 0]) (m1 := m3) (ob := true) (by decide +kernel) rfl rfl ?_
        exact vm_gr (r := some (vm_i 0)) (i := (.ireturn, 2, 0, [])) (len := 1) (by decide +kernel) rfl rfl (by decide) ⟨_, rfl, h⟩
  · replace h := h.2 c1
    refine vm_gp [(.iconst 1, 0, 0, []), (.goto 0, 490, 0, [])] (pc1 := 490) (ls1 := [some (vm_r 902), some (vm_r 0), some (vm_r 96), some (vm_i v3), w4, none, w6, none]) (st1 := [vm_i 1, vm_r 0]) (m1 := m) (ob := true) (by decide +kernel) rfl rfl ?_
    refine vm_gc (g := 109) (na := 2) (av := [vm_r 0, vm_i 1]) (rest := []) (i := (.invokevirtual 0, 109, 2, [])) (len := 3) (by decide +kernel) rfl rfl rfl (by decide +kernel) (by decide +kernel) rfl rfl (vm_u (vm_okh_v (c := 10) (by decide +kernel) (by decide +kernel)) (show vm_okn 109 2 0 0 0 2 = true by decide +kernel)) ?_
    refine vm_G.mono h ?_
    rintro _ m4 ⟨z4, rfl, h⟩
    show vm_G 301 493 [some (vm_r 902), some (vm_r 0), some (vm_r 96), some (vm_i v3), w4, none, w6, none] [vm_i z4] m4 _
    obtain ⟨⟨o13_0, o13_1⟩, h⟩ := h
    refine vm_gp [(.aload 2, 0, 0, []), (.aload 0, 0, 0, []), (.iload 3, 0, 0, []), (.iconst 1, 0, 0, []), (.iadd, 0, 0, []), (.iaload, 0, 0, [])] (pc1 := 499) (ls1 := [some (vm_r 902), some (vm_r 0), some (vm_r 96), some (vm_i v3), w4, none, w6, none]) (st1 := [vm_i (m4 902 (v3 + 1)), vm_r 96, vm_i z4]) (m1 := m4) (ob := (((true && decide (vm_32 (v3 + 1))) && decide ((902 : Nat) = 902)) && decide (0 ≤ (v3 + 1) ∧ (v3 + 1) < (m4 903 0)))) (by decide +kernel) rfl (vm_t (vm_t (vm_t rfl o13_0) rfl) o13_1) ?_
    refine vm_gj (c := (m4 902 (v3 + 1)) = 0) (t := 506) (e := 502) (i := (.ifCond .eq 0, 506, 0, [])) (len := 3) (st1 := [vm_r 96, vm_i z4]) (by decide +kernel) rfl rfl (fun c5 => ?_) (fun c5 => ?_)
    · replace h := h.1 c5
      refine vm_gp [(.iconst 0, 0, 0, [])] (pc1 := 507) (ls1 := [some (vm_r 902), some (vm_r 0), some (vm_r 96), some (vm_i v3), w4, none, w6, none]) (st1 := [vm_i 0, vm_r 96, vm_i z4]) (m1 := m4) (ob := true) (by decide +kernel) rfl rfl ?_
      refine vm_gc (g := 228) (na := 2) (av := [vm_r 96, vm_i 0]) (rest := [vm_i z4]) (i := (.invokevirtual 0, 228, 2, [])) (len := 3) (by decide +kernel) rfl rfl rfl (by decide +kernel) (by decide +kernel) rfl rfl (vm_u (vm_okh_v (c := 11) (by decide +kernel) (by decide +kernel)) (show vm_okn 228 2 1 0 0 2 = true by decide +kernel)) ?_
      refine vm_G.mono h ?_
      rintro _ m5 ⟨z5, rfl, h⟩
      show vm_G 301 510 [some (vm_r 902), some (vm_r 0), some (vm_r 96), some (vm_i v3), w4, none, w6, none] [vm_i z5, vm_i z4] m5 _
      refine vm_gj (c := z4 = z5) (t := 1673) (e := 513) (i := (.if_icmp .eq 0, 1673, 0, [])) (len := 3) (st1 := []) (by decide +kernel) rfl rfl (fun c6 => ?_) (fun c6 => ?_)
      · replace h := h.1 c6
        exact h
      · replace h := h.2 c6
        refine vm_gp [(.iconst 0, 0, 0, [])] (pc1 := 514) (ls1 := [some (vm_r 902), some (vm_r 0), some (vm_r 96), some (vm_i v3), w4, none, w6, none]) (st1 := [vm_i 0]) (m1 := m5) (ob := true) (by decide +kernel) rfl rfl ?_
        exact vm_gr (r := some (vm_i 0)) (i := (.ireturn, 2, 0, [])) (len := 1) (by decide +kernel) rfl rfl (by decide) ⟨_, rfl, h⟩
    · replace h := h.2 c5
      refine vm_gp [(.iconst 1, 0, 0, []), (.goto 0, 507, 0, [])] (pc1 := 507) (ls1 := [some (vm_r 902), some (vm_r 0), some (vm_r 96), some (vm_i v3), w4, none, w6, none]) (st1 := [vm_i 1, vm_r 96, vm_i z4]) (m1 := m4) (ob := true) (by decide +kernel) rfl rfl ?_
      refine vm_gc (g := 228) (na := 2) (av := [vm_r 96, vm_i 1]) (rest := [vm_i z4]) (i := (.invokevirtual 0, 228, 2, [])) (len := 3) (by decide +kernel) rfl rfl rfl (by decide +kernel) (by decide +kernel) rfl rfl (vm_u (vm_okh_v (c := 11) (by decide +kernel) (by decide +kernel)) (show vm_okn 228 2 1 0 0 2 = true by decide +kernel)) ?_
      refine vm_G.mono h ?_
      rintro _ m6 ⟨z6, rfl, h⟩
      show vm_G 301 510 [some (vm_r 902), some (vm_r 0), some (vm_r 96), some (vm_i v3), w4, none, w6, none] [vm_i z6, vm_i z4] m6 _
      refine vm_gj (c := z4 = z6) (t := 1673) (e := 513) (i := (.if_icmp .eq 0, 1673, 0, [])) (len := 3) (st1 := []) (by decide +kernel) rfl rfl (fun c7 => ?_) (fun c7 => ?_)
      · replace h := h.1 c7
        exact h
      · replace h := h.2 c7
        refine vm_gp [(.iconst 0, 0, 0, [])] (pc1 := 514) (ls1 := [some (vm_r 902), some (vm_r 0), some (vm_r 96), some (vm_i v3), w4, none, w6, none]) (st1 := [vm_i 0]) (m1 := m6) (ob := true) (by decide +kernel) rfl rfl ?_
        exact vm_gr (r := some (vm_i 0)) (i := (.ireturn, 2, 0, [])) (len := 1) (by decide +kernel) rfl rfl (by decide) ⟨_, rfl, h⟩
set_option maxRecDepth 20000 in
theorem ruL_law_515 {v3 : Int} {w4 : Option vm_V} {w6 : Option vm_V} {m : vm_M} {Q : Int → vm_M → Prop}  (h :
    ((vm_32 (v3 + 1)) ∧ (0 ≤ (v3 + 1) ∧ (v3 + 1) < (m 903 0)) ∧ (vm_32 (v3 + 2)) ∧ (0 ≤ (v3 + 2) ∧ (v3 + 2) < (m 903 0))) ∧
    (vm_C 110 [vm_r 0, vm_i (m 902 (v3 + 1)), vm_i (m 902 (v3 + 2))] m (vm_qi (fun z1 m1 =>
      ((vm_32 (v3 + 1)) ∧ (0 ≤ (v3 + 1) ∧ (v3 + 1) < (m1 903 0)) ∧ (vm_32 (v3 + 2)) ∧ (0 ≤ (v3 + 2) ∧ (v3 + 2) < (m1 903 0))) ∧
      (vm_C 230 [vm_r 96, vm_i (m1 902 (v3 + 1)), vm_i (m1 902 (v3 + 2))] m1 (vm_qi (fun z2 m2 =>
        ((z1 = z2 →
          kuL_law_1673 v3 w4 w6 m2 Q) ∧ (¬ z1 = z2 →
          Q 0 m2))))))))) : kuL_law_515 v3 w4 w6 m Q := by
  show vm_G 301 515 [some (vm_r 902), some (vm_r 0), some (vm_r 96), some (vm_i v3), w4, none, w6, none] [] m (vm_qi Q)
  obtain ⟨⟨o1_0, o1_1, o1_2, o1_3⟩, h⟩ := h
  refine vm_gp [(.aload 1, 0, 0, []), (.aload 0, 0, 0, []), (.iload 3, 0, 0, []), (.iconst 1, 0, 0, []), (.iadd, 0, 0, []), (.iaload, 0, 0, []), (.aload 0, 0, 0, []), (.iload 3, 0, 0, []), (.iconst 2, 0, 0, []), (.iadd, 0, 0, []), (.iaload, 0, 0, [])] (pc1 := 526) (ls1 := [some (vm_r 902), some (vm_r 0), some (vm_r 96), some (vm_i v3), w4, none, w6, none]) (st1 := [vm_i (m 902 (v3 + 2)), vm_i (m 902 (v3 + 1)), vm_r 0]) (m1 := m) (ob := ((((((true && decide (vm_32 (v3 + 1))) && decide ((902 : Nat) = 902)) && decide (0 ≤ (v3 + 1) ∧ (v3 + 1) < (m 903 0))) && decide (vm_32 (v3 + 2))) && decide ((902 : Nat) = 902)) && decide (0 ≤ (v3 + 2) ∧ (v3 + 2) < (m 903 0)))) (by decide +kernel) rfl (vm_t (vm_t (vm_t (vm_t (vm_t (vm_t rfl o1_0) rfl) o1_1) o1_2) rfl) o1_3) ?_
  refine vm_gc (g := 110) (na := 3) (av := [vm_r 0, vm_i (m 902 (v3 + 1)), vm_i (m 902 (v3 + 2))]) (rest := []) (i := (.invokevirtual 0, 110, 3, [])) (len := 3) (by decide +kernel) rfl rfl rfl (by decide +kernel) (by decide +kernel) rfl rfl (vm_u (vm_okh_v (c := 10) (by decide +kernel) (by decide +kernel)) (show vm_okn 110 3 0 0 0 3 = true by decide +kernel)) ?_
  refine vm_G.mono h ?_
  rintro _ m1 ⟨z1, rfl, h⟩
  show vm_G 301 529 [some (vm_r 902), some (vm_r 0), some (vm_r 96), some (vm_i v3), w4, none, w6, none] [vm_i z1] m1 _
  obtain ⟨⟨o2_0, o2_1, o2_2, o2_3⟩, h⟩ := h
  refine vm_gp [(.aload 2, 0, 0, []), (.aload 0, 0, 0, []), (.iload 3, 0, 0, []), (.iconst 1, 0, 0, []), (.iadd, 0, 0, []), (.iaload, 0, 0, []), (.aload 0, 0, 0, []), (.iload 3, 0, 0, []), (.iconst 2, 0, 0, []), (.iadd, 0, 0, []), (.iaload, 0, 0, [])] (pc1 := 540) (ls1 := [some (vm_r 902), some (vm_r 0), some (vm_r 96), some (vm_i v3), w4, none, w6, none]) (st1 := [vm_i (m1 902 (v3 + 2)), vm_i (m1 902 (v3 + 1)), vm_r 96, vm_i z1]) (m1 := m1) (ob := ((((((true && decide (vm_32 (v3 + 1))) && decide ((902 : Nat) = 902)) && decide (0 ≤ (v3 + 1) ∧ (v3 + 1) < (m1 903 0))) && decide (vm_32 (v3 + 2))) && decide ((902 : Nat) = 902)) && decide (0 ≤ (v3 + 2) ∧ (v3 + 2) < (m1 903 0)))) (by decide +kernel) rfl (vm_t (vm_t (vm_t (vm_t (vm_t (vm_t rfl o2_0) rfl) o2_1) o2_2) rfl) o2_3) ?_
  refine vm_gc (g := 230) (na := 3) (av := [vm_r 96, vm_i (m1 902 (v3 + 1)), vm_i (m1 902 (v3 + 2))]) (rest := [vm_i z1]) (i := (.invokevirtual 0, 230, 3, [])) (len := 3) (by decide +kernel) rfl rfl rfl (by decide +kernel) (by decide +kernel) rfl rfl (vm_u (vm_okh_v (c := 11) (by decide +kernel) (by decide +kernel)) (show vm_okn 230 3 1 0 0 3 = true by decide +kernel)) ?_
  refine vm_G.mono h ?_
  rintro _ m2 ⟨z2, rfl, h⟩
  show vm_G 301 543 [some (vm_r 902), some (vm_r 0), some (vm_r 96), some (vm_i v3), w4, none, w6, none] [vm_i z2, vm_i z1] m2 _
  refine vm_gj (c := z1 = z2) (t := 1673) (e := 546) (i := (.if_icmp .eq 0, 1673, 0, [])) (len := 3) (st1 := []) (by decide +kernel) rfl rfl (fun c1 => ?_) (fun c1 => ?_)
  · replace h := h.1 c1
    exact h
  · replace h := h.2 c1
    refine vm_gp [(.iconst 0, 0, 0, [])] (pc1 := 547) (ls1 := [some (vm_r 902), some (vm_r 0), some (vm_r 96), some (vm_i v3), w4, none, w6, none]) (st1 := [vm_i 0]) (m1 := m2) (ob := true) (by decide +kernel) rfl rfl ?_
    exact vm_gr (r := some (vm_i 0)) (i := (.ireturn, 2, 0, [])) (len := 1) (by decide +kernel) rfl rfl (by decide) ⟨_, rfl, h⟩
set_option maxRecDepth 20000 in
theorem ruL_law_548 {v3 : Int} {w4 : Option vm_V} {w6 : Option vm_V} {m : vm_M} {Q : Int → vm_M → Prop}  (h :
    ((vm_32 (v3 + 1)) ∧ (0 ≤ (v3 + 1) ∧ (v3 + 1) < (m 903 0))) ∧
    (vm_C 111 [vm_r 0, vm_i (m 902 (v3 + 1))] m (vm_qi (fun z1 m1 =>
      ((vm_32 (v3 + 1)) ∧ (0 ≤ (v3 + 1) ∧ (v3 + 1) < (m1 903 0))) ∧
      (vm_C 231 [vm_r 96, vm_i (m1 902 (v3 + 1))] m1 (vm_qi (fun z2 m2 =>
        ((z1 = z2 →
          kuL_law_1673 v3 w4 w6 m2 Q) ∧ (¬ z1 = z2 →
          Q 0 m2))))))))) : kuL_law_548 v3 w4 w6 m Q := by
  show vm_G 301 548 [some (vm_r 902), some (vm_r 0), some (vm_r 96), some (vm_i v3), w4, none, w6, none] [] m (vm_qi Q)
  obtain ⟨⟨o1_0, o1_1⟩, h⟩ := h
  refine vm_gp [(.aload 1, 0, 0, []), (.aload 0, 0, 0, []), (.iload 3, 0, 0, []), (.iconst 1, 0, 0, []), (.iadd, 0, 0, []), (.iaload, 0, 0, [])] (pc1 := 554) (ls1 := [some (vm_r 902), some (vm_r 0), some (vm_r 96), some (vm_i v3), w4, none, w6, none]) (st1 := [vm_i (m 902 (v3 + 1)), vm_r 0]) (m1 := m) (ob := (((true && decide (vm_32 (v3 + 1))) && decide ((902 : Nat) = 902)) && decide (0 ≤ (v3 + 1) ∧ (v3 + 1) < (m 903 0)))) (by decide +kernel) rfl (vm_t (vm_t (vm_t rfl o1_0) rfl) o1_1) ?_
  refine vm_gc (g := 111) (na := 2) (av := [vm_r 0, vm_i (m 902 (v3 + 1))]) (rest := []) (i := (.invokevirtual 0, 111, 2, [])) (len := 3) (by decide +kernel) rfl rfl rfl (by decide +kernel) (by decide +kernel) rfl rfl (vm_u (vm_okh_v (c := 10) (by decide +kernel) (by decide +kernel)) (show vm_okn 111 2 0 0 0 2 = true by decide +kernel)) ?_
  refine vm_G.mono h ?_
  rintro _ m1 ⟨z1, rfl, h⟩
  show vm_G 301 557 [some (vm_r 902), some (vm_r 0), some (vm_r 96), some (vm_i v3), w4, none, w6, none] [vm_i z1] m1 _
  obtain ⟨⟨o2_0, o2_1⟩, h⟩ := h
  refine vm_gp [(.aload 2, 0, 0, []), (.aload 0, 0, 0, []), (.iload 3, 0, 0, []), (.iconst 1, 0, 0, []), (.iadd, 0, 0, []), (.iaload, 0, 0, [])] (pc1 := 563) (ls1 := [some (vm_r 902), some (vm_r 0), some (vm_r 96), some (vm_i v3), w4, none, w6, none]) (st1 := [vm_i (m1 902 (v3 + 1)), vm_r 96, vm_i z1]) (m1 := m1) (ob := (((true && decide (vm_32 (v3 + 1))) && decide ((902 : Nat) = 902)) && decide (0 ≤ (v3 + 1) ∧ (v3 + 1) < (m1 903 0)))) (by decide +kernel) rfl (vm_t (vm_t (vm_t rfl o2_0) rfl) o2_1) ?_
  refine vm_gc (g := 231) (na := 2) (av := [vm_r 96, vm_i (m1 902 (v3 + 1))]) (rest := [vm_i z1]) (i := (.invokevirtual 0, 231, 2, [])) (len := 3) (by decide +kernel) rfl rfl rfl (by decide +kernel) (by decide +kernel) rfl rfl (vm_u (vm_okh_v (c := 11) (by decide +kernel) (by decide +kernel)) (show vm_okn 231 2 1 0 0 2 = true by decide +kernel)) ?_
  refine vm_G.mono h ?_
  rintro _ m2 ⟨z2, rfl, h⟩
  show vm_G 301 566 [some (vm_r 902), some (vm_r 0), some (vm_r 96), some (vm_i v3), w4, none, w6, none] [vm_i z2, vm_i z1] m2 _
  refine vm_gj (c := z1 = z2) (t := 1673) (e := 569) (i := (.if_icmp .eq 0, 1673, 0, [])) (len := 3) (st1 := []) (by decide +kernel) rfl rfl (fun c1 => ?_) (fun c1 => ?_)
  · replace h := h.1 c1
    exact h
  · replace h := h.2 c1
    refine vm_gp [(.iconst 0, 0, 0, [])] (pc1 := 570) (ls1 := [some (vm_r 902), some (vm_r 0), some (vm_r 96), some (vm_i v3), w4, none, w6, none]) (st1 := [vm_i 0]) (m1 := m2) (ob := true) (by decide +kernel) rfl rfl ?_
    exact vm_gr (r := some (vm_i 0)) (i := (.ireturn, 2, 0, [])) (len := 1) (by decide +kernel) rfl rfl (by decide) ⟨_, rfl, h⟩
set_option maxRecDepth 20000 in
theorem ruL_law_571 {v3 : Int} {w4 : Option vm_V} {w6 : Option vm_V} {m : vm_M} {Q : Int → vm_M → Prop}  (h :
    ((vm_32 (v3 + 1)) ∧ (0 ≤ (v3 + 1) ∧ (v3 + 1) < (m 903 0))) ∧
    (vm_C 112 [vm_r 0, vm_i (m 902 (v3 + 1))] m (vm_qi (fun z1 m1 =>
      ((vm_32 (v3 + 1)) ∧ (0 ≤ (v3 + 1) ∧ (v3 + 1) < (m1 903 0))) ∧
      (vm_C 232 [vm_r 96, vm_i (m1 902 (v3 + 1))] m1 (vm_qi (fun z2 m2 =>
        ((z1 = z2 →
          kuL_law_1673 v3 w4 w6 m2 Q) ∧ (¬ z1 = z2 →
          Q 0 m2))))))))) : kuL_law_571 v3 w4 w6 m Q := by
  show vm_G 301 571 [some (vm_r 902), some (vm_r 0), some (vm_r 96), some (vm_i v3), w4, none, w6, none] [] m (vm_qi Q)
  obtain ⟨⟨o1_0, o1_1⟩, h⟩ := h
  refine vm_gp [(.aload 1, 0, 0, []), (.aload 0, 0, 0, []), (.iload 3, 0, 0, []), (.iconst 1, 0, 0, []), (.iadd, 0, 0, []), (.iaload, 0, 0, [])] (pc1 := 577) (ls1 := [some (vm_r 902), some (vm_r 0), some (vm_r 96), some (vm_i v3), w4, none, w6, none]) (st1 := [vm_i (m 902 (v3 + 1)), vm_r 0]) (m1 := m) (ob := (((true && decide (vm_32 (v3 + 1))) && decide ((902 : Nat) = 902)) && decide (0 ≤ (v3 + 1) ∧ (v3 + 1) < (m 903 0)))) (by decide +kernel) rfl (vm_t (vm_t (vm_t rfl o1_0) rfl) o1_1) ?_
  refine vm_gc (g := 112) (na := 2) (av := [vm_r 0, vm_i (m 902 (v3 + 1))]) (rest := []) (i := (.invokevirtual 0, 112, 2, [])) (len := 3) (by decide +kernel) rfl rfl rfl (by decide +kernel) (by decide +kernel) rfl rfl (vm_u (vm_okh_v (c := 10) (by decide +kernel) (by decide +kernel)) (show vm_okn 112 2 0 0 0 2 = true by decide +kernel)) ?_
  refine vm_G.mono h ?_
  rintro _ m1 ⟨z1, rfl, h⟩
  show vm_G 301 580 [some (vm_r 902), some (vm_r 0), some (vm_r 96), some (vm_i v3), w4, none, w6, none] [vm_i z1] m1 _
  obtain ⟨⟨o2_0, o2_1⟩, h⟩ := h
  refine vm_gp [(.aload 2, 0, 0, []), (.aload 0, 0, 0, []), (.iload 3, 0, 0, []), (.iconst 1, 0, 0, []), (.iadd, 0, 0, []), (.iaload, 0, 0, [])] (pc1 := 586) (ls1 := [some (vm_r 902), some (vm_r 0), some (vm_r 96), some (vm_i v3), w4, none, w6, none]) (st1 := [vm_i (m1 902 (v3 + 1)), vm_r 96, vm_i z1]) (m1 := m1) (ob := (((true && decide (vm_32 (v3 + 1))) && decide ((902 : Nat) = 902)) && decide (0 ≤ (v3 + 1) ∧ (v3 + 1) < (m1 903 0)))) (by decide +kernel) rfl (vm_t (vm_t (vm_t rfl o2_0) rfl) o2_1) ?_
  refine vm_gc (g := 232) (na := 2) (av := [vm_r 96, vm_i (m1 902 (v3 + 1))]) (rest := [vm_i z1]) (i := (.invokevirtual 0, 232, 2, [])) (len := 3) (by decide +kernel) rfl rfl rfl (by decide +kernel) (by decide +kernel) rfl rfl (vm_u (vm_okh_v (c := 11) (by decide +kernel) (by decide +kernel)) (show vm_okn 232 2 1 0 0 2 = true by decide +kernel)) ?_
  refine vm_G.mono h ?_
  rintro _ m2 ⟨z2, rfl, h⟩
  show vm_G 301 589 [some (vm_r 902), some (vm_r 0), some (vm_r 96), some (vm_i v3), w4, none, w6, none] [vm_i z2, vm_i z1] m2 _
  refine vm_gj (c := z1 = z2) (t := 1673) (e := 592) (i := (.if_icmp .eq 0, 1673, 0, [])) (len := 3) (st1 := []) (by decide +kernel) rfl rfl (fun c1 => ?_) (fun c1 => ?_)
  · replace h := h.1 c1
    exact h
  · replace h := h.2 c1
    refine vm_gp [(.iconst 0, 0, 0, [])] (pc1 := 593) (ls1 := [some (vm_r 902), some (vm_r 0), some (vm_r 96), some (vm_i v3), w4, none, w6, none]) (st1 := [vm_i 0]) (m1 := m2) (ob := true) (by decide +kernel) rfl rfl ?_
    exact vm_gr (r := some (vm_i 0)) (i := (.ireturn, 2, 0, [])) (len := 1) (by decide +kernel) rfl rfl (by decide) ⟨_, rfl, h⟩
set_option maxRecDepth 20000 in
theorem ruL_law_594 {v3 : Int} {w4 : Option vm_V} {w6 : Option vm_V} {m : vm_M} {Q : Int → vm_M → Prop}  (h :
    (vm_C 113 [vm_r 0] m (vm_qi (fun z1 m1 =>
      (vm_C 222 [vm_r 96] m1 (vm_qi (fun z2 m2 =>
        ((z1 = z2 →
          kuL_law_1673 v3 w4 w6 m2 Q) ∧ (¬ z1 = z2 →
          Q 0 m2))))))))) : kuL_law_594 v3 w4 w6 m Q := by
  show vm_G 301 594 [some (vm_r 902), some (vm_r 0), some (vm_r 96), some (vm_i v3), w4, none, w6, none] [] m (vm_qi Q)
  refine vm_gp [(.aload 1, 0, 0, [])] (pc1 := 595) (ls1 := [some (vm_r 902), some (vm_r 0), some (vm_r 96), some (vm_i v3), w4, none, w6, none]) (st1 := [vm_r 0]) (m1 := m) (ob := true) (by decide +kernel) rfl rfl ?_
  refine vm_gc (g := 113) (na := 1) (av := [vm_r 0]) (rest := []) (i := (.invokevirtual 0, 113, 1, [])) (len := 3) (by decide +kernel) rfl rfl rfl (by decide +kernel) (by decide +kernel) rfl rfl (vm_u (vm_okh_v (c := 10) (by decide +kernel) (by decide +kernel)) (show vm_okn 113 1 0 0 0 1 = true by decide +kernel)) ?_
  refine vm_G.mono h ?_
  rintro _ m1 ⟨z1, rfl, h⟩
  show vm_G 301 598 [some (vm_r 902), some (vm_r 0), some (vm_r 96), some (vm_i v3), w4, none, w6, none] [vm_i z1] m1 _
  refine vm_gp [(.aload 2, 0, 0, [])] (pc1 := 599) (ls1 := [some (vm_r 902), some (vm_r 0), some (vm_r 96), some (vm_i v3), w4, none, w6, none]) (st1 := [vm_r 96, vm_i z1]) (m1 := m1) (ob := true) (by decide +kernel) rfl rfl ?_
  refine vm_gc (g := 222) (na := 1) (av := [vm_r 96]) (rest := [vm_i z1]) (i := (.invokevirtual 0, 222, 1, [])) (len := 3) (by decide +kernel) rfl rfl rfl (by decide +kernel) (by decide +kernel) rfl rfl (vm_u (vm_okh_v (c := 11) (by decide +kernel) (by decide +kernel)) (show vm_okn 222 1 1 0 0 1 = true by decide +kernel)) ?_
  refine vm_G.mono h ?_
  rintro _ m2 ⟨z2, rfl, h⟩
  show vm_G 301 602 [some (vm_r 902), some (vm_r 0), some (vm_r 96), some (vm_i v3), w4, none, w6, none] [vm_i z2, vm_i z1] m2 _
  refine vm_gj (c := z1 = z2) (t := 1673) (e := 605) (i := (.if_icmp .eq 0, 1673, 0, [])) (len := 3) (st1 := []) (by decide +kernel) rfl rfl (fun c1 => ?_) (fun c1 => ?_)
  · replace h := h.1 c1
    exact h
  · replace h := h.2 c1
    refine vm_gp [(.iconst 0, 0, 0, [])] (pc1 := 606) (ls1 := [some (vm_r 902), some (vm_r 0), some (vm_r 96), some (vm_i v3), w4, none, w6, none]) (st1 := [vm_i 0]) (m1 := m2) (ob := true) (by decide +kernel) rfl rfl ?_
    exact vm_gr (r := some (vm_i 0)) (i := (.ireturn, 2, 0, [])) (len := 1) (by decide +kernel) rfl rfl (by decide) ⟨_, rfl, h⟩
set_option maxRecDepth 20000 in
theorem ruL_law_607 {v3 : Int} {w4 : Option vm_V} {w6 : Option vm_V} {m : vm_M} {Q : Int → vm_M → Prop}  (h :
    ((vm_32 (v3 + 1)) ∧ (0 ≤ (v3 + 1) ∧ (v3 + 1) < (m 903 0))) ∧
    (vm_C 115 [vm_r 0, vm_i (m 902 (v3 + 1))] m (vm_qi (fun z1 m1 =>
      ((vm_32 (v3 + 1)) ∧ (0 ≤ (v3 + 1) ∧ (v3 + 1) < (m1 903 0))) ∧
      (vm_C 237 [vm_r 96, vm_i (m1 902 (v3 + 1))] m1 (vm_qi (fun z2 m2 =>
        ((z1 = z2 →
          kuL_law_1673 v3 w4 w6 m2 Q) ∧ (¬ z1 = z2 →
          Q 0 m2))))))))) : kuL_law_607 v3 w4 w6 m Q := by
  show vm_G 301 607 [some (vm_r 902), some (vm_r 0), some (vm_r 96), some (vm_i v3), w4, none, w6, none] [] m (vm_qi Q)
  obtain ⟨⟨o1_0, o1_1⟩, h⟩ := h
  refine vm_gp [(.aload 1, 0, 0, []), (.aload 0, 0, 0, []), (.iload 3, 0, 0, []), (.iconst 1, 0, 0, []), (.iadd, 0, 0, []), (.iaload, 0, 0, [])] (pc1 := 613) (ls1 := [some (vm_r 902), some (vm_r 0), some (vm_r 96), some (vm_i v3), w4, none, w6, none]) (st1 := [vm_i (m 902 (v3 + 1)), vm_r 0]) (m1 := m) (ob := (((true && decide (vm_32 (v3 + 1))) && decide ((902 : Nat) = 902)) && decide (0 ≤ (v3 + 1) ∧ (v3 + 1) < (m 903 0)))) (by decide +kernel) rfl (vm_t (vm_t (vm_t rfl o1_0) rfl) o1_1) ?_
  refine vm_gc (g := 115) (na := 2) (av := [vm_r 0, vm_i (m 902 (v3 + 1))]) (rest := []) (i := (.invokevirtual 0, 115, 2, [])) (len := 3) (by decide +kernel) rfl rfl rfl (by decide +kernel) (by decide +kernel) rfl rfl (vm_u (vm_okh_v (c := 10) (by decide +kernel) (by decide +kernel)) (show vm_okn 115 2 0 0 0 2 = true by decide +kernel)) ?_
  refine vm_G.mono h ?_
  rintro _ m1 ⟨z1, rfl, h⟩
  show vm_G 301 616 [some (vm_r 902), some (vm_r 0), some (vm_r 96), some (vm_i v3), w4, none, w6, none] [vm_i z1] m1 _
  obtain ⟨⟨o2_0, o2_1⟩, h⟩ := h
  refine vm_gp [(.aload 2, 0, 0, []), (.aload 0, 0, 0, []), (.iload 3, 0, 0, []), (.iconst 1, 0, 0, []), (.iadd, 0, 0, []), (.iaload, 0, 0, [])] (pc1 := 622) (ls1 := [some (vm_r 902), some (vm_r 0), some (vm_r 96), some (vm_i v3), w4, none, w6, none]) (st1 := [vm_i (m1 902 (v3 + 1)), vm_r 96, vm_i z1]) (m1 := m1) (ob := (((true && decide (vm_32 (v3 + 1))) && decide ((902 : Nat) = 902)) && decide (0 ≤ (v3 + 1) ∧ (v3 + 1) < (m1 903 0)))) (by decide +kernel) rfl (vm_t (vm_t (vm_t rfl o2_0) rfl) o2_1) ?_
  refine vm_gc (g := 237) (na := 2) (av := [vm_r 96, vm_i (m1 902 (v3 + 1))]) (rest := [vm_i z1]) (i := (.invokevirtual 0, 237, 2, [])) (len := 3) (by decide +kernel) rfl rfl rfl (by decide +kernel) (by decide +kernel) rfl rfl (vm_u (vm_okh_v (c := 11) (by decide +kernel) (by decide +kernel)) (show vm_okn 237 2 1 0 0 2 = true by decide +kernel)) ?_
  refine vm_G.mono h ?_
  rintro _ m2 ⟨z2, rfl, h⟩
  show vm_G 301 625 [some (vm_r 902), some (vm_r 0), some (vm_r 96), some (vm_i v3), w4, none, w6, none] [vm_i z2, vm_i z1] m2 _
  refine vm_gj (c := z1 = z2) (t := 1673) (e := 628) (i := (.if_icmp .eq 0, 1673, 0, [])) (len := 3) (st1 := []) (by decide +kernel) rfl rfl (fun c1 => ?_) (fun c1 => ?_)
  · replace h := h.1 c1
    exact h
  · replace h := h.2 c1
    refine vm_gp [(.iconst 0, 0, 0, [])] (pc1 := 629) (ls1 := [some (vm_r 902), some (vm_r 0), some (vm_r 96), some (vm_i v3), w4, none, w6, none]) (st1 := [vm_i 0]) (m1 := m2) (ob := true) (by decide +kernel) rfl rfl ?_
    exact vm_gr (r := some (vm_i 0)) (i := (.ireturn, 2, 0, [])) (len := 1) (by decide +kernel) rfl rfl (by decide) ⟨_, rfl, h⟩
set_option maxRecDepth 20000 in
theorem ruL_law_630 {v3 : Int} {w4 : Option vm_V} {w6 : Option vm_V} {m : vm_M} {Q : Int → vm_M → Prop}  (h :
    ((vm_32 (v3 + 1)) ∧ (0 ≤ (v3 + 1) ∧ (v3 + 1) < (m 903 0)) ∧ (vm_32 (v3 + 2)) ∧ (0 ≤ (v3 + 2) ∧ (v3 + 2) < (m 903 0))) ∧
    (((m 902 (v3 + 2)) = 0 →
      ((vm_32 (v3 + 3)) ∧ (0 ≤ (v3 + 3) ∧ (v3 + 3) < (m 903 0))) ∧
      (vm_C 116 [vm_r 0, vm_i (m 902 (v3 + 1)), vm_i 0, vm_i (m 902 (v3 + 3))] m (vm_qi (fun z1 m1 =>
        ((vm_32 (v3 + 1)) ∧ (0 ≤ (v3 + 1) ∧ (v3 + 1) < (m1 903 0)) ∧ (vm_32 (v3 + 2)) ∧ (0 ≤ (v3 + 2) ∧ (v3 + 2) < (m1 903 0))) ∧
        (((m1 902 (v3 + 2)) = 0 →
          ((vm_32 (v3 + 3)) ∧ (0 ≤ (v3 + 3) ∧ (v3 + 3) < (m1 903 0))) ∧
          (vm_C 238 [vm_r 96, vm_i (m1 902 (v3 + 1)), vm_i 0, vm_i (m1 902 (v3 + 3))] m1 (vm_qi (fun z2 m2 =>
            ((z1 = z2 →
              kuL_law_1673 v3 w4 w6 m2 Q) ∧ (¬ z1 = z2 →
              Q 0 m2)))))) ∧ (¬ (m1 902 (v3 + 2)) = 0 →
          ((vm_32 (v3 + 3)) ∧ (0 ≤ (v3 + 3) ∧ (v3 + 3) < (m1 903 0))) ∧
          (vm_C 238 [vm_r 96, vm_i (m1 902 (v3 + 1)), vm_i 1, vm_i (m1 902 (v3 + 3))] m1 (vm_qi (fun z3 m3 =>
            ((z1 = z3 →
              kuL_law_1673 v3 w4 w6 m3 Q) ∧ (¬ z1 = z3 →
              Q 0 m3))))))))))) ∧ (¬ (m 902 (v3 + 2)) = 0 →
      ((vm_32 (v3 + 3)) ∧ (0 ≤ (v3 + 3) ∧ (v3 + 3) < (m 903 0))) ∧
      (vm_C 116 [vm_r 0, vm_i (m 902 (v3 + 1)), vm_i 1, vm_i (m 902 (v3 + 3))] m (vm_qi (fun z4 m4 =>
        ((vm_32 (v3 + 1)) ∧ (0 ≤ (v3 + 1) ∧ (v3 + 1) < (m4 903 0)) ∧ (vm_32 (v3 + 2)) ∧ (0 ≤ (v3 + 2) ∧ (v3 + 2) < (m4 903 0))) ∧
        (((m4 902 (v3 + 2)) = 0 →
          ((vm_32 (v3 + 3)) ∧ (0 ≤ (v3 + 3) ∧ (v3 + 3) < (m4 903 0))) ∧
          (vm_C 238 [vm_r 96, vm_i (m4 902 (v3 + 1)), vm_i 0, vm_i (m4 902 (v3 + 3))] m4 (vm_qi (fun z5 m5 =>
            ((z4 = z5 →
              kuL_law_1673 v3 w4 w6 m5 Q) ∧ (¬ z4 = z5 →
              Q 0 m5)))))) ∧ (¬ (m4 902 (v3 + 2)) = 0 →
          ((vm_32 (v3 + 3)) ∧ (0 ≤ (v3 + 3) ∧ (v3 + 3) < (m4 903 0))) ∧
          (vm_C 238 [vm_r 96, vm_i (m4 902 (v3 + 1)), vm_i 1, vm_i (m4 902 (v3 + 3))] m4 (vm_qi (fun z6 m6 =>
            ((z4 = z6 →
              kuL_law_1673 v3 w4 w6 m6 Q) ∧ (¬ z4 = z6 →
              Q 0 m6))))))))))))) : kuL_law_630 v3 w4 w6 m Q := by
  show vm_G 301 630 [some (vm_r 902), some (vm_r 0), some (vm_r 96), some (vm_i v3), w4, none, w6, none] [] m (vm_qi Q)
  obtain ⟨⟨o1_0, o1_1, o1_2, o1_3⟩, h⟩ := h
  refine vm_gp [(.aload 1, 0, 0, []), (.aload 0, 0, 0, []), (.iload 3, 0, 0, []), (.iconst 1, 0, 0, []), (.iadd, 0, 0, []), (.iaload, 0, 0, []), (.aload 0, 0, 0, []), (.iload 3, 0, 0, []), (.iconst 2, 0, 0, []), (.iadd, 0, 0, []), (.iaload, 0, 0, [])] (pc1 := 641) (ls1 := [some (vm_r 902), some (vm_r 0), some (vm_r 96), some (vm_i v3), w4, none, w6, none]) (st1 := [vm_i (m 902 (v3 + 2)), vm_i (m 902 (v3 + 1)), vm_r 0]) (m1 := m) (ob := ((((((true && decide (vm_32 (v3 + 1))) && decide ((902 : Nat) = 902)) && decide (0 ≤ (v3 + 1) ∧ (v3 + 1) < (m 903 0))) && decide (vm_32 (v3 + 2))) && decide ((902 : Nat) = 902)) && decide (0 ≤ (v3 + 2) ∧ (v3 + 2) < (m 903 0)))) (by decide +kernel) rfl (vm_t (vm_t (vm_t (vm_t (vm_t (vm_t rfl o1_0) rfl) o1_1) o1_2) rfl) o1_3) ?_
  refine vm_gj (c := (m 902 (v3 + 2)) = 0) (t := 648) (e := 644) (i := (.ifCond .eq 0, 648, 0, [])) (len := 3) (st1 := [vm_i (m 902 (v3 + 1)), vm_r 0]) (by decide +kernel) rfl rfl (fun c1 => ?_) (fun c1 => ?_)
  · replace h := h.1 c1
    obtain ⟨⟨o2_0, o2_1⟩, h⟩ := h
    refine vm_gp [(.iconst 0, 0, 0, []), (.aload 0, 0, 0, []), (.iload 3, 0, 0, []), (.iconst 3, 0, 0, []), (.iadd, 0, 0, []), (.iaload, 0, 0, [])] (pc1 := 654) (ls1 := [some (vm_r 902), some (vm_r 0), some (vm_r 96), some (vm_i v3), w4, none, w6, none]) (st1 := [vm_i (m 902 (v3 + 3)), vm_i 0, vm_i (m 902 (v3 + 1)), vm_r 0]) (m1 := m) (ob := (((true && decide (vm_32 (v3 + 3))) && decide ((902 : Nat) = 902)) && decide (0 ≤ (v3 + 3) ∧ (v3 + 3) < (m 903 0)))) (by decide +kernel) rfl (vm_t (vm_t (vm_t rfl o2_0) rfl) o2_1) ?_
    refine vm_gc (g := 116) (na := 4) (av := [vm_r 0, vm_i (m 902 (v3 + 1)), vm_i 0, vm_i (m 902 (v3 + 3))]) (rest := []) (i := (.invokevirtual 0, 116, 4, [])) (len := 3) (by decide +kernel) rfl rfl rfl (by decide +kernel) (by decide +kernel) rfl rfl (vm_u (vm_okh_v (c := 10) (by decide +kernel) (by decide +kernel)) (show vm_okn 116 4 0 0 0 4 = true by decide +kernel)) ?_
    refine vm_G.mono h ?_
    rintro _ m1 ⟨z1, rfl, h⟩
    show vm_G 301 657 [some (vm_r 902), some (vm_r 0), some (vm_r 96), some (vm_i v3), w4, none, w6, none] [vm_i z1] m1 _
    obtain ⟨⟨o3_0, o3_1, o3_2, o3_3⟩, h⟩ := h
    refine vm_gp [(.aload 2, 0, 0, []), (.aload 0, 0, 0, []), (.iload 3, 0, 0, []), (.iconst 1, 0, 0, []), (.iadd, 0, 0, []), (.iaload, 0, 0, []), (.aload 0, 0, 0, []), (.iload 3, 0, 0, []), (.iconst 2, 0, 0, []), (.iadd, 0, 0, []), (.iaload, 0, 0, [])] (pc1 := 668) (ls1 := [some (vm_r 902), some (vm_r 0), some (vm_r 96), some (vm_i v3), w4, none, w6, none]) (st1 := [vm_i (m1 902 (v3 + 2)), vm_i (m1 902 (v3 + 1)), vm_r 96, vm_i z1]) (m1 := m1) (ob := ((((((true && decide (vm_32 (v3 + 1))) && decide ((902 : Nat) = 902)) && decide (0 ≤ (v3 + 1) ∧ (v3 + 1) < (m1 903 0))) && decide (vm_32 (v3 + 2))) && decide ((902 : Nat) = 902)) && decide (0 ≤ (v3 + 2) ∧ (v3 + 2) < (m1 903 0)))) (by decide +kernel) rfl (vm_t (vm_t (vm_t (vm_t (vm_t (vm_t rfl o3_0) rfl) o3_1) o3_2) rfl) o3_3) ?_
    refine vm_gj (c := (m1 902 (v3 + 2)) = 0) (t := 675) (e := 671) (i := (.ifCond .eq 0, 675, 0, [])) (len := 3) (st1 := [vm_i (m1 902 (v3 + 1)), vm_r 96, vm_i z1]) (by decide +kernel) rfl rfl (fun c2 => ?_) (fun c2 => ?_)
    · replace h := h.1 c2
      obtain ⟨⟨o4_0, o4_1⟩, h⟩ := h
      refine vm_gp [(.iconst 0, 0, 0, []), (.aload 0, 0, 0, []), (.iload 3, 0, 0, []), (.iconst 3, 0, 0, []), (.iadd, 0, 0, []), (.iaload, 0, 0, [])] (pc1 := 681) (ls1 := [some (vm_r 902), some (vm_r 0), some (vm_r 96), some (vm_i v3), w4, none, w6, none]) (st1 := [vm_i (m1 902 (v3 + 3)), vm_i 0, vm_i (m1 902 (v3 + 1)), vm_r 96, vm_i z1]) (m1 := m1) (ob := (((true && decide (vm_32 (v3 + 3))) && decide ((902 : Nat) = 902)) && decide (0 ≤ (v3 + 3) ∧ (v3 + 3) < (m1 903 0)))) (by decide +kernel) rfl (vm_t (vm_t (vm_t rfl o4_0) rfl) o4_1) ?_
      refine vm_gc (g := 238) (na := 4) (av := [vm_r 96, vm_i (m1 902 (v3 + 1)), vm_i 0, vm_i (m1 902 (v3 + 3))]) (rest := [vm_i z1]) (i := (.invokevirtual 0, 238, 4, [])) (len := 3) (by decide +kernel) rfl rfl rfl (by decide +kernel) (by decide +kernel) rfl rfl (vm_u (vm_okh_v (c := 11) (by decide +kernel) (by decide +kernel)) (show vm_okn 238 4 1 0 0 4 = true by decide +kernel)) ?_
      refine vm_G.mono h ?_
      rintro _ m2 ⟨z2, rfl, h⟩
      show vm_G 301 684 [some (vm_r 902), some (vm_r 0), some (vm_r 96), some (vm_i v3), w4, none, w6, none] [vm_i z2, vm_i z1] m2 _
      refine vm_gj (c := z1 = z2) (t := 1673) (e := 687) (i := (.if_icmp .eq 0, 1673, 0, [])) (len := 3) (st1 := []) (by decide +kernel) rfl rfl (fun c3 => ?_) (fun c3 => ?_)
      · replace h := h.1 c3
        exact h
      · replace h := h.2 c3
        refine vm_gp [(.iconst 0, 0, 0, [])] (pc1 := 688) (ls1 := [some (vm_r 902), some (vm_r 0), some (vm_r 96), some (vm_i v3), w4, none, w6, none]) (st1 := [vm_i 0]) (m1 := m2) (ob := true) (by decide +kernel) rfl rfl ?_
        exact vm_gr (r := some (vm_i 0)) (i := (.ireturn, 2, 0, [])) (len := 1) (by decide +kernel) rfl rfl (by decide) ⟨_, rfl, h⟩
    · replace h := h.2 c2
      obtain ⟨⟨o8_0, o8_1⟩, h⟩ := h
      refine vm_gp [(.iconst 1, 0, 0, []), (.goto 0, 676, 0, []), (.aload 0, 0, 0, []), (.iload 3, 0, 0, []), (.iconst 3, 0, 0, []), (.iadd, 0, 0, []), (.iaload, 0, 0, [])] (pc1 := 681) (ls1 := [some (vm_r 902), some (vm_r 0), some (vm_r 96), some (vm_i v3), w4, none, w6, none]) (st1 := [vm_i (m1 902 (v3 + 3)), vm_i 1, vm_i (m1 902 (v3 + 1)), vm_r 96, vm_i z1]) (m1 := m1) (ob := (((true && decide (vm_32 (v3 + 3))) && decide ((902 : Nat) = 902)) && decide (0 ≤ (v3 + 3) ∧ (v3 + 3) < (m1 903 0)))) (by decide +kernel) rfl (vm_t (vm_t (vm_t rfl o8_0) rfl) o8_1) ?_
      refine vm_gc (g := 238) (na := 4) (av := [vm_r 96, vm_i (m1 902 (v3 + 1)), vm_i 1, vm_i (m1 902 (v3 + 3))]) (rest := [vm_i z1]) (i := (.invokevirtual 0, 238, 4, [])) (len := 3) (by decide +kernel) rfl rfl rfl (by decide +kernel) (by decide +kernel) rfl rfl (vm_u (vm_okh_v (c := 11) (by decide +kernel) (by decide +kernel)) (show vm_okn 238 4 1 0 0 4 = true by decide +kernel)) ?_
      refine vm_G.mono h ?_
      rintro _ m3 ⟨z3, rfl, h⟩
      show vm_G 301 684 [some (vm_r 902), some (vm_r 0), some (vm_r 96), some (vm_i v3), w4, none, w6, none] [vm_i z3, vm_i z1] m3 _
      refine vm_gj (c := z1 = z3) (t := 1673) (e := 687) (i := (.if_icmp .eq 0, 1673, 0, [])) (len := 3) (st1 := []) (by decide +kernel) rfl rfl (fun c4 => ?_) (fun c4 => ?_)
      · replace h := h.1 c4
        exact h
      · replace h := h.2 c4
        refine vm_gp [(.iconst 0, 0, 0, [])] (pc1 := 688) (ls1 := [some (vm_r 902), some (vm_r 0), some (vm_r 96), some (vm_i v3), w4, none, w6, none]) (st1 := [vm_i 0]) (m1 := m3) (ob := true) (by decide +kernel) rfl rfl ?_
        exact vm_gr (r := some (vm_i 0)) (i := (.ireturn, 2, 0, [])) (len := 1) (by decide +kernel) rfl rfl (by decide) ⟨_, rfl, h⟩
  · replace h := h.2 c1
    obtain ⟨⟨o12_0, o12_1⟩, h⟩ := h
    refine vm_gp [(.iconst 1, 0, 0, []), (.goto 0, 649, 0, []), (.aload 0, 0, 0, []), (.iload 3, 0, 0, []), (.iconst 3, 0, 0, []), (.iadd, 0, 0, []), (.iaload, 0, 0, [])] (pc1 := 654) (ls1 := [some (vm_r 902), some (vm_r 0), some (vm_r 96), some (vm_i v3), w4, none, w6, none]) (st1 := [vm_i (m 902 (v3 + 3)), vm_i 1, vm_i (m 902 (v3 + 1)), vm_r 0]) (m1 := m) (ob := (((true && decide (vm_32 (v3 + 3))) && decide ((902 : Nat) = 902)) && decide (0 ≤ (v3 + 3) ∧ (v3 + 3) < (m 903 0)))) (by decide +kernel) rfl (vm_t (vm_t (vm_t rfl o12_0) rfl) o12_1) ?_
    refine vm_gc (g := 116) (na := 4) (av := [vm_r 0, vm_i (m 902 (v3 + 1)), vm_i 1, vm_i (m 902 (v3 + 3))]) (rest := []) (i := (.invokevirtual 0, 116, 4, [])) (len := 3) (by decide +kernel) rfl rfl rfl (by decide +kernel) (by decide +kernel) rfl rfl (vm_u (vm_okh_v (c := 10) (by decide +kernel) (by decide +kernel)) (show vm_okn 116 4 0 0 0 4 = true by decide +kernel)) ?_
    refine vm_G.mono h ?_
    rintro _ m4 ⟨z4, rfl, h⟩
    show vm_G 301 657 [some (vm_r 902), some (vm_r 0), some (vm_r 96), some (vm_i v3), w4, none, w6, none] [vm_i z4] m4 _
    obtain ⟨⟨o13_0, o13_1, o13_2, o13_3⟩, h⟩ := h
    refine vm_gp [(.aload 2, 0, 0, []), (.aload 0, 0, 0, []), (.iload 3, 0, 0, []), (.iconst 1, 0, 0, []), (.iadd, 0, 0, []), (.iaload, 0, 0, []), (.aload 0, 0, 0, []), (.iload 3, 0, 0, []), (.iconst 2, 0, 0, []), (.iadd, 0, 0, []), (.iaload, 0, 0, [])] (pc1 := 668) (ls1 := [some (vm_r 902), some (vm_r 0), some (vm_r 96), some (vm_i v3), w4, none, w6, none]) (st1 := [vm_i (m4 902 (v3 + 2)), vm_i (m4 902 (v3 + 1)), vm_r 96, vm_i z4]) (m1 := m4) (ob := ((((((true && decide (vm_32 (v3 + 1))) && decide ((902 : Nat) = 902)) && decide (0 ≤ (v3 + 1) ∧ (v3 + 1) < (m4 903 0))) && decide (vm_32 (v3 + 2))) && decide ((902 : Nat) = 902)) && decide (0 ≤ (v3 + 2) ∧ (v3 + 2) < (m4 903 0)))) (by decide +kernel) rfl (vm_t (vm_t (vm_t (vm_t (vm_t (vm_t rfl o13_0) rfl) o13_1) o13_2) rfl) o13_3) ?_
    refine vm_gj (c := (m4 902 (v3 + 2)) = 0) (t := 675) (e := 671) (i := (.ifCond .eq 0, 675, 0, [])) (len := 3) (st1 := [vm_i (m4 902 (v3 + 1)), vm_r 96, vm_i z4]) (by decide +kernel) rfl rfl (fun c5 => ?_) (fun c5 => ?_)
    · replace h := h.1 c5
      obtain ⟨⟨o14_0, o14_1⟩, h⟩ := h
      refine vm_gp [(.iconst 0, 0, 0, []), (.aload 0, 0, 0, []), (.iload 3, 0, 0, []), (.iconst 3, 0, 0, []), (.iadd, 0, 0, []), (.iaload, 0, 0, [])] (pc1 := 681) (ls1 := [some (vm_r 902), some (vm_r 0), some (vm_r 96), some (vm_i v3), w4, none, w6, none]) (st1 := [vm_i (m4 902 (v3 + 3)), vm_i 0, vm_i (m4 902 (v3 + 1)), vm_r 96, vm_i z4]) (m1 := m4) (ob := (((true && decide (vm_32 (v3 + 3))) && decide ((902 : Nat) = 902)) && decide (0 ≤ (v3 + 3) ∧ (v3 + 3) < (m4 903 0)))) (by decide +kernel) rfl (vm_t (vm_t (vm_t rfl o14_0) rfl) o14_1) ?_
      refine vm_gc (g := 238) (na := 4) (av := [vm_r 96, vm_i (m4 902 (v3 + 1)), vm_i 0, vm_i (m4 902 (v3 + 3))]) (rest := [vm_i z4]) (i := (.invokevirtual 0, 238, 4, [])) (len := 3) (by decide +kernel) rfl rfl rfl (by decide +kernel) (by decide +kernel) rfl rfl (vm_u (vm_okh_v (c := 11) (by decide +kernel) (by decide +kernel)) (show vm_okn 238 4 1 0 0 4 = true by decide +kernel)) ?_
      refine vm_G.mono h ?_
      rintro _ m5 ⟨z5, rfl, h⟩
      show vm_G 301 684 [some (vm_r 902), some (vm_r 0), some (vm_r 96), some (vm_i v3), w4, none, w6, none] [vm_i z5, vm_i z4] m5 _
      refine vm_gj (c := z4 = z5) (t := 1673) (e := 687) (i := (.if_icmp .eq 0, 1673, 0, [])) (len := 3) (st1 := []) (by decide +kernel) rfl rfl (fun c6 => ?_) (fun c6 => ?_)
      · replace h := h.1 c6
        exact h
      · replace h := h.2 c6
        refine vm_gp [(.iconst 0, 0, 0, [])] (pc1 := 688) (ls1 := [some (vm_r 902), some (vm_r 0), some (vm_r 96), some (vm_i v3), w4, none, w6, none]) (st1 := [vm_i 0]) (m1 := m5) (ob := true) (by decide +kernel) rfl rfl ?_
        exact vm_gr (r := some (vm_i 0)) (i := (.ireturn, 2, 0, [])) (len := 1) (by decide +kernel) rfl rfl (by decide) ⟨_, rfl, h⟩
    · replace h := h.2 c5
      obtain ⟨⟨o18_0, o18_1⟩, h⟩ := h
      refine vm_gp [(.iconst 1, 0, 0, []), (.goto 0, 676, 0, []), (.aload 0, 0, 0, []), (.iload 3, 0, 0, []), (.iconst 3, 0, 0, []), (.iadd, 0, 0, []), (.iaload, 0, 0, [])] (pc1 := 681) (ls1 := [some (vm_r 902), some (vm_r 0), some (vm_r 96), some (vm_i v3), w4, none, w6, none]) (st1 := [vm_i (m4 902 (v3 + 3)), vm_i 1, vm_i (m4 902 (v3 + 1)), vm_r 96, vm_i z4]) (m1 := m4) (ob := (((true && decide (vm_32 (v3 + 3))) && decide ((902 : Nat) = 902)) && decide (0 ≤ (v3 + 3) ∧ (v3 + 3) < (m4 903 0)))) (by decide +kernel) rfl (vm_t (vm_t (vm_t rfl o18_0) rfl) o18_1) ?_
      refine vm_gc (g := 238) (na := 4) (av := [vm_r 96, vm_i (m4 902 (v3 + 1)), vm_i 1, vm_i (m4 902 (v3 + 3))]) (rest := [vm_i z4]) (i := (.invokevirtual 0, 238, 4, [])) (len := 3) (by decide +kernel) rfl rfl rfl (by decide +kernel) (by decide +kernel) rfl rfl (vm_u (vm_okh_v (c := 11) (by decide +kernel) (by decide +kernel)) (show vm_okn 238 4 1 0 0 4 = true by decide +kernel)) ?_
      refine vm_G.mono h ?_
      rintro _ m6 ⟨z6, rfl, h⟩
      show vm_G 301 684 [some (vm_r 902), some (vm_r 0), some (vm_r 96), some (vm_i v3), w4, none, w6, none] [vm_i z6, vm_i z4] m6 _
      refine vm_gj (c := z4 = z6) (t := 1673) (e := 687) (i := (.if_icmp .eq 0, 1673, 0, [])) (len := 3) (st1 := []) (by decide +kernel) rfl rfl (fun c7 => ?_) (fun c7 => ?_)
      · replace h := h.1 c7
        exact h
      · replace h := h.2 c7
        refine vm_gp [(.iconst 0, 0, 0, [])] (pc1 := 688) (ls1 := [some (vm_r 902), some (vm_r 0), some (vm_r 96), some (vm_i v3), w4, none, w6, none]) (st1 := [vm_i 0]) (m1 := m6) (ob := true) (by decide +kernel) rfl rfl ?_
        exact vm_gr (r := some (vm_i 0)) (i := (.ireturn, 2, 0, [])) (len := 1) (by decide +kernel) rfl rfl (by decide) ⟨_, rfl, h⟩
set_option maxRecDepth 20000 in
theorem ruL_law_689 {v3 : Int} {w4 : Option vm_V} {w6 : Option vm_V} {m : vm_M} {Q : Int → vm_M → Prop}  (h :
    ((vm_32 (v3 + 1)) ∧ (0 ≤ (v3 + 1) ∧ (v3 + 1) < (m 903 0)) ∧ (vm_32 (v3 + 2)) ∧ (0 ≤ (v3 + 2) ∧ (v3 + 2) < (m 903 0))) ∧
    (vm_C 117 [vm_r 0, vm_i (m 902 (v3 + 1)), vm_i (m 902 (v3 + 2))] m (vm_qi (fun z1 m1 =>
      ((vm_32 (v3 + 1)) ∧ (0 ≤ (v3 + 1) ∧ (v3 + 1) < (m1 903 0)) ∧ (vm_32 (v3 + 2)) ∧ (0 ≤ (v3 + 2) ∧ (v3 + 2) < (m1 903 0))) ∧
      (vm_C 242 [vm_r 96, vm_i (m1 902 (v3 + 1)), vm_i (m1 902 (v3 + 2))] m1 (vm_qi (fun z2 m2 =>
        ((z1 = z2 →
          kuL_law_1673 v3 w4 w6 m2 Q) ∧ (¬ z1 = z2 →
          Q 0 m2))))))))) : kuL_law_689 v3 w4 w6 m Q := by
  show vm_G 301 689 [some (vm_r 902), some (vm_r 0), some (vm_r 96), some (vm_i v3), w4, none, w6, none] [] m (vm_qi Q)
  obtain ⟨⟨o1_0, o1_1, o1_2, o1_3⟩, h⟩ := h
  refine vm_gp [(.aload 1, 0, 0, []), (.aload 0, 0, 0, []), (.iload 3, 0, 0, []), (.iconst 1, 0, 0, []), (.iadd, 0, 0, []), (.iaload, 0, 0, []), (.aload 0, 0, 0, []), (.iload 3, 0, 0, []), (.iconst 2, 0, 0, []), (.iadd, 0, 0, []), (.iaload, 0, 0, [])] (pc1 := 700) (ls1 := [some (vm_r 902), some (vm_r 0), some (vm_r 96), some (vm_i v3), w4, none, w6, none]) (st1 := [vm_i (m 902 (v3 + 2)), vm_i (m 902 (v3 + 1)), vm_r 0]) (m1 := m) (ob := ((((((true && decide (vm_32 (v3 + 1))) && decide ((902 : Nat) = 902)) && decide (0 ≤ (v3 + 1) ∧ (v3 + 1) < (m 903 0))) && decide (vm_32 (v3 + 2))) && decide ((902 : Nat) = 902)) && decide (0 ≤ (v3 + 2) ∧ (v3 + 2) < (m 903 0)))) (by decide +kernel) rfl (vm_t (vm_t (vm_t (vm_t (vm_t (vm_t rfl o1_0) rfl) o1_1) o1_2) rfl) o1_3) ?_
  refine vm_gc (g := 117) (na := 3) (av := [vm_r 0, vm_i (m 902 (v3 + 1)), vm_i (m 902 (v3 + 2))]) (rest := []) (i := (.invokevirtual 0, 117, 3, [])) (len := 3) (by decide +kernel) rfl rfl rfl (by decide +kernel) (by decide +kernel) rfl rfl (vm_u (vm_okh_v (c := 10) (by decide +kernel) (by decide +kernel)) (show vm_okn 117 3 0 0 0 3 = true by decide +kernel)) ?_
  refine vm_G.mono h ?_
  rintro _ m1 ⟨z1, rfl, h⟩
  show vm_G 301 703 [some (vm_r 902), some (vm_r 0), some (vm_r 96), some (vm_i v3), w4, none, w6, none] [vm_i z1] m1 _
  obtain ⟨⟨o2_0, o2_1, o2_2, o2_3⟩, h⟩ := h
  refine vm_gp [(.aload 2, 0, 0, []), (.aload 0, 0, 0, []), (.iload 3, 0, 0, []), (.iconst 1, 0, 0, []), (.iadd, 0, 0, []), (.iaload, 0, 0, []), (.aload 0, 0, 0, []), (.iload 3, 0, 0, []), (.iconst 2, 0, 0, []), (.iadd, 0, 0, []), (.iaload, 0, 0, [])] (pc1 := 714) (ls1 := [some (vm_r 902), some (vm_r 0), some (vm_r 96), some (vm_i v3), w4, none, w6, none]) (st1 := [vm_i (m1 902 (v3 + 2)), vm_i (m1 902 (v3 + 1)), vm_r 96, vm_i z1]) (m1 := m1) (ob := ((((((true && decide (vm_32 (v3 + 1))) && decide ((902 : Nat) = 902)) && decide (0 ≤ (v3 + 1) ∧ (v3 + 1) < (m1 903 0))) && decide (vm_32 (v3 + 2))) && decide ((902 : Nat) = 902)) && decide (0 ≤ (v3 + 2) ∧ (v3 + 2) < (m1 903 0)))) (by decide +kernel) rfl (vm_t (vm_t (vm_t (vm_t (vm_t (vm_t rfl o2_0) rfl) o2_1) o2_2) rfl) o2_3) ?_
  refine vm_gc (g := 242) (na := 3) (av := [vm_r 96, vm_i (m1 902 (v3 + 1)), vm_i (m1 902 (v3 + 2))]) (rest := [vm_i z1]) (i := (.invokevirtual 0, 242, 3, [])) (len := 3) (by decide +kernel) rfl rfl rfl (by decide +kernel) (by decide +kernel) rfl rfl (vm_u (vm_okh_v (c := 11) (by decide +kernel) (by decide +kernel)) (show vm_okn 242 3 1 0 0 3 = true by decide +kernel)) ?_
  refine vm_G.mono h ?_
  rintro _ m2 ⟨z2, rfl, h⟩
  show vm_G 301 717 [some (vm_r 902), some (vm_r 0), some (vm_r 96), some (vm_i v3), w4, none, w6, none] [vm_i z2, vm_i z1] m2 _
  refine vm_gj (c := z1 = z2) (t := 1673) (e := 720) (i := (.if_icmp .eq 0, 1673, 0, [])) (len := 3) (st1 := []) (by decide +kernel) rfl rfl (fun c1 => ?_) (fun c1 => ?_)
  · replace h := h.1 c1
    exact h
  · replace h := h.2 c1
    refine vm_gp [(.iconst 0, 0, 0, [])] (pc1 := 721) (ls1 := [some (vm_r 902), some (vm_r 0), some (vm_r 96), some (vm_i v3), w4, none, w6, none]) (st1 := [vm_i 0]) (m1 := m2) (ob := true) (by decide +kernel) rfl rfl ?_
    exact vm_gr (r := some (vm_i 0)) (i := (.ireturn, 2, 0, [])) (len := 1) (by decide +kernel) rfl rfl (by decide) ⟨_, rfl, h⟩
set_option maxRecDepth 20000 in
theorem ruL_law_722 {v3 : Int} {w4 : Option vm_V} {w6 : Option vm_V} {m : vm_M} {Q : Int → vm_M → Prop}  (h :
    ((vm_32 (v3 + 1)) ∧ (0 ≤ (v3 + 1) ∧ (v3 + 1) < (m 903 0)) ∧ (vm_32 (v3 + 2)) ∧ (0 ≤ (v3 + 2) ∧ (v3 + 2) < (m 903 0)) ∧ (vm_32 (v3 + 3)) ∧ (0 ≤ (v3 + 3) ∧ (v3 + 3) < (m 903 0))) ∧
    (vm_C 118 [vm_r 0, vm_i (m 902 (v3 + 1)), vm_i (m 902 (v3 + 2)), vm_i (m 902 (v3 + 3))] m (vm_qi (fun z1 m1 =>
      ((vm_32 (v3 + 1)) ∧ (0 ≤ (v3 + 1) ∧ (v3 + 1) < (m1 903 0)) ∧ (vm_32 (v3 + 2)) ∧ (0 ≤ (v3 + 2) ∧ (v3 + 2) < (m1 903 0)) ∧ (vm_32 (v3 + 3)) ∧ (0 ≤ (v3 + 3) ∧ (v3 + 3) < (m1 903 0))) ∧
      (vm_C 243 [vm_r 96, vm_i (m1 902 (v3 + 1)), vm_i (m1 902 (v3 + 2)), vm_i (m1 902 (v3 + 3))] m1 (vm_qi (fun z2 m2 =>
        ((z1 = z2 →
          kuL_law_1673 v3 w4 w6 m2 Q) ∧ (¬ z1 = z2 →
          Q 0 m2))))))))) : kuL_law_722 v3 w4 w6 m Q := by
  show vm_G 301 722 [some (vm_r 902), some (vm_r 0), some (vm_r 96), some (vm_i v3), w4, none, w6, none] [] m (vm_qi Q)
  obtain ⟨⟨o1_0, o1_1, o1_2, o1_3, o1_4, o1_5⟩, h⟩ := h
  refine vm_gp [(.aload 1, 0, 0, []), (.aload 0, 0, 0, []), (.iload 3, 0, 0, []), (.iconst 1, 0, 0, []), (.iadd, 0, 0, []), (.iaload, 0, 0, []), (.aload 0, 0, 0, []), (.iload 3, 0, 0, []), (.iconst 2, 0, 0, []), (.iadd, 0, 0, []), (.iaload, 0, 0, []), (.aload 0, 0, 0, []), (.iload 3, 0, 0, []), (.iconst 3, 0, 0, []), (.iadd, 0, 0, []), (.iaload, 0, 0, [])] (pc1 := 738) (ls1 := [some (vm_r 902), some (vm_r 0), some (vm_r 96), some (vm_i v3), w4, none, w6, none]) (st1 := [vm_i (m 902 (v3 + 3)), vm_i (m 902 (v3 + 2)), vm_i (m 902 (v3 + 1)), vm_r 0]) (m1 := m) (ob := (((((((((true && decide (vm_32 (v3 + 1))) && decide ((902 : Nat) = 902)) && decide (0 ≤ (v3 + 1) ∧ (v3 + 1) < (m 903 0))) && decide (vm_32 (v3 + 2))) && decide ((902 : Nat) = 902)) && decide (0 ≤ (v3 + 2) ∧ (v3 + 2) < (m 903 0))) && decide (vm_32 (v3 + 3))) && decide ((902 : Nat) = 902)) && decide (0 ≤ (v3 + 3) ∧ (v3 + 3) < (m 903 0)))) (by decide +kernel) rfl (vm_t (vm_t (vm_t (vm_t (vm_t (vm_t (vm_t (vm_t (vm_t rfl o1_0) rfl) o1_1) o1_2) rfl) o1_3) o1_4) rfl) o1_5) ?_
  refine vm_gc (g := 118) (na := 4) (av := [vm_r 0, vm_i (m 902 (v3 + 1)), vm_i (m 902 (v3 + 2)), vm_i (m 902 (v3 + 3))]) (rest := []) (i := (.invokevirtual 0, 118, 4, [])) (len := 3) (by decide +kernel) rfl rfl rfl (by decide +kernel) (by decide +kernel) rfl rfl (vm_u (vm_okh_v (c := 10) (by decide +kernel) (by decide +kernel)) (show vm_okn 118 4 0 0 0 4 = true by decide +kernel)) ?_
  refine vm_G.mono h ?_
  rintro _ m1 ⟨z1, rfl, h⟩
  show vm_G 301 741 [some (vm_r 902), some (vm_r 0), some (vm_r 96), some (vm_i v3), w4, none, w6, none] [vm_i z1] m1 _
  obtain ⟨⟨o2_0, o2_1, o2_2, o2_3, o2_4, o2_5⟩, h⟩ := h
  refine vm_gp [(.aload 2, 0, 0, []), (.aload 0, 0, 0, []), (.iload 3, 0, 0, []), (.iconst 1, 0, 0, []), (.iadd, 0, 0, []), (.iaload, 0, 0, []), (.aload 0, 0, 0, []), (.iload 3, 0, 0, []), (.iconst 2, 0, 0, []), (.iadd, 0, 0, []), (.iaload, 0, 0, []), (.aload 0, 0, 0, []), (.iload 3, 0, 0, []), (.iconst 3, 0, 0, []), (.iadd, 0, 0, []), (.iaload, 0, 0, [])] (pc1 := 757) (ls1 := [some (vm_r 902), some (vm_r 0), some (vm_r 96), some (vm_i v3), w4, none, w6, none]) (st1 := [vm_i (m1 902 (v3 + 3)), vm_i (m1 902 (v3 + 2)), vm_i (m1 902 (v3 + 1)), vm_r 96, vm_i z1]) (m1 := m1) (ob := (((((((((true && decide (vm_32 (v3 + 1))) && decide ((902 : Nat) = 902)) && decide (0 ≤ (v3 + 1) ∧ (v3 + 1) < (m1 903 0))) && decide (vm_32 (v3 + 2))) && decide ((902 : Nat) = 902)) && decide (0 ≤ (v3 + 2) ∧ (v3 + 2) < (m1 903 0))) && decide (vm_32 (v3 + 3))) && decide ((902 : Nat) = 902)) && decide (0 ≤ (v3 + 3) ∧ (v3 + 3) < (m1 903 0)))) (by decide +kernel) rfl (vm_t (vm_t (vm_t (vm_t (vm_t (vm_t (vm_t (vm_t (vm_t rfl o2_0) rfl) o2_1) o2_2) rfl) o2_3) o2_4) rfl) o2_5) ?_
  refine vm_gc (g := 243) (na := 4) (av := [vm_r 96, vm_i (m1 902 (v3 + 1)), vm_i (m1 902 (v3 + 2)), vm_i (m1 902 (v3 + 3))]) (rest := [vm_i z1]) (i := (.invokevirtual 0, 243, 4, [])) (len := 3) (by decide +kernel) rfl rfl rfl (by decide +kernel) (by decide +kernel) rfl rfl (vm_u (vm_okh_v (c := 11) (by decide +kernel) (by decide +kernel)) (show vm_okn 243 4 1 0 0 4 = true by decide +kernel)) ?_
  refine vm_G.mono h ?_
  rintro _ m2 ⟨z2, rfl, h⟩
  show vm_G 301 760 [some (vm_r 902), some (vm_r 0), some (vm_r 96), some (vm_i v3), w4, none, w6, none] [vm_i z2, vm_i z1] m2 _
  refine vm_gj (c := z1 = z2) (t := 1673) (e := 763) (i := (.if_icmp .eq 0, 1673, 0, [])) (len := 3) (st1 := []) (by decide +kernel) rfl rfl (fun c1 => ?_) (fun c1 => ?_)
  · replace h := h.1 c1
    exact h
  · replace h := h.2 c1
    refine vm_gp [(.iconst 0, 0, 0, [])] (pc1 := 764) (ls1 := [some (vm_r 902), some (vm_r 0), some (vm_r 96), some (vm_i v3), w4, none, w6, none]) (st1 := [vm_i 0]) (m1 := m2) (ob := true) (by decide +kernel) rfl rfl ?_
    exact vm_gr (r := some (vm_i 0)) (i := (.ireturn, 2, 0, [])) (len := 1) (by decide +kernel) rfl rfl (by decide) ⟨_, rfl, h⟩
set_option maxRecDepth 20000 in
theorem ruL_law_765 {v3 : Int} {w4 : Option vm_V} {w6 : Option vm_V} {m : vm_M} {Q : Int → vm_M → Prop}  (h :
    ((vm_32 (v3 + 1)) ∧ (0 ≤ (v3 + 1) ∧ (v3 + 1) < (m 903 0)) ∧ (vm_32 (v3 + 2)) ∧ (0 ≤ (v3 + 2) ∧ (v3 + 2) < (m 903 0)) ∧ (vm_32 (v3 + 3)) ∧ (0 ≤ (v3 + 3) ∧ (v3 + 3) < (m 903 0))) ∧
    (vm_C 119 [vm_r 0, vm_i (m 902 (v3 + 1)), vm_i (m 902 (v3 + 2)), vm_i (m 902 (v3 + 3))] m (vm_qi (fun z1 m1 =>
      ((vm_32 (v3 + 1)) ∧ (0 ≤ (v3 + 1) ∧ (v3 + 1) < (m1 903 0)) ∧ (vm_32 (v3 + 2)) ∧ (0 ≤ (v3 + 2) ∧ (v3 + 2) < (m1 903 0)) ∧ (vm_32 (v3 + 3)) ∧ (0 ≤ (v3 + 3) ∧ (v3 + 3) < (m1 903 0))) ∧
      (vm_C 244 [vm_r 96, vm_i (m1 902 (v3 + 1)), vm_i (m1 902 (v3 + 2)), vm_i (m1 902 (v3 + 3))] m1 (vm_qi (fun z2 m2 =>
        ((z1 = z2 →
          kuL_law_1673 v3 w4 w6 m2 Q) ∧ (¬ z1 = z2 →
          Q 0 m2))))))))) : kuL_law_765 v3 w4 w6 m Q := by
  show vm_G 301 765 [some (vm_r 902), some (vm_r 0), some (vm_r 96), some (vm_i v3), w4, none, w6, none] [] m (vm_qi Q)
  obtain ⟨⟨o1_0, o1_1, o1_2, o1_3, o1_4, o1_5⟩, h⟩ := h
  refine vm_gp [(.aload 1, 0, 0, []), (.aload 0, 0, 0, []), (.iload 3, 0, 0, []), (.iconst 1, 0, 0, []), (.iadd, 0, 0, []), (.iaload, 0, 0, []), (.aload 0, 0, 0, []), (.iload 3, 0, 0, []), (.iconst 2, 0, 0, []), (.iadd, 0, 0, []), (.iaload, 0, 0, []), (.aload 0, 0, 0, []), (.iload 3, 0, 0, []), (.iconst 3, 0, 0, []), (.iadd, 0, 0, []), (.iaload, 0, 0, [])] (pc1 := 781) (ls1 := [some (vm_r 902), some (vm_r 0), some (vm_r 96), some (vm_i v3), w4, none, w6, none]) (st1 := [vm_i (m 902 (v3 + 3)), vm_i (m 902 (v3 + 2)), vm_i (m 902 (v3 + 1)), vm_r 0]) (m1 := m) (ob := (((((((((true && decide (vm_32 (v3 + 1))) && decide ((902 : Nat) = 902)) && decide (0 ≤ (v3 + 1) ∧ (v3 + 1) < (m 903 0))) && decide (vm_32 (v3 + 2))) && decide ((902 : Nat) = 902)) && decide (0 ≤ (v3 + 2) ∧ (v3 + 2) < (m 903 0))) && decide (vm_32 (v3 + 3))) && decide ((902 : Nat) = 902)) && decide (0 ≤ (v3 + 3) ∧ (v3 + 3) < (m 903 0)))) (by decide +kernel) rfl (vm_t (vm_t (vm_t (vm_t (vm_t (vm_t (vm_t (vm_t (vm_t rfl o1_0) rfl) o1_1) o1_2) rfl) o1_3) o1_4) rfl) o1_5) ?_
  refine vm_gc (g := 119) (na := 4) (av := [vm_r 0, vm_i (m 902 (v3 + 1)), vm_i (m 902 (v3 + 2)), vm_i (m 902 (v3 + 3))]) (rest := []) (i := (.invokevirtual 0, 119, 4, [])) (len := 3) (by decide +kernel) rfl rfl rfl (by decide +kernel) (by decide +kernel) rfl rfl (vm_u (vm_okh_v (c := 10) (by decide +kernel) (by decide +kernel)) (show vm_okn 119 4 0 0 0 4 = true by decide +kernel)) ?_
  refine vm_G.mono h ?_
  rintro _ m1 ⟨z1, rfl, h⟩
  show vm_G 301 784 [some (vm_r 902), some (vm_r 0), some (vm_r 96), some (vm_i v3), w4, none, w6, none] [vm_i z1] m1 _
  obtain ⟨⟨o2_0, o2_1, o2_2, o2_3, o2_4, o2_5⟩, h⟩ := h
  refine vm_gp [(.aload 2, 0, 0, []), (.aload 0, 0, 0, []), (.iload 3, 0, 0, []), (.iconst 1, 0, 0, []), (.iadd, 0, 0, []), (.iaload, 0, 0, []), (.aload 0, 0, 0, []), (.iload 3, 0, 0, []), (.iconst 2, 0, 0, []), (.iadd, 0, 0, []), (.iaload, 0, 0, []), (.aload 0, 0, 0, []), (.iload 3, 0, 0, []), (.iconst 3, 0, 0, []), (.iadd, 0, 0, []), (.iaload, 0, 0, [])] (pc1 := 800) (ls1 := [some (vm_r 902), some (vm_r 0), some (vm_r 96), some (vm_i v3), w4, none, w6, none]) (st1 := [vm_i (m1 902 (v3 + 3)), vm_i (m1 902 (v3 + 2)), vm_i (m1 902 (v3 + 1)), vm_r 96, vm_i z1]) (m1 := m1) (ob := (((((((((true && decide (vm_32 (v3 + 1))) && decide ((902 : Nat) = 902)) && decide (0 ≤ (v3 + 1) ∧ (v3 + 1) < (m1 903 0))) && decide (vm_32 (v3 + 2))) && decide ((902 : Nat) = 902)) && decide (0 ≤ (v3 + 2) ∧ (v3 + 2) < (m1 903 0))) && decide (vm_32 (v3 + 3))) && decide ((902 : Nat) = 902)) && decide (0 ≤ (v3 + 3) ∧ (v3 + 3) < (m1 903 0)))) (by decide +kernel) rfl (vm_t (vm_t (vm_t (vm_t (vm_t (vm_t (vm_t (vm_t (vm_t rfl o2_0) rfl) o2_1) o2_2) rfl) o2_3) o2_4) rfl) o2_5) ?_
  refine vm_gc (g := 244) (na := 4) (av := [vm_r 96, vm_i (m1 902 (v3 + 1)), vm_i (m1 902 (v3 + 2)), vm_i (m1 902 (v3 + 3))]) (rest := [vm_i z1]) (i := (.invokevirtual 0, 244, 4, [])) (len := 3) (by decide +kernel) rfl rfl rfl (by decide +kernel) (by decide +kernel) rfl rfl (vm_u (vm_okh_v (c := 11) (by decide +kernel) (by decide +kernel)) (show vm_okn 244 4 1 0 0 4 = true by decide +kernel)) ?_
  refine vm_G.mono h ?_
  rintro _ m2 ⟨z2, rfl, h⟩
  show vm_G 301 803 [some (vm_r 902), some (vm_r 0), some (vm_r 96), some (vm_i v3), w4, none, w6, none] [vm_i z2, vm_i z1] m2 _
  refine vm_gj (c := z1 = z2) (t := 1673) (e := 806) (i := (.if_icmp .eq 0, 1673, 0, [])) (len := 3) (st1 := []) (by decide +kernel) rfl rfl (fun c1 => ?_) (fun c1 => ?_)
  · replace h := h.1 c1
    exact h
  · replace h := h.2 c1
    refine vm_gp [(.iconst 0, 0, 0, [])] (pc1 := 807) (ls1 := [some (vm_r 902), some (vm_r 0), some (vm_r 96), some (vm_i v3), w4, none, w6, none]) (st1 := [vm_i 0]) (m1 := m2) (ob := true) (by decide +kernel) rfl rfl ?_
    exact vm_gr (r := some (vm_i 0)) (i := (.ireturn, 2, 0, [])) (len := 1) (by decide +kernel) rfl rfl (by decide) ⟨_, rfl, h⟩
set_option maxRecDepth 20000 in
theorem ruL_law_808 {v3 : Int} {w4 : Option vm_V} {w6 : Option vm_V} {m : vm_M} {Q : Int → vm_M → Prop}  (h :
    ((vm_32 (v3 + 1)) ∧ (0 ≤ (v3 + 1) ∧ (v3 + 1) < (m 903 0)) ∧ (vm_32 (v3 + 2)) ∧ (0 ≤ (v3 + 2) ∧ (v3 + 2) < (m 903 0))) ∧
    (vm_C 120 [vm_r 0, vm_i (m 902 (v3 + 1)), vm_i (m 902 (v3 + 2))] m (vm_qi (fun z1 m1 =>
      ((vm_32 (v3 + 1)) ∧ (0 ≤ (v3 + 1) ∧ (v3 + 1) < (m1 903 0)) ∧ (vm_32 (v3 + 2)) ∧ (0 ≤ (v3 + 2) ∧ (v3 + 2) < (m1 903 0))) ∧
      (vm_C 245 [vm_r 96, vm_i (m1 902 (v3 + 1)), vm_i (m1 902 (v3 + 2))] m1 (vm_qi (fun z2 m2 =>
        ((z1 = z2 →
          kuL_law_1673 v3 w4 w6 m2 Q) ∧ (¬ z1 = z2 →
          Q 0 m2))))))))) : kuL_law_808 v3 w4 w6 m Q := by
  show vm_G 301 808 [some (vm_r 902), some (vm_r 0), some (vm_r 96), some (vm_i v3), w4, none, w6, none] [] m (vm_qi Q)
  obtain ⟨⟨o1_0, o1_1, o1_2, o1_3⟩, h⟩ := h
  refine vm_gp [(.aload 1, 0, 0, []), (.aload 0, 0, 0, []), (.iload 3, 0, 0, []), (.iconst 1, 0, 0, []), (.iadd, 0, 0, []), (.iaload, 0, 0, []), (.aload 0, 0, 0, []), (.iload 3, 0, 0, []), (.iconst 2, 0, 0, []), (.iadd, 0, 0, []), (.iaload, 0, 0, [])] (pc1 := 819) (ls1 := [some (vm_r 902), some (vm_r 0), some (vm_r 96), some (vm_i v3), w4, none, w6, none]) (st1 := [vm_i (m 902 (v3 + 2)), vm_i (m 902 (v3 + 1)), vm_r 0]) (m1 := m) (ob := ((((((true && decide (vm_32 (v3 + 1))) && decide ((902 : Nat) = 902)) && decide (0 ≤ (v3 + 1) ∧ (v3 + 1) < (m 903 0))) && decide (vm_32 (v3 + 2))) && decide ((902 : Nat) = 902)) && decide (0 ≤ (v3 + 2) ∧ (v3 + 2) < (m 903 0)))) (by decide +kernel) rfl (vm_t (vm_t (vm_t (vm_t (vm_t (vm_t rfl o1_0) rfl) o1_1) o1_2) rfl) o1_3) ?_
  refine vm_gc (g := 120) (na := 3) (av := [vm_r 0, vm_i (m 902 (v3 + 1)), vm_i (m 902 (v3 + 2))]) (rest := []) (i := (.invokevirtual 0, 120, 3, [])) (len := 3) (by decide +kernel) rfl rfl rfl (by decide +kernel) (by decide +kernel) rfl rfl (vm_u (vm_okh_v (c := 10) (by decide +kernel) (by decide +kernel)) (show vm_okn 120 3 0 0 0 3 = true by decide +kernel)) ?_
  refine vm_G.mono h ?_
  rintro _ m1 ⟨z1, rfl, h⟩
  show vm_G 301 822 [some (vm_r 902), some (vm_r 0), some (vm_r 96), some (vm_i v3), w4, none, w6, none] [vm_i z1] m1 _
  obtain ⟨⟨o2_0, o2_1, o2_2, o2_3⟩, h⟩ := h
  refine vm_gp [(.aload 2, 0, 0, []), (.aload 0, 0, 0, []), (.iload 3, 0, 0, []), (.iconst 1, 0, 0, []), (.iadd, 0, 0, []), (.iaload, 0, 0, []), (.aload 0, 0, 0, []), (.iload 3, 0, 0, []), (.iconst 2, 0, 0, []), (.iadd, 0, 0, []), (.iaload, 0, 0, [])] (pc1 := 833) (ls1 := [some (vm_r 902), some (vm_r 0), some (vm_r 96), some (vm_i v3), w4, none, w6, none]) (st1 := [vm_i (m1 902 (v3 + 2)), vm_i (m1 902 (v3 + 1)), vm_r 96, vm_i z1]) (m1 := m1) (ob := ((((((true && decide (vm_32 (v3 + 1))) && decide ((902 : Nat) = 902)) && decide (0 ≤ (v3 + 1) ∧ (v3 + 1) < (m1 903 0))) && decide (vm_32 (v3 + 2))) && decide ((902 : Nat) = 902)) && decide (0 ≤ (v3 + 2) ∧ (v3 + 2) < (m1 903 0)))) (by decide +kernel) rfl (vm_t (vm_t (vm_t (vm_t (vm_t (vm_t rfl o2_0) rfl) o2_1) o2_2) rfl) o2_3) ?_
  refine vm_gc (g := 245) (na := 3) (av := [vm_r 96, vm_i (m1 902 (v3 + 1)), vm_i (m1 902 (v3 + 2))]) (rest := [vm_i z1]) (i := (.invokevirtual 0, 245, 3, [])) (len := 3) (by decide +kernel) rfl rfl rfl (by decide +kernel) (by decide +kernel) rfl rfl (vm_u (vm_okh_v (c := 11) (by decide +kernel) (by decide +kernel)) (show vm_okn 245 3 1 0 0 3 = true by decide +kernel)) ?_
  refine vm_G.mono h ?_
  rintro _ m2 ⟨z2, rfl, h⟩
  show vm_G 301 836 [some (vm_r 902), some (vm_r 0), some (vm_r 96), some (vm_i v3), w4, none, w6, none] [vm_i z2, vm_i z1] m2 _
  refine vm_gj (c := z1 = z2) (t := 1673) (e := 839) (i := (.if_icmp .eq 0, 1673, 0, [])) (len := 3) (st1 := []) (by decide +kernel) rfl rfl (fun c1 => ?_) (fun c1 => ?_)
  · replace h := h.1 c1
    exact h
  · replace h := h.2 c1
    refine vm_gp [(.iconst 0, 0, 0, [])] (pc1 := 840) (ls1 := [some (vm_r 902), some (vm_r 0), some (vm_r 96), some (vm_i v3), w4, none, w6, none]) (st1 := [vm_i 0]) (m1 := m2) (ob := true) (by decide +kernel) rfl rfl ?_
    exact vm_gr (r := some (vm_i 0)) (i := (.ireturn, 2, 0, [])) (len := 1) (by decide +kernel) rfl rfl (by decide) ⟨_, rfl, h⟩
set_option maxRecDepth 20000 in
theorem ruL_law_841 {v3 : Int} {w4 : Option vm_V} {w6 : Option vm_V} {m : vm_M} {Q : Int → vm_M → Prop}  (h :
    ((vm_32 (v3 + 1)) ∧ (0 ≤ (v3 + 1) ∧ (v3 + 1) < (m 903 0))) ∧
    (((m 902 (v3 + 1)) = 0 →
      (vm_C 121 [vm_r 0, vm_i 0] m (vm_qi (fun z1 m1 =>
        ((vm_32 (v3 + 1)) ∧ (0 ≤ (v3 + 1) ∧ (v3 + 1) < (m1 903 0))) ∧
        (((m1 902 (v3 + 1)) = 0 →
          (vm_C 246 [vm_r 96, vm_i 0] m1 (vm_qi (fun z2 m2 =>
            ((z1 = z2 →
              kuL_law_1673 v3 w4 w6 m2 Q) ∧ (¬ z1 = z2 →
              Q 0 m2)))))) ∧ (¬ (m1 902 (v3 + 1)) = 0 →
          (vm_C 246 [vm_r 96, vm_i 1] m1 (vm_qi (fun z3 m3 =>
            ((z1 = z3 →
              kuL_law_1673 v3 w4 w6 m3 Q) ∧ (¬ z1 = z3 →
              Q 0 m3))))))))))) ∧ (¬ (m 902 (v3 + 1)) = 0 →
      (vm_C 121 [vm_r 0, vm_i 1] m (vm_qi (fun z4 m4 =>
        ((vm_32 (v3 + 1)) ∧ (0 ≤ (v3 + 1) ∧ (v3 + 1) < (m4 903 0))) ∧
        (((m4 902 (v3 + 1)) = 0 →
          (vm_C 246 [vm_r 96, vm_i 0] m4 (vm_qi (fun z5 m5 =>
            ((z4 = z5 →
              kuL_law_1673 v3 w4 w6 m5 Q) ∧ (¬ z4 = z5 →
              Q 0 m5)))))) ∧ (¬ (m4 902 (v3 + 1)) = 0 →
          (vm_C 246 [vm_r 96, vm_i 1] m4 (vm_qi (fun z6 m6 =>
            ((z4 = z6 →
              kuL_law_1673 v3 w4 w6 m6 Q) ∧ (¬ z4 = z6 →
              Q 0 m6))))))))))))) : kuL_law_841 v3 w4 w6 m Q := by
  show vm_G 301 841 [some (vm_r 902), some (vm_r 0), some (vm_r 96), some (vm_i v3), w4, none, w6, none] [] m (vm_qi Q)
  obtain ⟨⟨o1_0, o1_1⟩, h⟩ := h
  refine vm_gp [(.aload 1, 0, 0, []), (.aload 0, 0, 0, []), (.iload 3, 0, 0, []), (.iconst 1, 0, 0, []), (.iadd, 0, 0, []), (.iaload, 0, 0, [])] (pc1 := 847) (ls1 := [some (vm_r 902), some (vm_r 0), some (vm_r 96), some (vm_i v3), w4, none, w6, none]) (st1 := [vm_i (m 902 (v3 + 1)), vm_r 0]) (m1 := m) (ob := (((true && decide (vm_32 (v3 + 1))) && decide ((902 : Nat) = 902)) && decide (0 ≤ (v3 + 1) ∧ (v3 + 1) < (m 903 0)))) (by decide +kernel) rfl (vm_t (vm_t (vm_t rfl o1_0) rfl) o1_1) ?_
  refine vm_gj (c := (m 902 (v3 + 1)) = 0) (t := 854) (e := 850) (i := (.ifCond .eq 0, 854, 0, [])) (len := 3) (st1 := [vm_r 0]) (by decide +kernel) rfl rfl (fun c1 => ?_) (fun c1 => ?_)
  · replace h := h.1 c1
    refine vm_gp [(.iconst 0, 0, 0, [])] (pc1 := 855) (ls1 := [some (vm_r 902), some (vm_r 0), some (vm_r 96), some (vm_i v3), w4, none, w6, none]) (st1 := [vm_i 0, vm_r 0]) (m1 := m) (ob := true) (by decide +kernel) rfl rfl ?_
    refine vm_gc (g := 121) (na := 2) (av := [vm_r 0, vm_i 0]) (rest := []) (i := (.invokevirtual 0, 121, 2, [])) (len := 3) (by decide +kernel) rfl rfl rfl (by decide +kernel) (by decide +kernel) rfl rfl (vm_u (vm_okh_v (c := 10) (by decide +kernel) (by decide +kernel)) (show vm_okn 121 2 0 0 0 2 = true by decide +kernel)) ?_
    refine vm_G.mono h ?_
    rintro _ m1 ⟨z1, rfl, h⟩
    show vm_G 301 858 [some (vm_r 902), some (vm_r 0), some (vm_r 96), some (vm_i v3), w4, none, w6, none] [vm_i z1] m1 _
    obtain ⟨⟨o3_0, o3_1⟩, h⟩ := h
    refine vm_gp [(.aload 2, 0, 0, []), (.aload 0, 0, 0, []), (.iload 3, 0, 0, []), (.iconst 1, 0, 0, []), (.iadd, 0, 0, []), (.iaload, 0, 0, [])] (pc1 := 864) (ls1 := [some (vm_r 902), some (vm_r 0), some (vm_r 96), some (vm_i v3), w4, none, w6, none]) (st1 := [vm_i (m1 902 (v3 + 1)), vm_r 96, vm_i z1]) (m1 := m1) (ob := (((true && decide (vm_32 (v3 + 1))) && decide ((902 : Nat) = 902)) && decide (0 ≤ (v3 + 1) ∧ (v3 + 1) < (m1 903 0)))) (by decide +kernel) rfl (vm_t (vm_t (vm_t rfl o3_0) rfl) o3_1) ?_
    refine vm_gj (c := (m1 902 (v3 + 1)) = 0) (t := 871) (e := 867) (i := (.ifCond .eq 0, 871, 0, [])) (len := 3) (st1 := [vm_r 96, vm_i z1]) (by decide +kernel) rfl rfl (fun c2 => ?_) (fun c2 => ?_)
    · replace h := h.1 c2
      refine vm_gp [(.iconst 0, 0, 0, [])] (pc1 := 872) (ls1 := [some (vm_r 902), some (vm_r 0), some (vm_r 96), some (vm_i v3), w4, none, w6, none]) (st1 := [vm_i 0, vm_r 96, vm_i z1]) (m1 := m1) (ob := true) (by decide +kernel) rfl rfl ?_
      refine vm_gc (g := 246) (na := 2) (av := [vm_r 96, vm_i 0]) (rest := [vm_i z1]) (i := (.invokevirtual 0, 246, 2, [])) (len := 3) (by decide +kernel) rfl rfl rfl (by decide +kernel) (by decide +kernel) rfl rfl (vm_u (vm_okh_v (c := 11) (by decide +kernel) (by decide +kernel)) (show vm_okn 246 2 1 0 0 2 = true by decide +kernel)) ?_
      refine vm_G.mono h ?_
      rintro _ m2 ⟨z2, rfl, h⟩
      show vm_G 301 875 [some (vm_r 902), some (vm_r 0), some (vm_r 96), some (vm_i v3), w4, none, w6, none] [vm_i z2, vm_i z1] m2 _
      refine vm_gj (c := z1 = z2) (t := 1673) (e := 878) (i := (.if_icmp .eq 0, 1673, 0, [])) (len := 3) (st1 := []) (by decide +kernel) rfl rfl (fun c3 => ?_) (fun c3 => ?_)
      · replace h := h.1 c3
        exact h
      · replace h := h.2 c3
        refine vm_gp [(.iconst 0, 0, 0, [])] (pc1 := 879) (ls1 := [some (vm_r 902), some (vm_r 0), some (vm_r 96), some (vm_i v3), w4, none, w6, none]) (st1 := [vm_i 0]) (m1 := m2) (ob := true) (by decide +kernel) rfl rfl ?_
        exact vm_gr (r := some (vm_i 0)) (i := (.ireturn, 2, 0, [])) (len := 1) (by decide +kernel) rfl rfl (by decide) ⟨_, rfl, h⟩
    · replace h := h.2 c2
      refine vm_gp [(.iconst 1, 0, 0, []), (.goto 0, 872, 0, [])] (pc1 := 872) (ls1 := [some (vm_r 902), some (vm_r 0), some (vm_r 96), some (vm_i v3), w4, none, w6, none]) (st1 := [vm_i 1, vm_r 96, vm_i z1]) (m1 := m1) (ob := true) (by decide +kernel) rfl rfl ?_
      refine vm_gc (g := 246) (na := 2) (av := [vm_r 96, vm_i 1]) (rest := [vm_i z1]) (i := (.invokevirtual 0, 246, 2, [])) (len := 3) (by decide +kernel) rfl rfl rfl (by decide +kernel) (by decide +kernel) rfl rfl (vm_u (vm_okh_v (c := 11) (by decide +kernel) (by decide +kernel)) (show vm_okn 246 2 1 0 0 2 = true by decide +kernel)) ?_
      refine vm_G.mono h ?_
      rintro _ m3 ⟨z3, rfl, h⟩
      show vm_G 301 875 [some (vm_r 902), some (vm_r 0), some (vm_r 96), some (vm_i v3), w4, none, w6, none] [vm_i z3, vm_i z1] m3 _
      refine vm_gj (c := z1 = z3) (t := 1673) (e := 878) (i := (.if_icmp .eq 0, 1673, 0, [])) (len := 3) (st1 := []) (by decide +kernel) rfl rfl (fun c4 => ?_) (fun c4 => ?_)
      · replace h := h.1 c4
        exact h
      · replace h := h.2 c4
        refine vm_gp [(.iconst 0, 0, 0, [])] (pc1 := 879) (ls1 := [some (vm_r 902), some (vm_r 0), some (vm_r 96), some (vm_i v3), w4, none, w6, none]) (st1 := [vm_i 0]) (m1 := m3) (ob := true) (by decide +kernel) rfl rfl ?_
        exact vm_gr (r := some (vm_i 0)) (i := (.ireturn, 2, 0, [])) (len := 1) (by decide +kernel) rfl rfl (by decide) ⟨_, rfl, h⟩
  · replace h := h.2 c1
    refine vm_gp [(.iconst 1, 0, 0, []), (.goto 0, 855, 0, [])] (pc1 := 855) (ls1 := [some (vm_r 902), some (vm_r 0), some (vm_r 96), some (vm_i v3), w4, none, w6, none]) (st1 := [vm_i 1, vm_r 0]) (m1 := m) (ob := true) (by decide +kernel) rfl rfl ?_
    refine vm_gc (g := 121) (na := 2) (av := [vm_r 0, vm_i 1]) (rest := []) (i := (.invokevirtual 0, 121, 2, [])) (len := 3) (by decide +kernel) rfl rfl rfl (by decide +kernel) (by decide +kernel) rfl rfl (vm_u (vm_okh_v (c := 10) (by decide +kernel) (by decide +kernel)) (show vm_okn 121 2 0 0 0 2 = true by decide +kernel)) ?_
    refine vm_G.mono h ?_
    rintro _ m4 ⟨z4, rfl, h⟩
    show vm_G 301 858 [some (vm_r 902), some (vm_r 0), some (vm_r 96), some (vm_i v3), w4, none, w6, none] [vm_i z4] m4 _
    obtain ⟨⟨o13_0, o13_1⟩, h⟩ := h
    refine vm_gp [(.aload 2, 0, 0, []), (.aload 0, 0, 0, []), (.iload 3, 0, 0, []), (.iconst 1, 0, 0, []), (.iadd, 0, 0, []), (.iaload, 0, 0, [])] (pc1 := 864) (ls1 := [some (vm_r 902), some (vm_r 0), some (vm_r 96), some (vm_i v3), w4, none, w6, none]) (st1 := [vm_i (m4 902 (v3 + 1)), vm_r 96, vm_i z4]) (m1 := m4) (ob := (((true && decide (vm_32 (v3 + 1))) && decide ((902 : Nat) = 902)) && decide (0 ≤ (v3 + 1) ∧ (v3 + 1) < (m4 903 0)))) (by decide +kernel) rfl (vm_t (vm_t (vm_t rfl o13_0) rfl) o13_1) ?_
    refine vm_gj (c := (m4 902 (v3 + 1)) = 0) (t := 871) (e := 867) (i := (.ifCond .eq 0, 871, 0, [])) (len := 3) (st1 := [vm_r 96, vm_i z4]) (by decide +kernel) rfl rfl (fun c5 => ?_) (fun c5 => ?_)
    · replace h := h.1 c5
      refine vm_gp [(.iconst 0, 0, 0, [])] (pc1 := 872) (ls1 := [some (vm_r 902), some (vm_r 0), some (vm_r 96), some (vm_i v3), w4, none, w6, none]) (st1 := [vm_i 0, vm_r 96, vm_i z4]) (m1 := m4) (ob := true) (by decide +kernel) rfl rfl ?_
      refine vm_gc (g := 246) (na := 2) (av := [vm_r 96, vm_i 0]) (rest := [vm_i z4]) (i := (.invokevirtual 0, 246, 2, [])) (len := 3) (by decide +kernel) rfl rfl rfl (by decide +kernel) (by decide +kernel) rfl rfl (vm_u (vm_okh_v (c := 11) (by decide +kernel) (by decide +kernel)) (show vm_okn 246 2 1 0 0 2 = true by decide +kernel)) ?_
      refine vm_G.mono h ?_
      rintro _ m5 ⟨z5, rfl, h⟩
      show vm_G 301 875 [some (vm_r 902), some (vm_r 0), some (vm_r 96), some (vm_i v3), w4, none, w6, none] [vm_i z5, vm_i z4] m5 _
      refine vm_gj (c := z4 = z5) (t := 1673) (e := 878) (i := (.if_icmp .eq 0, 1673, 0, [])) (len := 3) (st1 := []) (by decide +kernel) rfl rfl (fun c6 => ?_) (fun c6 => ?_)
      · replace h := h.1 c6
        exact h
      · replace h := h.2 c6
        refine vm_gp [(.iconst 0, 0, 0, [])] (pc1 := 879) (ls1 := [some (vm_r 902), some (vm_r 0), some (vm_r 96), some (vm_i v3), w4, none, w6, none]) (st1 := [vm_i 0]) (m1 := m5) (ob := true) (by decide +kernel) rfl rfl ?_
        exact vm_gr (r := some (vm_i 0)) (i := (.ireturn, 2, 0, [])) (len := 1) (by decide +kernel) rfl rfl (by decide) ⟨_, rfl, h⟩
    · replace h := h.2 c5
      refine vm_gp [(.iconst 1, 0, 0, []), (.goto 0, 872, 0, [])] (pc1 := 872) (ls1 := [some (vm_r 902), some (vm_r 0), some (vm_r 96), some (vm_i v3), w4, none, w6, none]) (st1 := [vm_i 1, vm_r 96, vm_i z4]) (m1 := m4) (ob := true) (by decide +kernel) rfl rfl ?_
      refine vm_gc (g := 246) (na := 2) (av := [vm_r 96, vm_i 1]) (rest := [vm_i z4]) (i := (.invokevirtual 0, 246, 2, [])) (len := 3) (by decide +kernel) rfl rfl rfl (by decide +kernel) (by decide +kernel) rfl rfl (vm_u (vm_okh_v (c := 11) (by decide +kernel) (by decide +kernel)) (show vm_okn 246 2 1 0 0 2 = true by decide +kernel)) ?_
      refine vm_G.mono h ?_
      rintro _ m6 ⟨z6, rfl, h⟩
      show vm_G 301 875 [some (vm_r 902), some (vm_r 0), some (vm_r 96), some (vm_i v3), w4, none, w6, none] [vm_i z6, vm_i z4] m6 _
      refine vm_gj (c := z4 = z6) (t := 1673) (e := 878) (i := (.if_icmp .eq 0, 1673, 0, [])) (len := 3) (st1 := []) (by decide +kernel) rfl rfl (fun c7 => ?_) (fun c7 => ?_)
      · replace h := h.1 c7
        exact h
      · replace h := h.2 c7
        refine vm_gp [(.iconst 0, 0, 0, [])] (pc1 := 879) (ls1 := [some (vm_r 902), some (vm_r 0), some (vm_r 96), some (vm_i v3), w4, none, w6, none]) (st1 := [vm_i 0]) (m1 := m6) (ob := true) (by decide +kernel) rfl rfl ?_
        exact vm_gr (r := some (vm_i 0)) (i := (.ireturn, 2, 0, [])) (len := 1) (by decide +kernel) rfl rfl (by decide) ⟨_, rfl, h⟩
set_option maxRecDepth 20000 in
theorem ruL_law_880 {v3 : Int} {w4 : Option vm_V} {w6 : Option vm_V} {m : vm_M} {Q : Int → vm_M → Prop}  (h :
    ((vm_32 (v3 + 1)) ∧ (0 ≤ (v3 + 1) ∧ (v3 + 1) < (m 903 0))) ∧
    (vm_C 122 [vm_r 0, vm_i (m 902 (v3 + 1))] m (vm_qi (fun z1 m1 =>
      ((vm_32 (v3 + 1)) ∧ (0 ≤ (v3 + 1) ∧ (v3 + 1) < (m1 903 0))) ∧
      (vm_C 248 [vm_r 96, vm_i (m1 902 (v3 + 1))] m1 (vm_qi (fun z2 m2 =>
        ((z1 = z2 →
          kuL_law_1673 v3 w4 w6 m2 Q) ∧ (¬ z1 = z2 →
          Q 0 m2))))))))) : kuL_law_880 v3 w4 w6 m Q := by
  show vm_G 301 880 [some (vm_r 902), some (vm_r 0), some (vm_r 96), some (vm_i v3), w4, none, w6, none] [] m (vm_qi Q)
  obtain ⟨⟨o1_0, o1_1⟩, h⟩ := h
  refine vm_gp [(.aload 1, 0, 0, []), (.aload 0, 0, 0, []), (.iload 3, 0, 0, []), (.iconst 1, 0, 0, []), (.iadd, 0, 0, []), (.iaload, 0, 0, [])] (pc1 := 886) (ls1 := [some (vm_r 902), some (vm_r 0), some (vm_r 96), some (vm_i v3), w4, none, w6, none]) (st1 := [vm_i (m 902 (v3 + 1)), vm_r 0]) (m1 := m) (ob := (((true && decide (vm_32 (v3 + 1))) && decide ((902 : Nat) = 902)) && decide (0 ≤ (v3 + 1) ∧ (v3 + 1) < (m 903 0)))) (by decide +kernel) rfl (vm_t (vm_t (vm_t rfl o1_0) rfl) o1_1) ?_
  refine vm_gc (g := 122) (na := 2) (av := [vm_r 0, vm_i (m 902 (v3 + 1))]) (rest := []) (i := (.invokevirtual 0, 122, 2, [])) (len := 3) (by decide +kernel) rfl rfl rfl (by decide +kernel) (by decide +kernel) rfl rfl (vm_u (vm_okh_v (c := 10) (by decide +kernel) (by decide +kernel)) (show vm_okn 122 2 0 0 0 2 = true by decide +kernel)) ?_
  refine vm_G.mono h ?_
  rintro _ m1 ⟨z1, rfl, h⟩
  show vm_G 301 889 [some (vm_r 902), some (vm_r 0), some (vm_r 96), some (vm_i v3), w4, none, w6, none] [vm_i z1] m1 _
  obtain ⟨⟨o2_0, o2_1⟩, h⟩ := h
  refine vm_gp [(.aload 2, 0, 0, []), (.aload 0, 0, 0, []), (.iload 3, 0, 0, []), (.iconst 1, 0, 0, []), (.iadd, 0, 0, []), (.iaload, 0, 0, [])] (pc1 := 895) (ls1 := [some (vm_r 902), some (vm_r 0), some (vm_r 96), some (vm_i v3), w4, none, w6, none]) (st1 := [vm_i (m1 902 (v3 + 1)), vm_r 96, vm_i z1]) (m1 := m1) (ob := (((true && decide (vm_32 (v3 + 1))) && decide ((902 : Nat) = 902)) && decide (0 ≤ (v3 + 1) ∧ (v3 + 1) < (m1 903 0)))) (by decide +kernel) rfl (vm_t (vm_t (vm_t rfl o2_0) rfl) o2_1) ?_
  refine vm_gc (g := 248) (na := 2) (av := [vm_r 96, vm_i (m1 902 (v3 + 1))]) (rest := [vm_i z1]) (i := (.invokevirtual 0, 248, 2, [])) (len := 3) (by decide +kernel) rfl rfl rfl (by decide +kernel) (by decide +kernel) rfl rfl (vm_u (vm_okh_v (c := 11) (by decide +kernel) (by decide +kernel)) (show vm_okn 248 2 1 0 0 2 = true by decide +kernel)) ?_
  refine vm_G.mono h ?_
  rintro _ m2 ⟨z2, rfl, h⟩
  show vm_G 301 898 [some (vm_r 902), some (vm_r 0), some (vm_r 96), some (vm_i v3), w4, none, w6, none] [vm_i z2, vm_i z1] m2 _
  refine vm_gj (c := z1 = z2) (t := 1673) (e := 901) (i := (.if_icmp .eq 0, 1673, 0, [])) (len := 3) (st1 := []) (by decide +kernel) rfl rfl (fun c1 => ?_) (fun c1 => ?_)
  · replace h := h.1 c1
    exact h
  · replace h := h.2 c1
    refine vm_gp [(.iconst 0, 0, 0, [])] (pc1 := 902) (ls1 := [some (vm_r 902), some (vm_r 0), some (vm_r 96), some (vm_i v3), w4, none, w6, none]) (st1 := [vm_i 0]) (m1 := m2) (ob := true) (by decide +kernel) rfl rfl ?_
    exact vm_gr (r := some (vm_i 0)) (i := (.ireturn, 2, 0, [])) (len := 1) (by decide +kernel) rfl rfl (by decide) ⟨_, rfl, h⟩
set_option maxRecDepth 20000 in
theorem ruL_law_903 {v3 : Int} {w4 : Option vm_V} {w6 : Option vm_V} {m : vm_M} {Q : Int → vm_M → Prop}  (h :
    ((vm_32 (v3 + 1)) ∧ (0 ≤ (v3 + 1) ∧ (v3 + 1) < (m 903 0)) ∧ (vm_32 (v3 + 2)) ∧ (0 ≤ (v3 + 2) ∧ (v3 + 2) < (m 903 0))) ∧
    (((m 902 (v3 + 2)) = 0 →
      (vm_C 123 [vm_r 0, vm_i (m 902 (v3 + 1)), vm_i 0] m (vm_qi (fun z1 m1 =>
        ((vm_32 (v3 + 1)) ∧ (0 ≤ (v3 + 1) ∧ (v3 + 1) < (m1 903 0)) ∧ (vm_32 (v3 + 2)) ∧ (0 ≤ (v3 + 2) ∧ (v3 + 2) < (m1 903 0))) ∧
        (((m1 902 (v3 + 2)) = 0 →
          (vm_C 249 [vm_r 96, vm_i (m1 902 (v3 + 1)), vm_i 0] m1 (vm_qi (fun z2 m2 =>
            ((z1 = z2 →
              kuL_law_1673 v3 w4 w6 m2 Q) ∧ (¬ z1 = z2 →
              Q 0 m2)))))) ∧ (¬ (m1 902 (v3 + 2)) = 0 →
          (vm_C 249 [vm_r 96, vm_i (m1 902 (v3 + 1)), vm_i 1] m1 (vm_qi (fun z3 m3 =>
            ((z1 = z3 →
              kuL_law_1673 v3 w4 w6 m3 Q) ∧ (¬ z1 = z3 →
              Q 0 m3))))))))))) ∧ (¬ (m 902 (v3 + 2)) = 0 →
      (vm_C 123 [vm_r 0, vm_i (m 902 (v3 + 1)), vm_i 1] m (vm_qi (fun z4 m4 =>
        ((vm_32 (v3 + 1)) ∧ (0 ≤ (v3 + 1) ∧ (v3 + 1) < (m4 903 0)) ∧ (vm_32 (v3 + 2)) ∧ (0 ≤ (v3 + 2) ∧ (v3 + 2) < (m4 903 0))) ∧
        (((m4 902 (v3 + 2)) = 0 →
          (vm_C 249 [vm_r 96, vm_i (m4 902 (v3 + 1)), vm_i 0] m4 (vm_qi (fun z5 m5 =>
            ((z4 = z5 →
              kuL_law_1673 v3 w4 w6 m5 Q) ∧ (¬ z4 = z5 →
              Q 0 m5)))))) ∧ (¬ (m4 902 (v3 + 2)) = 0 →
          (vm_C 249 [vm_r 96, vm_i (m4 902 (v3 + 1)), vm_i 1] m4 (vm_qi (fun z6 m6 =>
            ((z4 = z6 →
              kuL_law_1673 v3 w4 w6 m6 Q) ∧ (¬ z4 = z6 →
              Q 0 m6))))))))))))) : kuL_law_903 v3 w4 w6 m Q := by
  show vm_G 301 903 [some (vm_r 902), some (vm_r 0), some (vm_r 96), some (vm_i v3), w4, none, w6, none] [] m (vm_qi Q)
  obtain ⟨⟨o1_0, o1_1, o1_2, o1_3⟩, h⟩ := h
  refine vm_gp [(.aload 1, 0, 0, []), (.aload 0, 0, 0, []), (.iload 3, 0, 0, []), (.iconst 1, 0, 0, []), (.iadd, 0, 0, []), (.iaload, 0, 0, []), (.aload 0, 0, 0, []), (.iload 3, 0, 0, []), (.iconst 2, 0, 0, []), (.iadd, 0, 0, []), (.iaload, 0, 0, [])] (pc1 := 914) (ls1 := [some (vm_r 902), some (vm_r 0), some (vm_r 96), some (vm_i v3), w4, none, w6, none]) (st1 := [vm_i (m 902 (v3 + 2)), vm_i (m 902 (v3 + 1)), vm_r 0]) (m1 := m) (ob := ((((((true && decide (vm_32 (v3 + 1))) && decide ((902 : Nat) = 902)) && decide (0 ≤ (v3 + 1) ∧ (v3 + 1) < (m 903 0))) && decide (vm_32 (v3 + 2))) && decide ((902 : Nat) = 902)) && decide (0 ≤ (v3 + 2) ∧ (v3 + 2) < (m 903 0)))) (by decide +kernel) rfl (vm_t (vm_t (vm_t (vm_t (vm_t (vm_t rfl o1_0) rfl) o1_1) o1_2) rfl) o1_3) ?_
  refine vm_gj (c := (m 902 (v3 + 2)) = 0) (t := 921) (e := 917) (i := (.ifCond .eq 0, 921, 0, [])) (len := 3) (st1 := [vm_i (m 902 (v3 + 1)), vm_r 0]) (by decide +kernel) rfl rfl (fun c1 => ?_) (fun c1 => ?_)
  · replace h := h.1 c1
    refine vm_gp [(.iconst 0, 0, 0, [])] (pc1 := 922) (ls1 := [some (vm_r 902), some (vm_r 0), some (vm_r 96), some (vm_i v3), w4, none, w6, none]) (st1 := [vm_i 0, vm_i (m 902 (v3 + 1)), vm_r 0]) (m1 := m) (ob := true) (by decide +kernel) rfl rfl ?_
    refine vm_gc (g := 123) (na := 3) (av := [vm_r 0, vm_i (m 902 (v3 + 1)), vm_i 0]) (rest := []) (i := (.invokevirtual 0, 123, 3, [])) (len := 3) (by decide +kernel) rfl rfl rfl (by decide +kernel) (by decide +kernel) rfl rfl (vm_u (vm_okh_v (c := 10) (by decide +kernel) (by decide +kernel)) (show vm_okn 123 3 0 0 0 3 = true by decide +kernel)) ?_
    refine vm_G.mono h ?_
    rintro _ m1 ⟨z1, rfl, h⟩
    show vm_G 301 925 [some (vm_r 902), some (vm_r 0), some (vm_r 96), some (vm_i v3), w4, none, w6, none] [vm_i z1] m1 _
    obtain ⟨⟨o3_0, o3_1, o3_2, o3_3⟩, h⟩ := h
    refine vm_gp [(.aload 2, 0, 0, []), (.aload 0, 0, 0, []), (.iload 3, 0, 0, []), (.iconst 1, 0, 0, []), (.iadd, 0, 0, []), (.iaload, 0, 0, []), (.aload 0, 0, 0, []), (.iload 3, 0, 0, []), (.iconst 2, 0, 0, []), (.iadd, 0, 0, []), (.iaload, 0, 0, [])] (pc1 := 936) (ls1 := [some (vm_r 902), some (vm_r 0), some (vm_r 96), some (vm_i v3), w4, none, w6, none]) (st1 := [vm_i (m1 902 (v3 + 2)), vm_i (m1 902 (v3 + 1)), vm_r 96, vm_i z1]) (m1 := m1) (ob := ((((((true && decide (vm_32 (v3 + 1))) && decide ((902 : Nat) = 902)) && decide (0 ≤ (v3 + 1) ∧ (v3 + 1) < (m1 903 0))) && decide (vm_32 (v3 + 2))) && decide ((902 : Nat) = 902)) && decide (0 ≤ (v3 + 2) ∧ (v3 + 2) < (m1 903 0)))) (by decide +kernel) rfl (vm_t (vm_t (vm_t (vm_t (vm_t (vm_t rfl o3_0) rfl) o3_1) o3_2) rfl) o3_3) ?_
    refine vm_gj (c := (m1 902 (v3 + 2)) = 0) (t := 943) (e := 939) (i := (.ifCond .eq 0, 943, 0, [])) (len := 3) (st1 := [vm_i (m1 902 (v3 + 1)), vm_r 96, vm_i z1]) (by decide +kernel) rfl rfl (fun c2 => ?_) (fun c2 => ?_)
    · replace h := h.1 c2
      refine vm_gp [(.iconst 0, 0, 0, [])] (pc1 := 944) (ls1 := [some (vm_r 902), some (vm_r 0), some (vm_r 96), some (vm_i v3), w4, none, w6, none]) (st1 := [vm_i 0, vm_i (m1 902 (v3 + 1)), vm_r 96, vm_i z1]) (m1 := m1) (ob := true) (by decide +kernel) rfl rfl ?_
      refine vm_gc (g := 249) (na := 3) (av := [vm_r 96, vm_i (m1 902 (v3 + 1)), vm_i 0]) (rest := [vm_i z1]) (i := (.invokevirtual 0, 249, 3, [])) (len := 3) (by decide +kernel) rfl rfl rfl (by decide +kernel) (by decide +kernel) rfl rfl (vm_u (vm_okh_v (c := 11) (by decide +kernel) (by decide +kernel)) (show vm_okn 249 3 1 0 0 3 = true by decide +kernel)) ?_
      refine vm_G.mono h ?_
      rintro _ m2 ⟨z2, rfl, h⟩
      show vm_G 301 947 [some (vm_r 902), some (vm_r 0), some (vm_r 96), some (vm_i v3), w4, none, w6, none] [vm_i z2, vm_i z1] m2 _
      refine vm_gj (c := z1 = z2) (t := 1673) (e := 950) (i := (.if_icmp .eq 0, 1673, 0, [])) (len := 3) (st1 := []) (by decide +kernel) rfl rfl (fun c3 => ?_) (fun c3 => ?_)
      · replace h := h.1 c3
        exact h
      · replace h := h.2 c3
        refine vm_gp [(.iconst 0, 0, 0, [])] (pc1 := 951) (ls1 := [some (vm_r 902), some (vm_r 0), some (vm_r 96), some (vm_i v3), w4, none, w6, none]) (st1 := [vm_i 0]) (m1 := m2) (ob := true) (by decide +kernel) rfl rfl ?_
        exact vm_gr (r := some (vm_i 0)) (i := (.ireturn, 2, 0, [])) (len := 1) (by decide +kernel) rfl rfl (by decide) ⟨_, rfl, h⟩
    · replace h := h.2 c2
      refine vm_gp [(.iconst 1, 0, 0, []), (.goto 0, 944, 0, [])] (pc1 := 944) (ls1 := [some (vm_r 902), some (vm_r 0), some (vm_r 96), some (vm_i v3), w4, none, w6, none]) (st1 := [vm_i 1, vm_i (m1 902 (v3 + 1)), vm_r 96, vm_i z1]) (m1 := m1) (ob := true) (by decide +kernel) rfl rfl ?_
      refine vm_gc (g := 249) (na := 3) (av := [vm_r 96, vm_i (m1 902 (v3 + 1)), vm_i 1]) (rest := [vm_i z1]) (i := (.invokevirtual 0, 249, 3, [])) (len := 3) (by decide +kernel) rfl rfl rfl (by decide +kernel) (by decide +kernel) rfl rfl (vm_u (vm_okh_v (c := 11) (by decide +kernel) (by decide +kernel)) (show vm_okn 249 3 1 0 0 3 = true by decide +kernel)) ?_
      refine vm_G.mono h ?_
      rintro _ m3 ⟨z3, rfl, h⟩
      show vm_G 301 947 [some (vm_r 902), some (vm_r 0), some (vm_r 96), some (vm_i v3), w4, none, w6, none] [vm_i z3, vm_i z1] m3 _
      refine vm_gj (c := z1 = z3) (t := 1673) (e := 950) (i := (.if_icmp .eq 0, 1673, 0, [])) (len := 3) (st1 := []) (by decide +kernel) rfl rfl (fun c4 => ?_) (fun c4 => ?_)
      · replace h := h.1 c4
        exact h
      · replace h := h.2 c4
        refine vm_gp [(.iconst 0, 0, 0, [])] (pc1 := 951) (ls1 := [some (vm_r 902), some (vm_r 0), some (vm_r 96), some (vm_i v3), w4, none, w6, none]) (st1 := [vm_i 0]) (m1 := m3) (ob := true) (by decide +kernel) rfl rfl ?_
        exact vm_gr (r := some (vm_i 0)) (i := (.ireturn, 2, 0, [])) (len := 1) (by decide +kernel) rfl rfl (by decide) ⟨_, rfl, h⟩
  · replace h := h.2 c1
    refine vm_gp [(.iconst 1, 0, 0, []), (.goto 0, 922, 0, [])] (pc1 := 922) (ls1 := [some (vm_r 902), some (vm_r 0), some (vm_r 96), some (vm_i v3), w4, none, w6, none]) (st1 := [vm_i 1, vm_i (m 902 (v3 + 1)), vm_r 0]) (m1 := m) (ob := true) (by decide +kernel) rfl rfl ?_
    refine vm_gc (g := 123) (na := 3) (av := [vm_r 0, vm_i (m 902 (v3 + 1)), vm_i 1]) (rest := []) (i := (.invokevirtual 0, 123, 3, [])) (len := 3) (by decide +kernel) rfl rfl rfl (by decide +kernel) (by decide +kernel) rfl rfl (vm_u (vm_okh_v (c := 10) (by decide +kernel) (by decide +kernel)) (show vm_okn 123 3 0 0 0 3 = true by decide +kernel)) ?_
    refine vm_G.mono h ?_
    rintro _ m4 ⟨z4, rfl, h⟩
    show vm_G 301 925 [some (vm_r 902), some (vm_r 0), some (vm_r 96), some (vm_i v3), w4, none, w6, none] [vm_i z4] m4 _
    obtain ⟨⟨o13_0, o13_1, o13_2, o13_3⟩, h⟩ := h
    refine vm_gp [(.aload 2, 0, 0, []), (.aload 0, 0, 0, []), (.iload 3, 0, 0, []), (.iconst 1, 0, 0, []), (.iadd, 0, 0, []), (.iaload, 0, 0, []), (.aload 0, 0, 0, []), (.iload 3, 0, 0, []), (.iconst 2, 0, 0, []), (.iadd, 0, 0, []), (.iaload, 0, 0, [])] (pc1 := 936) (ls1 := [some (vm_r 902), some (vm_r 0), some (vm_r 96), some (vm_i v3), w4, none, w6, none]) (st1 := [vm_i (m4 902 (v3 + 2)), vm_i (m4 902 (v3 + 1)), vm_r 96, vm_i z4]) (m1 := m4) (ob := ((((((true && decide (vm_32 (v3 + 1))) && decide ((902 : Nat) = 902)) && decide (0 ≤ (v3 + 1) ∧ (v3 + 1) < (m4 903 0))) && decide (vm_32 (v3 + 2))) && decide ((902 : Nat) = 902)) && decide (0 ≤ (v3 + 2) ∧ (v3 + 2) < (m4 903 0)))) (by decide +kernel) rfl (vm_t (vm_t (vm_t (vm_t (vm_t (vm_t rfl o13_0) rfl) o13_1) o13_2) rfl) o13_3) ?_
    refine vm_gj (c := (m4 902 (v3 + 2)) = 0) (t := 943) (e := 939) (i := (.ifCond .eq 0, 943, 0, [])) (len := 3) (st1 := [vm_i (m4 902 (v3 + 1)), vm_r 96, vm_i z4]) (by decide +kernel) rfl rfl (fun c5 => ?_) (fun c5 => ?_)
    · replace h := h.1 c5
      refine vm_gp [(.iconst 0, 0, 0, [])] (pc1 := 944) (ls1 := [some (vm_r 902), some (vm_r 0), some (vm_r 96), some (vm_i v3), w4, none, w6, none]) (st1 := [vm_i 0, vm_i (m4 902 (v3 + 1)), vm_r 96, vm_i z4]) (m1 := m4) (ob := true) (by decide +kernel) rfl rfl ?_
      refine vm_gc (g := 249) (na := 3) (av := [vm_r 96, vm_i (m4 902 (v3 + 1)), vm_i 0]) (rest := [vm_i z4]) (i := (.invokevirtual 0, 249, 3, [])) (len := 3) (by decide +kernel) rfl rfl rfl (by decide +kernel) (by decide +kernel) rfl rfl (vm_u (vm_okh_v (c := 11) (by decide +kernel) (by decide +kernel)) (show vm_okn 249 3 1 0 0 3 = true by decide +kernel)) ?_
      refine vm_G.mono h ?_
      rintro _ m5 ⟨z5, rfl, h⟩
      show vm_G 301 947 [some (vm_r 902), some (vm_r 0), some (vm_r 96), some (vm_i v3), w4, none, w6, none] [vm_i z5, vm_i z4] m5 _
      refine vm_gj (c := z4 = z5) (t := 1673) (e := 950) (i := (.if_icmp .eq 0, 1673, 0, [])) (len := 3) (st1 := []) (by decide +kernel) rfl rfl (fun c6 => ?_) (fun c6 => ?_)
      · replace h := h.1 c6
        exact h
      · replace h := h.2 c6
        refine vm_gp [(.iconst 0, 0, 0, [])] (pc1 := 951) (ls1 := [some (vm_r 902), some (vm_r 0), some (vm_r 96), some (vm_i v3), w4, none, w6, none]) (st1 := [vm_i 0]) (m1 := m5) (ob := true) (by decide +kernel) rfl rfl ?_
        exact vm_gr (r := some (vm_i 0)) (i := (.ireturn, 2, 0, [])) (len := 1) (by decide +kernel) rfl rfl (by decide) ⟨_, rfl, h⟩
    · replace h := h.2 c5
      refine vm_gp [(.iconst 1, 0, 0, []), (.goto 0, 944, 0, [])] (pc1 := 944) (ls1 := [some (vm_r 902), some (vm_r 0), some (vm_r 96), some (vm_i v3), w4, none, w6, none]) (st1 := [vm_i 1, vm_i (m4 902 (v3 + 1)), vm_r 96, vm_i z4]) (m1 := m4) (ob := true) (by decide +kernel) rfl rfl ?_
      refine vm_gc (g := 249) (na := 3) (av := [vm_r 96, vm_i (m4 902 (v3 + 1)), vm_i 1]) (rest := [vm_i z4]) (i := (.invokevirtual 0, 249, 3, [])) (len := 3) (by decide +kernel) rfl rfl rfl (by decide +kernel) (by decide +kernel) rfl rfl (vm_u (vm_okh_v (c := 11) (by decide +kernel) (by decide +kernel)) (show vm_okn 249 3 1 0 0 3 = true by decide +kernel)) ?_
      refine vm_G.mono h ?_
      rintro _ m6 ⟨z6, rfl, h⟩
      show vm_G 301 947 [some (vm_r 902), some (vm_r 0), some (vm_r 96), some (vm_i v3), w4, none, w6, none] [vm_i z6, vm_i z4] m6 _
      refine vm_gj (c := z4 = z6) (t := 1673) (e := 950) (i := (.if_icmp .eq 0, 1673, 0, [])) (len := 3) (st1 := []) (by decide +kernel) rfl rfl (fun c7 => ?_) (fun c7 => ?_)
      · replace h := h.1 c7
        exact h
      · replace h := h.2 c7
        refine vm_gp [(.iconst 0, 0, 0, [])] (pc1 := 951) (ls1 := [some (vm_r 902), some (vm_r 0), some (vm_r 96), some (vm_i v3), w4, none, w6, none]) (st1 := [vm_i 0]) (m1 := m6) (ob := true) (by decide +kernel) rfl rfl ?_
        exact vm_gr (r := some (vm_i 0)) (i := (.ireturn, 2, 0, [])) (len := 1) (by decide +kernel) rfl rfl (by decide) ⟨_, rfl, h⟩
set_option maxRecDepth 20000 in
theorem ruL_law_952 {v3 : Int} {w4 : Option vm_V} {w6 : Option vm_V} {m : vm_M} {Q : Int → vm_M → Prop}  (h :
    ((vm_32 (v3 + 1)) ∧ (0 ≤ (v3 + 1) ∧ (v3 + 1) < (m 903 0)) ∧ (vm_32 (v3 + 2)) ∧ (0 ≤ (v3 + 2) ∧ (v3 + 2) < (m 903 0))) ∧
    (vm_C 125 [vm_r 0, vm_i (m 902 (v3 + 1)), vm_i (m 902 (v3 + 2))] m (vm_qi (fun z1 m1 =>
      ((vm_32 (v3 + 1)) ∧ (0 ≤ (v3 + 1) ∧ (v3 + 1) < (m1 903 0)) ∧ (vm_32 (v3 + 2)) ∧ (0 ≤ (v3 + 2) ∧ (v3 + 2) < (m1 903 0))) ∧
      (vm_C 252 [vm_r 96, vm_i (m1 902 (v3 + 1)), vm_i (m1 902 (v3 + 2))] m1 (vm_qi (fun z2 m2 =>
        ((z1 = z2 →
          kuL_law_1673 v3 w4 w6 m2 Q) ∧ (¬ z1 = z2 →
          Q 0 m2))))))))) : kuL_law_952 v3 w4 w6 m Q := by
  show vm_G 301 952 [some (vm_r 902), some (vm_r 0), some (vm_r 96), some (vm_i v3), w4, none, w6, none] [] m (vm_qi Q)
  obtain ⟨⟨o1_0, o1_1, o1_2, o1_3⟩, h⟩ := h
  refine vm_gp [(.aload 1, 0, 0, []), (.aload 0, 0, 0, []), (.iload 3, 0, 0, []), (.iconst 1, 0, 0, []), (.iadd, 0, 0, []), (.iaload, 0, 0, []), (.aload 0, 0, 0, []), (.iload 3, 0, 0, []), (.iconst 2, 0, 0, []), (.iadd, 0, 0, []), (.iaload, 0, 0, [])] (pc1 := 963) (ls1 := [some (vm_r 902), some (vm_r 0), some (vm_r 96), some (vm_i v3), w4, none, w6, none]) (st1 := [vm_i (m 902 (v3 + 2)), vm_i (m 902 (v3 + 1)), vm_r 0]) (m1 := m) (ob := ((((((true && decide (vm_32 (v3 + 1))) && decide ((902 : Nat) = 902)) && decide (0 ≤ (v3 + 1) ∧ (v3 + 1) < (m 903 0))) && decide (vm_32 (v3 + 2))) && decide ((902 : Nat) = 902)) && decide (0 ≤ (v3 + 2) ∧ (v3 + 2) < (m 903 0)))) (by decide +kernel) rfl (vm_t (vm_t (vm_t (vm_t (vm_t (vm_t rfl o1_0) rfl) o1_1) o1_2) rfl) o1_3) ?_
  refine vm_gc (g := 125) (na := 3) (av := [vm_r 0, vm_i (m 902 (v3 + 1)), vm_i (m 902 (v3 + 2))]) (rest := []) (i := (.invokevirtual 0, 125, 3, [])) (len := 3) (by decide +kernel) rfl rfl rfl (by decide +kernel) (by decide +kernel) rfl rfl (vm_u (vm_okh_v (c := 10) (by decide +kernel) (by decide +kernel)) (show vm_okn 125 3 0 0 0 3 = true by decide +kernel)) ?_
  refine vm_G.mono h ?_
  rintro _ m1 ⟨z1, rfl, h⟩
  show vm_G 301 966 [some (vm_r 902), some (vm_r 0), some (vm_r 96), some (vm_i v3), w4, none, w6, none] [vm_i z1] m1 _
  obtain ⟨⟨o2_0, o2_1, o2_2, o2_3⟩, h⟩ := h
  refine vm_gp [(.aload 2, 0, 0, []), (.aload 0, 0, 0, []), (.iload 3, 0, 0, []), (.iconst 1, 0, 0, []), (.iadd, 0, 0, []), (.iaload, 0, 0, []), (.aload 0, 0, 0, []), (.iload 3, 0, 0, []), (.iconst 2, 0, 0, []), (.iadd, 0, 0, []), (.iaload, 0, 0, [])] (pc1 := 977) (ls1 := [some (vm_r 902), some (vm_r 0), some (vm_r 96), some (vm_i v3), w4, none, w6, none]) (st1 := [vm_i (m1 902 (v3 + 2)), vm_i (m1 902 (v3 + 1)), vm_r 96, vm_i z1]) (m1 := m1) (ob := ((((((true && decide (vm_32 (v3 + 1))) && decide ((902 : Nat) = 902)) && decide (0 ≤ (v3 + 1) ∧ (v3 + 1) < (m1 903 0))) && decide (vm_32 (v3 + 2))) && decide ((902 : Nat) = 902)) && decide (0 ≤ (v3 + 2) ∧ (v3 + 2) < (m1 903 0)))) (by decide +kernel) rfl (vm_t (vm_t (vm_t (vm_t (vm_t (vm_t rfl o2_0) rfl) o2_1) o2_2) rfl) o2_3) ?_
  refine vm_gc (g := 252) (na := 3) (av := [vm_r 96, vm_i (m1 902 (v3 + 1)), vm_i (m1 902 (v3 + 2))]) (rest := [vm_i z1]) (i := (.invokevirtual 0, 252, 3, [])) (len := 3) (by decide +kernel) rfl rfl rfl (by decide +kernel) (by decide +kernel) rfl rfl (vm_u (vm_okh_v (c := 11) (by decide +kernel) (by decide +kernel)) (show vm_okn 252 3 1 0 0 3 = true by decide +kernel)) ?_
  refine vm_G.mono h ?_
  rintro _ m2 ⟨z2, rfl, h⟩
  show vm_G 301 980 [some (vm_r 902), some (vm_r 0), some (vm_r 96), some (vm_i v3), w4, none, w6, none] [vm_i z2, vm_i z1] m2 _
  refine vm_gj (c := z1 = z2) (t := 1673) (e := 983) (i := (.if_icmp .eq 0, 1673, 0, [])) (len := 3) (st1 := []) (by decide +kernel) rfl rfl (fun c1 => ?_) (fun c1 => ?_)
  · replace h := h.1 c1
    exact h
  · replace h := h.2 c1
    refine vm_gp [(.iconst 0, 0, 0, [])] (pc1 := 984) (ls1 := [some (vm_r 902), some (vm_r 0), some (vm_r 96), some (vm_i v3), w4, none, w6, none]) (st1 := [vm_i 0]) (m1 := m2) (ob := true) (by decide +kernel) rfl rfl ?_
    exact vm_gr (r := some (vm_i 0)) (i := (.ireturn, 2, 0, [])) (len := 1) (by decide +kernel) rfl rfl (by decide) ⟨_, rfl, h⟩
set_option maxRecDepth 20000 in
theorem ruL_law_985 {v3 : Int} {w4 : Option vm_V} {w6 : Option vm_V} {m : vm_M} {Q : Int → vm_M → Prop}  (h :
    ((vm_32 (v3 + 1)) ∧ (0 ≤ (v3 + 1) ∧ (v3 + 1) < (m 903 0)) ∧ (vm_32 (v3 + 2)) ∧ (0 ≤ (v3 + 2) ∧ (v3 + 2) < (m 903 0))) ∧
    (vm_C 126 [vm_r 0, vm_i (m 902 (v3 + 1)), vm_i (m 902 (v3 + 2))] m (vm_qi (fun z1 m1 =>
      ((vm_32 (v3 + 1)) ∧ (0 ≤ (v3 + 1) ∧ (v3 + 1) < (m1 903 0)) ∧ (vm_32 (v3 + 2)) ∧ (0 ≤ (v3 + 2) ∧ (v3 + 2) < (m1 903 0))) ∧
      (vm_C 253 [vm_r 96, vm_i (m1 902 (v3 + 1)), vm_i (m1 902 (v3 + 2))] m1 (vm_qi (fun z2 m2 =>
        ((z1 = z2 →
          kuL_law_1673 v3 w4 w6 m2 Q) ∧ (¬ z1 = z2 →
          Q 0 m2))))))))) : kuL_law_985 v3 w4 w6 m Q := by
  show vm_G 301 985 [some (vm_r 902), some (vm_r 0), some (vm_r 96), some (vm_i v3), w4, none, w6, none] [] m (vm_qi Q)
  obtain ⟨⟨o1_0, o1_1, o1_2, o1_3⟩, h⟩ := h
  refine vm_gp [(.aload 1, 0, 0, []), (.aload 0, 0, 0, []), (.iload 3, 0, 0, []), (.iconst 1, 0, 0, []), (.iadd, 0, 0, []), (.iaload, 0, 0, []), (.aload 0, 0, 0, []), (.iload 3, 0, 0, []), (.iconst 2, 0, 0, []), (.iadd, 0, 0, []), (.iaload, 0, 0, [])] (pc1 := 996) (ls1 := [some (vm_r 902), some (vm_r 0), some (vm_r 96), some (vm_i v3), w4, none, w6, none]) (st1 := [vm_i (m 902 (v3 + 2)), vm_i (m 902 (v3 + 1)), vm_r 0]) (m1 := m) (ob := ((((((true && decide (vm_32 (v3 + 1))) && decide ((902 : Nat) = 902)) && decide (0 ≤ (v3 + 1) ∧ (v3 + 1) < (m 903 0))) && decide (vm_32 (v3 + 2))) && decide ((902 : Nat) = 902)) && decide (0 ≤ (v3 + 2) ∧ (v3 + 2) < (m 903 0)))) (by decide +kernel) rfl (vm_t (vm_t (vm_t (vm_t (vm_t (vm_t rfl o1_0) rfl) o1_1) o1_2) rfl) o1_3) ?_
  refine vm_gc (g := 126) (na := 3) (av := [vm_r 0, vm_i (m 902 (v3 + 1)), vm_i (m 902 (v3 + 2))]) (rest := []) (i := (.invokevirtual 0, 126, 3, [])) (len := 3) (by decide +kernel) rfl rfl rfl (by decide +kernel) (by decide +kernel) rfl rfl (vm_u (vm_okh_v (c := 10) (by decide +kernel) (by decide +kernel)) (show vm_okn 126 3 0 0 0 3 = true by decide +kernel)) ?_
  refine vm_G.mono h ?_
  rintro _ m1 ⟨z1, rfl, h⟩
  show vm_G 301 999 [some (vm_r 902), some (vm_r 0), some (vm_r 96), some (vm_i v3), w4, none, w6, none] [vm_i z1] m1 _
  obtain ⟨⟨o2_0, o2_1, o2_2, o2_3⟩, h⟩ := h
  refine vm_gp [(.aload 2, 0, 0, []), (.aload 0, 0, 0, []), (.iload 3, 0, 0, []), (.iconst 1, 0, 0, []), (.iadd, 0, 0, []), (.iaload, 0, 0, []), (.aload 0, 0, 0, []), (.iload 3, 0, 0, []), (.iconst 2, 0, 0, []), (.iadd, 0, 0, []), (.iaload, 0, 0, [])] (pc1 := 1010) (ls1 := [some (vm_r 902), some (vm_r 0), some (vm_r 96), some (vm_i v3), w4, none, w6, none]) (st1 := [vm_i (m1 902 (v3 + 2)), vm_i (m1 902 (v3 + 1)), vm_r 96, vm_i z1]) (m1 := m1) (ob := ((((((true && decide (vm_32 (v3 + 1))) && decide ((902 : Nat) = 902)) && decide (0 ≤ (v3 + 1) ∧ (v3 + 1) < (m1 903 0))) && decide (vm_32 (v3 + 2))) && decide ((902 : Nat) = 902)) && decide (0 ≤ (v3 + 2) ∧ (v3 + 2) < (m1 903 0)))) (by decide +kernel) rfl (vm_t (vm_t (vm_t (vm_t (vm_t (vm_t rfl o2_0) rfl) o2_1) o2_2) rfl) o2_3) ?_
  refine vm_gc (g := 253) (na := 3) (av := [vm_r 96, vm_i (m1 902 (v3 + 1)), vm_i (m1 902 (v3 + 2))]) (rest := [vm_i z1]) (i := (.invokevirtual 0, 253, 3, [])) (len := 3) (by decide +kernel) rfl rfl rfl (by decide +kernel) (by decide +kernel) rfl rfl (vm_u (vm_okh_v (c := 11) (by decide +kernel) (by decide +kernel)) (show vm_okn 253 3 1 0 0 3 = true by decide +kernel)) ?_
  refine vm_G.mono h ?_
  rintro _ m2 ⟨z2, rfl, h⟩
  show vm_G 301 1013 [some (vm_r 902), some (vm_r 0), some (vm_r 96), some (vm_i v3), w4, none, w6, none] [vm_i z2, vm_i z1] m2 _
  refine vm_gj (c := z1 = z2) (t := 1673) (e := 1016) (i := (.if_icmp .eq 0, 1673, 0, [])) (len := 3) (st1 := []) (by decide +kernel) rfl rfl (fun c1 => ?_) (fun c1 => ?_)
  · replace h := h.1 c1
    exact h
  · replace h := h.2 c1
    refine vm_gp [(.iconst 0, 0, 0, [])] (pc1 := 1017) (ls1 := [some (vm_r 902), some (vm_r 0), some (vm_r 96), some (vm_i v3), w4, none, w6, none]) (st1 := [vm_i 0]) (m1 := m2) (ob := true) (by decide +kernel) rfl rfl ?_
    exact vm_gr (r := some (vm_i 0)) (i := (.ireturn, 2, 0, [])) (len := 1) (by decide +kernel) rfl rfl (by decide) ⟨_, rfl, h⟩
set_option maxRecDepth 20000 in
theorem ruL_law_1018 {v3 : Int} {w4 : Option vm_V} {w6 : Option vm_V} {m : vm_M} {Q : Int → vm_M → Prop}  (h :
    (vm_C 127 [vm_r 0] m (vm_qi (fun z1 m1 =>
      (vm_C 254 [vm_r 96] m1 (vm_qi (fun z2 m2 =>
        ((z1 = z2 →
          kuL_law_1673 v3 w4 w6 m2 Q) ∧ (¬ z1 = z2 →
          Q 0 m2))))))))) : kuL_law_1018 v3 w4 w6 m Q := by
  show vm_G 301 1018 [some (vm_r 902), some (vm_r 0), some (vm_r 96), some (vm_i v3), w4, none, w6, none] [] m (vm_qi Q)
  refine vm_gp [(.aload 1, 0, 0, [])] (pc1 := 1019) (ls1 := [some (vm_r 902), some (vm_r 0), some (vm_r 96), some (vm_i v3), w4, none, w6, none]) (st1 := [vm_r 0]) (m1 := m) (ob := true) (by decide +kernel) rfl rfl ?_
  refine vm_gc (g := 127) (na := 1) (av := [vm_r 0]) (rest := []) (i := (.invokevirtual 0, 127, 1, [])) (len := 3) (by decide +kernel) rfl rfl rfl (by decide +kernel) (by decide +kernel) rfl rfl (vm_u (vm_okh_v (c := 10) (by decide +kernel) (by decide +kernel)) (show vm_okn 127 1 0 0 0 1 = true by decide +kernel)) ?_
  refine vm_G.mono h ?_
  rintro _ m1 ⟨z1, rfl, h⟩
  show vm_G 301 1022 [some (vm_r 902), some (vm_r 0), some (vm_r 96), some (vm_i v3), w4, none, w6, none] [vm_i z1] m1 _
  refine vm_gp [(.aload 2, 0, 0, [])] (pc1 := 1023) (ls1 := [some (vm_r 902), some (vm_r 0), some (vm_r 96), some (vm_i v3), w4, none, w6, none]) (st1 := [vm_r 96, vm_i z1]) (m1 := m1) (ob := true) (by decide +kernel) rfl rfl ?_
  refine vm_gc (g := 254) (na := 1) (av := [vm_r 96]) (rest := [vm_i z1]) (i := (.invokevirtual 0, 254, 1, [])) (len := 3) (by decide +kernel) rfl rfl rfl (by decide +kernel) (by decide +kernel) rfl rfl (vm_u (vm_okh_v (c := 11) (by decide +kernel) (by decide +kernel)) (show vm_okn 254 1 1 0 0 1 = true by decide +kernel)) ?_
  refine vm_G.mono h ?_
  rintro _ m2 ⟨z2, rfl, h⟩
  show vm_G 301 1026 [some (vm_r 902), some (vm_r 0), some (vm_r 96), some (vm_i v3), w4, none, w6, none] [vm_i z2, vm_i z1] m2 _
  refine vm_gj (c := z1 = z2) (t := 1673) (e := 1029) (i := (.if_icmp .eq 0, 1673, 0, [])) (len := 3) (st1 := []) (by decide +kernel) rfl rfl (fun c1 => ?_) (fun c1 => ?_)
  · replace h := h.1 c1
    exact h
  · replace h := h.2 c1
    refine vm_gp [(.iconst 0, 0, 0, [])] (pc1 := 1030) (ls1 := [some (vm_r 902), some (vm_r 0), some (vm_r 96), some (vm_i v3), w4, none, w6, none]) (st1 := [vm_i 0]) (m1 := m2) (ob := true) (by decide +kernel) rfl rfl ?_
    exact vm_gr (r := some (vm_i 0)) (i := (.ireturn, 2, 0, [])) (len := 1) (by decide +kernel) rfl rfl (by decide) ⟨_, rfl, h⟩
set_option maxRecDepth 20000 in
theorem ruL_law_1031 {v3 : Int} {w4 : Option vm_V} {w6 : Option vm_V} {m : vm_M} {Q : Int → vm_M → Prop}  (h :
    ((vm_32 (v3 + 1)) ∧ (0 ≤ (v3 + 1) ∧ (v3 + 1) < (m 903 0)) ∧ (vm_32 (v3 + 2)) ∧ (0 ≤ (v3 + 2) ∧ (v3 + 2) < (m 903 0))) ∧
    (vm_C 128 [vm_r 0, vm_i (m 902 (v3 + 1)), vm_i (m 902 (v3 + 2))] m (vm_qi (fun z1 m1 =>
      ((vm_32 (v3 + 1)) ∧ (0 ≤ (v3 + 1) ∧ (v3 + 1) < (m1 903 0)) ∧ (vm_32 (v3 + 2)) ∧ (0 ≤ (v3 + 2) ∧ (v3 + 2) < (m1 903 0))) ∧
      (vm_C 255 [vm_r 96, vm_i (m1 902 (v3 + 1)), vm_i (m1 902 (v3 + 2))] m1 (vm_qi (fun z2 m2 =>
        ((z1 = z2 →
          kuL_law_1673 v3 w4 w6 m2 Q) ∧ (¬ z1 = z2 →
          Q 0 m2))))))))) : kuL_law_1031 v3 w4 w6 m Q := by
  show vm_G 301 1031 [some (vm_r 902), some (vm_r 0), some (vm_r 96), some (vm_i v3), w4, none, w6, none] [] m (vm_qi Q)
  obtain ⟨⟨o1_0, o1_1, o1_2, o1_3⟩, h⟩ := h
  refine vm_gp [(.aload 1, 0, 0, []), (.aload 0, 0, 0, []), (.iload 3, 0, 0, []), (.iconst 1, 0, 0, []), (.iadd, 0, 0, []), (.iaload, 0, 0, []), (.aload 0, 0, 0, []), (.iload 3, 0, 0, []), (.iconst 2, 0, 0, []), (.iadd, 0, 0, []), (.iaload, 0, 0, [])] (pc1 := 1042) (ls1 := [some (vm_r 902), some (vm_r 0), some (vm_r 96), some (vm_i v3), w4, none, w6, none]) (st1 := [vm_i (m 902 (v3 + 2)), vm_i (m 902 (v3 + 1)), vm_r 0]) (m1 := m) (ob := ((((((true && decide (vm_32 (v3 + 1))) && decide ((902 : Nat) = 902)) && decide (0 ≤ (v3 + 1) ∧ (v3 + 1) < (m 903 0))) && decide (vm_32 (v3 + 2))) && decide ((902 : Nat) = 902)) && decide (0 ≤ (v3 + 2) ∧ (v3 + 2) < (m 903 0)))) (by decide +kernel) rfl (vm_t (vm_t (vm_t (vm_t (vm_t (vm_t rfl o1_0) rfl) o1_1) o1_2) rfl) o1_3) ?_
  refine vm_gc (g := 128) (na := 3) (av := [vm_r 0, vm_i (m 902 (v3 + 1)), vm_i (m 902 (v3 + 2))]) (rest := []) (i := (.invokevirtual 0, 128, 3, [])) (len := 3) (by decide +kernel) rfl rfl rfl (by decide +kernel) (by decide +kernel) rfl rfl (vm_u (vm_okh_v (c := 10) (by decide +kernel) (by decide +kernel)) (show vm_okn 128 3 0 0 0 3 = true by decide +kernel)) ?_
  refine vm_G.mono h ?_
  rintro _ m1 ⟨z1, rfl, h⟩
  show vm_G 301 1045 [some (vm_r 902), some (vm_r 0), some (vm_r 96), some (vm_i v3), w4, none, w6, none] [vm_i z1] m1 _
  obtain ⟨⟨o2_0, o2_1, o2_2, o2_3⟩, h⟩ := h
  refine vm_gp [(.aload 2, 0, 0, []), (.aload 0, 0, 0, []), (.iload 3, 0, 0, []), (.iconst 1, 0, 0, []), (.iadd, 0, 0, []), (.iaload, 0, 0, []), (.aload 0, 0, 0, []), (.iload 3, 0, 0, []), (.iconst 2, 0, 0, []), (.iadd, 0, 0, []), (.iaload, 0, 0, [])] (pc1 := 1056) (ls1 := [some (vm_r 902), some (vm_r 0), some (vm_r 96), some (vm_i v3), w4, none, w6, none]) (st1 := [vm_i (m1 902 (v3 + 2)), vm_i (m1 902 (v3 + 1)), vm_r 96, vm_i z1]) (m1 := m1) (ob := ((((((true && decide (vm_32 (v3 + 1))) && decide ((902 : Nat) = 902)) && decide (0 ≤ (v3 + 1) ∧ (v3 + 1) < (m1 903 0))) && decide (vm_32 (v3 + 2))) && decide ((902 : Nat) = 902)) && decide (0 ≤ (v3 + 2) ∧ (v3 + 2) < (m1 903 0)))) (by decide +kernel) rfl (vm_t (vm_t (vm_t (vm_t (vm_t (vm_t rfl o2_0) rfl) o2_1) o2_2) rfl) o2_3) ?_
  refine vm_gc (g := 255) (na := 3) (av := [vm_r 96, vm_i (m1 902 (v3 + 1)), vm_i (m1 902 (v3 + 2))]) (rest := [vm_i z1]) (i := (.invokevirtual 0, 255, 3, [])) (len := 3) (by decide +kernel) rfl rfl rfl (by decide +kernel) (by decide +kernel) rfl rfl (vm_u (vm_okh_v (c := 11) (by decide +kernel) (by decide +kernel)) (show vm_okn 255 3 1 0 0 3 = true by decide +kernel)) ?_
  refine vm_G.mono h ?_
  rintro _ m2 ⟨z2, rfl, h⟩
  show vm_G 301 1059 [some (vm_r 902), some (vm_r 0), some (vm_r 96), some (vm_i v3), w4, none, w6, none] [vm_i z2, vm_i z1] m2 _
  refine vm_gj (c := z1 = z2) (t := 1673) (e := 1062) (i := (.if_icmp .eq 0, 1673, 0, [])) (len := 3) (st1 := []) (by decide +kernel) rfl rfl (fun c1 => ?_) (fun c1 => ?_)
  · replace h := h.1 c1
    exact h
  · replace h := h.2 c1
    refine vm_gp [(.iconst 0, 0, 0, [])] (pc1 := 1063) (ls1 := [some (vm_r 902), some (vm_r 0), some (vm_r 96), some (vm_i v3), w4, none, w6, none]) (st1 := [vm_i 0]) (m1 := m2) (ob := true) (by decide +kernel) rfl rfl ?_
    exact vm_gr (r := some (vm_i 0)) (i := (.ireturn, 2, 0, [])) (len := 1) (by decide +kernel) rfl rfl (by decide) ⟨_, rfl, h⟩
set_option maxRecDepth 20000 in
theorem ruL_law_1064 {v3 : Int} {w4 : Option vm_V} {w6 : Option vm_V} {m : vm_M} {Q : Int → vm_M → Prop}  (h :
    ((vm_32 (v3 + 1)) ∧ (0 ≤ (v3 + 1) ∧ (v3 + 1) < (m 903 0)) ∧ (vm_32 (v3 + 2)) ∧ (0 ≤ (v3 + 2) ∧ (v3 + 2) < (m 903 0))) ∧
    (vm_C 129 [vm_r 0, vm_i (m 902 (v3 + 1)), vm_i (m 902 (v3 + 2))] m (vm_qi (fun z1 m1 =>
      ((vm_32 (v3 + 1)) ∧ (0 ≤ (v3 + 1) ∧ (v3 + 1) < (m1 903 0)) ∧ (vm_32 (v3 + 2)) ∧ (0 ≤ (v3 + 2) ∧ (v3 + 2) < (m1 903 0))) ∧
      (vm_C 256 [vm_r 96, vm_i (m1 902 (v3 + 1)), vm_i (m1 902 (v3 + 2))] m1 (vm_qi (fun z2 m2 =>
        ((z1 = z2 →
          kuL_law_1673 v3 w4 w6 m2 Q) ∧ (¬ z1 = z2 →
          Q 0 m2))))))))) : kuL_law_1064 v3 w4 w6 m Q := by
  show vm_G 301 1064 [some (vm_r 902), some (vm_r 0), some (vm_r 96), some (vm_i v3), w4, none, w6, none] [] m (vm_qi Q)
  obtain ⟨⟨o1_0, o1_1, o1_2, o1_3⟩, h⟩ := h
  refine vm_gp [(.aload 1, 0, 0, []), (.aload 0, 0, 0, []), (.iload 3, 0, 0, []), (.iconst 1, 0, 0, []), (.iadd, 0, 0, []), (.iaload, 0, 0, []), (.aload 0, 0, 0, []), (.iload 3, 0, 0, []), (.iconst 2, 0, 0, []), (.iadd, 0, 0, []), (.iaload, 0, 0, [])] (pc1 := 1075) (ls1 := [some (vm_r 902), some (vm_r 0), some (vm_r 96), some (vm_i v3), w4, none, w6, none]) (st1 := [vm_i (m 902 (v3 + 2)), vm_i (m 902 (v3 + 1)), vm_r 0]) (m1 := m) (ob := ((((((true && decide (vm_32 (v3 + 1))) && decide ((902 : Nat) = 902)) && decide (0 ≤ (v3 + 1) ∧ (v3 + 1) < (m 903 0))) && decide (vm_32 (v3 + 2))) && decide ((902 : Nat) = 902)) && decide (0 ≤ (v3 + 2) ∧ (v3 + 2) < (m 903 0)))) (by decide +kernel) rfl (vm_t (vm_t (vm_t (vm_t (vm_t (vm_t rfl o1_0) rfl) o1_1) o1_2) rfl) o1_3) ?_
  refine vm_gc (g := 129) (na := 3) (av := [vm_r 0, vm_i (m 902 (v3 + 1)), vm_i (m 902 (v3 + 2))]) (rest := []) (i := (.invokevirtual 0, 129, 3, [])) (len := 3) (by decide +kernel) rfl rfl rfl (by decide +kernel) (by decide +kernel) rfl rfl (vm_u (vm_okh_v (c := 10) (by decide +kernel) (by decide +kernel)) (show vm_okn 129 3 0 0 0 3 = true by decide +kernel)) ?_
  refine vm_G.mono h ?_
  rintro _ m1 ⟨z1, rfl, h⟩
  show vm_G 301 1078 [some (vm_r 902), some (vm_r 0), some (vm_r 96), some (vm_i v3), w4, none, w6, none] [vm_i z1] m1 _
  obtain ⟨⟨o2_0, o2_1, o2_2, o2_3⟩, h⟩ := h
  refine vm_gp [(.aload 2, 0, 0, []), (.aload 0, 0, 0, []), (.iload 3, 0, 0, []), (.iconst 1, 0, 0, []), (.iadd, 0, 0, []), (.iaload, 0, 0, []), (.aload 0, 0, 0, []), (.iload 3, 0, 0, []), (.iconst 2, 0, 0, []), (.iadd, 0, 0, []), (.iaload, 0, 0, [])] (pc1 := 1089) (ls1 := [some (vm_r 902), some (vm_r 0), some (vm_r 96), some (vm_i v3), w4, none, w6, none]) (st1 := [vm_i (m1 902 (v3 + 2)), vm_i (m1 902 (v3 + 1)), vm_r 96, vm_i z1]) (m1 := m1) (ob := ((((((true && decide (vm_32 (v3 + 1))) && decide ((902 : Nat) = 902)) && decide (0 ≤ (v3 + 1) ∧ (v3 + 1) < (m1 903 0))) && decide (vm_32 (v3 + 2))) && decide ((902 : Nat) = 902)) && decide (0 ≤ (v3 + 2) ∧ (v3 + 2) < (m1 903 0)))) (by decide +kernel) rfl (vm_t (vm_t (vm_t (vm_t (vm_t (vm_t rfl o2_0) rfl) o2_1) o2_2) rfl) o2_3) ?_
  refine vm_gc (g := 256) (na := 3) (av := [vm_r 96, vm_i (m1 902 (v3 + 1)), vm_i (m1 902 (v3 + 2))]) (rest := [vm_i z1]) (i := (.invokevirtual 0, 256, 3, [])) (len := 3) (by decide +kernel) rfl rfl rfl (by decide +kernel) (by decide +kernel) rfl rfl (vm_u (vm_okh_v (c := 11) (by decide +kernel) (by decide +kernel)) (show vm_okn 256 3 1 0 0 3 = true by decide +kernel)) ?_
  refine vm_G.mono h ?_
  rintro _ m2 ⟨z2, rfl, h⟩
  show vm_G 301 1092 [some (vm_r 902), some (vm_r 0), some (vm_r 96), some (vm_i v3), w4, none, w6, none] [vm_i z2, vm_i z1] m2 _
  refine vm_gj (c := z1 = z2) (t := 1673) (e := 1095) (i := (.if_icmp .eq 0, 1673, 0, [])) (len := 3) (st1 := []) (by decide +kernel) rfl rfl (fun c1 => ?_) (fun c1 => ?_)
  · replace h := h.1 c1
    exact h
  · replace h := h.2 c1
    refine vm_gp [(.iconst 0, 0, 0, [])] (pc1 := 1096) (ls1 := [some (vm_r 902), some (vm_r 0), some (vm_r 96), some (vm_i v3), w4, none, w6, none]) (st1 := [vm_i 0]) (m1 := m2) (ob := true) (by decide +kernel) rfl rfl ?_
    exact vm_gr (r := some (vm_i 0)) (i := (.ireturn, 2, 0, [])) (len := 1) (by decide +kernel) rfl rfl (by decide) ⟨_, rfl, h⟩
set_option maxRecDepth 20000 in
theorem ruL_law_1097 {v3 : Int} {w4 : Option vm_V} {w6 : Option vm_V} {m : vm_M} {Q : Int → vm_M → Prop}  (h :
    ((vm_32 (v3 + 1)) ∧ (0 ≤ (v3 + 1) ∧ (v3 + 1) < (m 903 0)) ∧ (vm_32 (v3 + 2)) ∧ (0 ≤ (v3 + 2) ∧ (v3 + 2) < (m 903 0))) ∧
    (vm_C 130 [vm_r 0, vm_i (m 902 (v3 + 1)), vm_i (m 902 (v3 + 2))] m (vm_qi (fun z1 m1 =>
      ((vm_32 (v3 + 1)) ∧ (0 ≤ (v3 + 1) ∧ (v3 + 1) < (m1 903 0)) ∧ (vm_32 (v3 + 2)) ∧ (0 ≤ (v3 + 2) ∧ (v3 + 2) < (m1 903 0))) ∧
      (vm_C 257 [vm_r 96, vm_i (m1 902 (v3 + 1)), vm_i (m1 902 (v3 + 2))] m1 (vm_qi (fun z2 m2 =>
        ((z1 = z2 →
          kuL_law_1673 v3 w4 w6 m2 Q) ∧ (¬ z1 = z2 →
          Q 0 m2))))))))) : kuL_law_1097 v3 w4 w6 m Q := by
  show vm_G 301 1097 [some (vm_r 902), some (vm_r 0), some (vm_r 96), some (vm_i v3), w4, none, w6, none] [] m (vm_qi Q)
  obtain ⟨⟨o1_0, o1_1, o1_2, o1_3⟩, h⟩ := h
  refine vm_gp [(.aload 1, 0, 0, []), (.aload 0, 0, 0, []), (.iload 3, 0, 0, []), (.iconst 1, 0, 0, []), (.iadd, 0, 0, []), (.iaload, 0, 0, []), (.aload 0, 0, 0, []), (.iload 3, 0, 0, []), (.iconst 2, 0, 0, []), (.iadd, 0, 0, []), (.iaload, 0, 0, [])] (pc1 := 1108) (ls1 := [some (vm_r 902), some (vm_r 0), some (vm_r 96), some (vm_i v3), w4, none, w6, none]) (st1 := [vm_i (m 902 (v3 + 2)), vm_i (m 902 (v3 + 1)), vm_r 0]) (m1 := m) (ob := ((((((true && decide (vm_32 (v3 + 1))) && decide ((902 : Nat) = 902)) && decide (0 ≤ (v3 + 1) ∧ (v3 + 1) < (m 903 0))) && decide (vm_32 (v3 + 2))) && decide ((902 : Nat) = 902)) && decide (0 ≤ (v3 + 2) ∧ (v3 + 2) < (m 903 0)))) (by decide +kernel) rfl (vm_t (vm_t (vm_t (vm_t (vm_t (vm_t rfl o1_0) rfl) o1_1) o1_2) rfl) o1_3) ?_
  refine vm_gc (g := 130) (na := 3) (av := [vm_r 0, vm_i (m 902 (v3 + 1)), vm_i (m 902 (v3 + 2))]) (rest := []) (i := (.invokevirtual 0, 130, 3, [])) (len := 3) (by decide +kernel) rfl rfl rfl (by decide +kernel) (by decide +kernel) rfl rfl (vm_u (vm_okh_v (c := 10) (by decide +kernel) (by decide +kernel)) (show vm_okn 130 3 0 0 0 3 = true by decide +kernel)) ?_
  refine vm_G.mono h ?_
  rintro _ m1 ⟨z1, rfl, h⟩
  show vm_G 301 1111 [some (vm_r 902), some (vm_r 0), some (vm_r 96), some (vm_i v3), w4, none, w6, none] [vm_i z1] m1 _
  obtain ⟨⟨o2_0, o2_1, o2_2, o2_3⟩, h⟩ := h
  refine vm_gp [(.aload 2, 0, 0, []), (.aload 0, 0, 0, []), (.iload 3, 0, 0, []), (.iconst 1, 0, 0, []), (.iadd, 0, 0, []), (.iaload, 0, 0, []), (.aload 0, 0, 0, []), (.iload 3, 0, 0, []), (.iconst 2, 0, 0, []), (.iadd, 0, 0, []), (.iaload, 0, 0, [])] (pc1 := 1122) (ls1 := [some (vm_r 902), some (vm_r 0), some (vm_r 96), some (vm_i v3), w4, none, w6, none]) (st1 := [vm_i (m1 902 (v3 + 2)), vm_i (m1 902 (v3 + 1)), vm_r 96, vm_i z1]) (m1 := m1) (ob := ((((((true && decide (vm_32 (v3 + 1))) && decide ((902 : Nat) = 902)) && decide (0 ≤ (v3 + 1) ∧ (v3 + 1) < (m1 903 0))) && decide (vm_32 (v3 + 2))) && decide ((902 : Nat) = 902)) && decide (0 ≤ (v3 + 2) ∧ (v3 + 2) < (m1 903 0)))) (by decide +kernel) rfl (vm_t (vm_t (vm_t (vm_t (vm_t (vm_t rfl o2_0) rfl) o2_1) o2_2) rfl) o2_3) ?_
  refine vm_gc (g := 257) (na := 3) (av := [vm_r 96, vm_i (m1 902 (v3 + 1)), vm_i (m1 902 (v3 + 2))]) (rest := [vm_i z1]) (i := (.invokevirtual 0, 257, 3, [])) (len := 3) (by decide +kernel) rfl rfl rfl (by decide +kernel) (by decide +kernel) rfl rfl (vm_u (vm_okh_v (c := 11) (by decide +kernel) (by decide +kernel)) (show vm_okn 257 3 1 0 0 3 = true by decide +kernel)) ?_
  refine vm_G.mono h ?_
  rintro _ m2 ⟨z2, rfl, h⟩
  show vm_G 301 1125 [some (vm_r 902), some (vm_r 0), some (vm_r 96), some (vm_i v3), w4, none, w6, none] [vm_i z2, vm_i z1] m2 _
  refine vm_gj (c := z1 = z2) (t := 1673) (e := 1128) (i := (.if_icmp .eq 0, 1673, 0, [])) (len := 3) (st1 := []) (by decide +kernel) rfl rfl (fun c1 => ?_) (fun c1 => ?_)
  · replace h := h.1 c1
    exact h
  · replace h := h.2 c1
    refine vm_gp [(.iconst 0, 0, 0, [])] (pc1 := 1129) (ls1 := [some (vm_r 902), some (vm_r 0), some (vm_r 96), some (vm_i v3), w4, none, w6, none]) (st1 := [vm_i 0]) (m1 := m2) (ob := true) (by decide +kernel) rfl rfl ?_
    exact vm_gr (r := some (vm_i 0)) (i := (.ireturn, 2, 0, [])) (len := 1) (by decide +kernel) rfl rfl (by decide) ⟨_, rfl, h⟩
set_option maxRecDepth 20000 in
theorem ruL_law_1130 {v3 : Int} {w4 : Option vm_V} {w6 : Option vm_V} {m : vm_M} {Q : Int → vm_M → Prop}  (h :
    ((vm_32 (v3 + 1)) ∧ (0 ≤ (v3 + 1) ∧ (v3 + 1) < (m 903 0)) ∧ (vm_32 (v3 + 2)) ∧ (0 ≤ (v3 + 2) ∧ (v3 + 2) < (m 903 0))) ∧
    (vm_C 131 [vm_r 0, vm_i (m 902 (v3 + 1)), vm_i (m 902 (v3 + 2))] m (vm_qi (fun z1 m1 =>
      ((vm_32 (v3 + 1)) ∧ (0 ≤ (v3 + 1) ∧ (v3 + 1) < (m1 903 0)) ∧ (vm_32 (v3 + 2)) ∧ (0 ≤ (v3 + 2) ∧ (v3 + 2) < (m1 903 0))) ∧
      (vm_C 260 [vm_r 96, vm_i (m1 902 (v3 + 1)), vm_i (m1 902 (v3 + 2))] m1 (vm_qi (fun z2 m2 =>
        ((z1 = z2 →
          kuL_law_1673 v3 w4 w6 m2 Q) ∧ (¬ z1 = z2 →
          Q 0 m2))))))))) : kuL_law_1130 v3 w4 w6 m Q := by
  show vm_G 301 1130 [some (vm_r 902), some (vm_r 0), some (vm_r 96), some (vm_i v3), w4, none, w6, none] [] m (vm_qi Q)
  obtain ⟨⟨o1_0, o1_1, o1_2, o1_3⟩, h⟩ := h
  refine vm_gp [(.aload 1, 0, 0, []), (.aload 0, 0, 0, []), (.iload 3, 0, 0, []), (.iconst 1, 0, 0, []), (.iadd, 0, 0, []), (.iaload, 0, 0, []), (.aload 0, 0, 0, []), (.iload 3, 0, 0, []), (.iconst 2, 0, 0, []), (.iadd, 0, 0, []), (.iaload, 0, 0, [])] (pc1 := 1141) (ls1 := [some (vm_r 902), some (vm_r 0), some (vm_r 96), some (vm_i v3), w4, none, w6, none]) (st1 := [vm_i (m 902 (v3 + 2)), vm_i (m 902 (v3 + 1)), vm_r 0]) (m1 := m) (ob := ((((((true && decide (vm_32 (v3 + 1))) && decide ((902 : Nat) = 902)) && decide (0 ≤ (v3 + 1) ∧ (v3 + 1) < (m 903 0))) && decide (vm_32 (v3 + 2))) && decide ((902 : Nat) = 902)) && decide (0 ≤ (v3 + 2) ∧ (v3 + 2) < (m 903 0)))) (by decide +kernel) rfl (vm_t (vm_t (vm_t (vm_t (vm_t (vm_t rfl o1_0) rfl) o1_1) o1_2) rfl) o1_3) ?_
  refine vm_gc (g := 131) (na := 3) (av := [vm_r 0, vm_i (m 902 (v3 + 1)), vm_i (m 902 (v3 + 2))]) (rest := []) (i := (.invokevirtual 0, 131, 3, [])) (len := 3) (by decide +kernel) rfl rfl rfl (by decide +kernel) (by decide +kernel) rfl rfl (vm_u (vm_okh_v (c := 10) (by decide +kernel) (by decide +kernel)) (show vm_okn 131 3 0 0 0 3 = true by decide +kernel)) ?_
  refine vm_G.mono h ?_
  rintro _ m1 ⟨z1, rfl, h⟩
  show vm_G 301 1144 [some (vm_r 902), some (vm_r 0), some (vm_r 96), some (vm_i v3), w4, none, w6, none] [vm_i z1] m1 _
  obtain ⟨⟨o2_0, o2_1, o2_2, o2_3⟩, h⟩ := h
  refine vm_gp [(.aload 2, 0, 0, []), (.aload 0, 0, 0, []), (.iload 3, 0, 0, []), (.iconst 1, 0, 0, []), (.iadd, 0, 0, []), (.iaload, 0, 0, []), (.aload 0, 0, 0, []), (.iload 3, 0, 0, []), (.iconst 2, 0, 0, []), (.iadd, 0, 0, []), (.iaload, 0, 0, [])] (pc1 := 1155) (ls1 := [some (vm_r 902), some (vm_r 0), some (vm_r 96), some (vm_i v3), w4, none, w6, none]) (st1 := [vm_i (m1 902 (v3 + 2)), vm_i (m1 902 (v3 + 1)), vm_r 96, vm_i z1]) (m1 := m1) (ob := ((((((true && decide (vm_32 (v3 + 1))) && decide ((902 : Nat) = 902)) && decide (0 ≤ (v3 + 1) ∧ (v3 + 1) < (m1 903 0))) && decide (vm_32 (v3 + 2))) && decide ((902 : Nat) = 902)) && decide (0 ≤ (v3 + 2) ∧ (v3 + 2) < (m1 903 0)))) (by decide +kernel) rfl (vm_t (vm_t (vm_t (vm_t (vm_t (vm_t rfl o2_0) rfl) o2_1) o2_2) rfl) o2_3) ?_
  refine vm_gc (g := 260) (na := 3) (av := [vm_r 96, vm_i (m1 902 (v3 + 1)), vm_i (m1 902 (v3 + 2))]) (rest := [vm_i z1]) (i := (.invokevirtual 0, 260, 3, [])) (len := 3) (by decide +kernel) rfl rfl rfl (by decide +kernel) (by decide +kernel) rfl rfl (vm_u (vm_okh_v (c := 11) (by decide +kernel) (by decide +kernel)) (show vm_okn 260 3 1 0 0 3 = true by decide +kernel)) ?_
  refine vm_G.mono h ?_
  rintro _ m2 ⟨z2, rfl, h⟩
  show vm_G 301 1158 [some (vm_r 902), some (vm_r 0), some (vm_r 96), some (vm_i v3), w4, none, w6, none] [vm_i z2, vm_i z1] m2 _
  refine vm_gj (c := z1 = z2) (t := 1673) (e := 1161) (i := (.if_icmp .eq 0, 1673, 0, [])) (len := 3) (st1 := []) (by decide +kernel) rfl rfl (fun c1 => ?_) (fun c1 => ?_)
  · replace h := h.1 c1
    exact h
  · replace h := h.2 c1
    refine vm_gp [(.iconst 0, 0, 0, [])] (pc1 := 1162) (ls1 := [some (vm_r 902), some (vm_r 0), some (vm_r 96), some (vm_i v3), w4, none, w6, none]) (st1 := [vm_i 0]) (m1 := m2) (ob := true) (by decide +kernel) rfl rfl ?_
    exact vm_gr (r := some (vm_i 0)) (i := (.ireturn, 2, 0, [])) (len := 1) (by decide +kernel) rfl rfl (by decide) ⟨_, rfl, h⟩
set_option maxRecDepth 20000 in
theorem ruL_law_1163 {v3 : Int} {w4 : Option vm_V} {w6 : Option vm_V} {m : vm_M} {Q : Int → vm_M → Prop}  (h :
    ((vm_32 (v3 + 1)) ∧ (0 ≤ (v3 + 1) ∧ (v3 + 1) < (m 903 0))) ∧
    (vm_C 132 [vm_r 0, vm_i (m 902 (v3 + 1))] m (vm_qi (fun z1 m1 =>
      ((vm_32 (v3 + 1)) ∧ (0 ≤ (v3 + 1) ∧ (v3 + 1) < (m1 903 0))) ∧
      (vm_C 261 [vm_r 96, vm_i (m1 902 (v3 + 1))] m1 (vm_qi (fun z2 m2 =>
        ((z1 = z2 →
          kuL_law_1673 v3 w4 w6 m2 Q) ∧ (¬ z1 = z2 →
          Q 0 m2))))))))) : kuL_law_1163 v3 w4 w6 m Q := by
  show vm_G 301 1163 [some (vm_r 902), some (vm_r 0), some (vm_r 96), some (vm_i v3), w4, none, w6, none] [] m (vm_qi Q)
  obtain ⟨⟨o1_0, o1_1⟩, h⟩ := h
  refine vm_gp [(.aload 1, 0, 0, []), (.aload 0, 0, 0, []), (.iload 3, 0, 0, []), (.iconst 1, 0, 0, []), (.iadd, 0, 0, []), (.iaload, 0, 0, [])] (pc1 := 1169) (ls1 := [some (vm_r 902), some (vm_r 0), some (vm_r 96), some (vm_i v3), w4, none, w6, none]) (st1 := [vm_i (m 902 (v3 + 1)), vm_r 0]) (m1 := m) (ob := (((true && decide (vm_32 (v3 + 1))) && decide ((902 : Nat) = 902)) && decide (0 ≤ (v3 + 1) ∧ (v3 + 1) < (m 903 0)))) (by decide +kernel) rfl (vm_t (vm_t (vm_t rfl o1_0) rfl) o1_1) ?_
  refine vm_gc (g := 132) (na := 2) (av := [vm_r 0, vm_i (m 902 (v3 + 1))]) (rest := []) (i := (.invokevirtual 0, 132, 2, [])) (len := 3) (by decide +kernel) rfl rfl rfl (by decide +kernel) (by decide +kernel) rfl rfl (vm_u (vm_okh_v (c := 10) (by decide +kernel) (by decide +kernel)) (show vm_okn 132 2 0 0 0 2 = true by decide +kernel)) ?_
  refine vm_G.mono h ?_
  rintro _ m1 ⟨z1, rfl, h⟩
  show vm_G 301 1172 [some (vm_r 902), some (vm_r 0), some (vm_r 96), some (vm_i v3), w4, none, w6, none] [vm_i z1] m1 _
  obtain ⟨⟨o2_0, o2_1⟩, h⟩ := h
  refine vm_gp [(.aload 2, 0, 0, []), (.aload 0, 0, 0, []), (.iload 3, 0, 0, []), (.iconst 1, 0, 0, []), (.iadd, 0, 0, []), (.iaload, 0, 0, [])] (pc1 := 1178) (ls1 := [some (vm_r 902), some (vm_r 0), some (vm_r 96), some (vm_i v3), w4, none, w6, none]) (st1 := [vm_i (m1 902 (v3 + 1)), vm_r 96, vm_i z1]) (m1 := m1) (ob := (((true && decide (vm_32 (v3 + 1))) && decide ((902 : Nat) = 902)) && decide (0 ≤ (v3 + 1) ∧ (v3 + 1) < (m1 903 0)))) (by decide +kernel) rfl (vm_t (vm_t (vm_t rfl o2_0) rfl) o2_1) ?_
  refine vm_gc (g := 261) (na := 2) (av := [vm_r 96, vm_i (m1 902 (v3 + 1))]) (rest := [vm_i z1]) (i := (.invokevirtual 0, 261, 2, [])) (len := 3) (by decide +kernel) rfl rfl rfl (by decide +kernel) (by decide +kernel) rfl rfl (vm_u (vm_okh_v (c := 11) (by decide +kernel) (by decide +kernel)) (show vm_okn 261 2 1 0 0 2 = true by decide +kernel)) ?_
  refine vm_G.mono h ?_
  rintro _ m2 ⟨z2, rfl, h⟩
  show vm_G 301 1181 [some (vm_r 902), some (vm_r 0), some (vm_r 96), some (vm_i v3), w4, none, w6, none] [vm_i z2, vm_i z1] m2 _
  refine vm_gj (c := z1 = z2) (t := 1673) (e := 1184) (i := (.if_icmp .eq 0, 1673, 0, [])) (len := 3) (st1 := []) (by decide +kernel) rfl rfl (fun c1 => ?_) (fun c1 => ?_)
  · replace h := h.1 c1
    exact h
  · replace h := h.2 c1
    refine vm_gp [(.iconst 0, 0, 0, [])] (pc1 := 1185) (ls1 := [some (vm_r 902), some (vm_r 0), some (vm_r 96), some (vm_i v3), w4, none, w6, none]) (st1 := [vm_i 0]) (m1 := m2) (ob := true) (by decide +kernel) rfl rfl ?_
    exact vm_gr (r := some (vm_i 0)) (i := (.ireturn, 2, 0, [])) (len := 1) (by decide +kernel) rfl rfl (by decide) ⟨_, rfl, h⟩
set_option maxRecDepth 20000 in
theorem ruL_law_1186 {v3 : Int} {w4 : Option vm_V} {w6 : Option vm_V} {m : vm_M} {Q : Int → vm_M → Prop}  (h :
    ((vm_32 (v3 + 1)) ∧ (0 ≤ (v3 + 1) ∧ (v3 + 1) < (m 903 0)) ∧ (vm_32 (v3 + 2)) ∧ (0 ≤ (v3 + 2) ∧ (v3 + 2) < (m 903 0)) ∧ (vm_32 (v3 + 3)) ∧ (0 ≤ (v3 + 3) ∧ (v3 + 3) < (m 903 0))) ∧
    (vm_C 133 [vm_r 0, vm_i (m 902 (v3 + 1)), vm_i (m 902 (v3 + 2)), vm_i (m 902 (v3 + 3))] m (vm_qi (fun z1 m1 =>
      ((vm_32 (v3 + 1)) ∧ (0 ≤ (v3 + 1) ∧ (v3 + 1) < (m1 903 0)) ∧ (vm_32 (v3 + 2)) ∧ (0 ≤ (v3 + 2) ∧ (v3 + 2) < (m1 903 0)) ∧ (vm_32 (v3 + 3)) ∧ (0 ≤ (v3 + 3) ∧ (v3 + 3) < (m1 903 0))) ∧
      (vm_C 264 [vm_r 96, vm_i (m1 902 (v3 + 1)), vm_i (m1 902 (v3 + 2)), vm_i (m1 902 (v3 + 3))] m1 (vm_qi (fun z2 m2 =>
        ((z1 = z2 →
          kuL_law_1673 v3 w4 w6 m2 Q) ∧ (¬ z1 = z2 →
          Q 0 m2))))))))) : kuL_law_1186 v3 w4 w6 m Q := by
  show vm_G 301 1186 [some (vm_r 902), some (vm_r 0), some (vm_r 96), some (vm_i v3), w4, none, w6, none] [] m (vm_qi Q)
  obtain ⟨⟨o1_0, o1_1, o1_2, o1_3, o1_4, o1_5⟩, h⟩ := h
  refine vm_gp [(.aload 1, 0, 0, []), (.aload 0, 0, 0, []), (.iload 3, 0, 0, []), (.iconst 1, 0, 0, []), (.iadd, 0, 0, []), (.iaload, 0, 0, []), (.aload 0, 0, 0, []), (.iload 3, 0, 0, []), (.iconst 2, 0, 0, []), (.iadd, 0, 0, []), (.iaload, 0, 0, []), (.aload 0, 0, 0, []), (.iload 3, 0, 0, []), (.iconst 3, 0, 0, []), (.iadd, 0, 0, []), (.iaload, 0, 0, [])] (pc1 := 1202) (ls1 := [some (vm_r 902), some (vm_r 0), some (vm_r 96), some (vm_i v3), w4, none, w6, none]) (st1 := [vm_i (m 902 (v3 + 3)), vm_i (m 902 (v3 + 2)), vm_i (m 902 (v3 + 1)), vm_r 0]) (m1 := m) (ob := (((((((((true && decide (vm_32 (v3 + 1))) && decide ((902 : Nat) = 902)) && decide (0 ≤ (v3 + 1) ∧ (v3 + 1) < (m 903 0))) && decide (vm_32 (v3 + 2))) && decide ((902 : Nat) = 902)) && decide (0 ≤ (v3 + 2) ∧ (v3 + 2) < (m 903 0))) && decide (vm_32 (v3 + 3))) && decide ((902 : Nat) = 902)) && decide (0 ≤ (v3 + 3) ∧ (v3 + 3) < (m 903 0)))) (by decide +kernel) rfl (vm_t (vm_t (vm_t (vm_t (vm_t (vm_t (vm_t (vm_t (vm_t rfl o1_0) rfl) o1_1) o1_2) rfl) o1_3) o1_4) rfl) o1_5) ?_
  refine vm_gc (g := 133) (na := 4) (av := [vm_r 0, vm_i (m 902 (v3 + 1)), vm_i (m 902 (v3 + 2)), vm_i (m 902 (v3 + 3))]) (rest := []) (i := (.invokevirtual 0, 133, 4, [])) (len := 3) (by decide +kernel) rfl rfl rfl (by decide +kernel) (by decide +kernel) rfl rfl (vm_u (vm_okh_v (c := 10) (by decide +kernel) (by decide +kernel)) (show vm_okn 133 4 0 0 0 4 = true by decide +kernel)) ?_
  refine vm_G.mono h ?_
  rintro _ m1 ⟨z1, rfl, h⟩
  show vm_G 301 1205 [some (vm_r 902), some (vm_r 0), some (vm_r 96), some (vm_i v3), w4, none, w6, none] [vm_i z1] m1 _
  obtain ⟨⟨o2_0, o2_1, o2_2, o2_3, o2_4, o2_5⟩, h⟩ := h
  refine vm_gp [(.aload 2, 0, 0, []), (.aload 0, 0, 0, []), (.iload 3, 0, 0, []), (.iconst 1, 0, 0, []), (.iadd, 0, 0, []), (.iaload, 0, 0, []), (.aload 0, 0, 0, []), (.iload 3, 0, 0, []), (.iconst 2, 0, 0, []), (.iadd, 0, 0, []), (.iaload, 0, 0, []), (.aload 0, 0, 0, []), (.iload 3, 0, 0, []), (.iconst 3, 0, 0, []), (.iadd, 0, 0, []), (.iaload, 0, 0, [])] (pc1 := 1221) (ls1 := [some (vm_r 902), some (vm_r 0), some (vm_r 96), some (vm_i v3), w4, none, w6, none]) (st1 := [vm_i (m1 902 (v3 + 3)), vm_i (m1 902 (v3 + 2)), vm_i (m1 902 (v3 + 1)), vm_r 96, vm_i z1]) (m1 := m1) (ob := (((((((((true && decide (vm_32 (v3 + 1))) && decide ((902 : Nat) = 902)) && decide (0 ≤ (v3 + 1) ∧ (v3 + 1) < (m1 903 0))) && decide (vm_32 (v3 + 2))) && decide ((902 : Nat) = 902)) && decide (0 ≤ (v3 + 2) ∧ (v3 + 2) < (m1 903 0))) && decide (vm_32 (v3 + 3))) && decide ((902 : Nat) = 902)) && decide (0 ≤ (v3 + 3) ∧ (v3 + 3) < (m1 903 0)))) (by decide +kernel) rfl (vm_t (vm_t (vm_t (vm_t (vm_t (vm_t (vm_t (vm_t (vm_t rfl o2_0) rfl) o2_1) o2_2) rfl) o2_3) o2_4) rfl) o2_5) ?_
  refine vm_gc (g := 264) (na := 4) (av := [vm_r 96, vm_i (m1 902 (v3 + 1)), vm_i (m1 902 (v3 + 2)), vm_i (m1 902 (v3 + 3))]) (rest := [vm_i z1]) (i := (.invokevirtual 0, 264, 4, [])) (len := 3) (by decide +kernel) rfl rfl rfl (by decide +kernel) (by decide +kernel) rfl rfl (vm_u (vm_okh_v (c := 11) (by decide +kernel) (by decide +kernel)) (show vm_okn 264 4 1 0 0 4 = true by decide +kernel)) ?_
  refine vm_G.mono h ?_
  rintro _ m2 ⟨z2, rfl, h⟩
  show vm_G 301 1224 [some (vm_r 902), some (vm_r 0), some (vm_r 96), some (vm_i v3), w4, none, w6, none] [vm_i z2, vm_i z1] m2 _
  refine vm_gj (c := z1 = z2) (t := 1673) (e := 1227) (i := (.if_icmp .eq 0, 1673, 0, [])) (len := 3) (st1 := []) (by decide +kernel) rfl rfl (fun c1 => ?_) (fun c1 => ?_)
  · replace h := h.1 c1
    exact h
  · replace h := h.2 c1
    refine vm_gp [(.iconst 0, 0, 0, [])] (pc1 := 1228) (ls1 := [some (vm_r 902), some (vm_r 0), some (vm_r 96), some (vm_i v3), w4, none, w6, none]) (st1 := [vm_i 0]) (m1 := m2) (ob := true) (by decide +kernel) rfl rfl ?_
    exact vm_gr (r := some (vm_i 0)) (i := (.ireturn, 2, 0, [])) (len := 1) (by decide +kernel) rfl rfl (by decide) ⟨_, rfl, h⟩
set_option maxRecDepth 20000 in
theorem ruL_law_1229 {v3 : Int} {w4 : Option vm_V} {w6 : Option vm_V} {m : vm_M} {Q : Int → vm_M → Prop}  (h :
    ((vm_32 (v3 + 1)) ∧ (0 ≤ (v3 + 1) ∧ (v3 + 1) < (m 903 0))) ∧
    (vm_C 134 [vm_r 0, vm_i (m 902 (v3 + 1))] m (vm_qi (fun z1 m1 =>
      ((vm_32 (v3 + 1)) ∧ (0 ≤ (v3 + 1) ∧ (v3 + 1) < (m1 903 0))) ∧
      (vm_C 265 [vm_r 96, vm_i (m1 902 (v3 + 1))] m1 (vm_qi (fun z2 m2 =>
        ((z1 = z2 →
          kuL_law_1673 v3 w4 w6 m2 Q) ∧ (¬ z1 = z2 →
          Q 0 m2))))))))) : kuL_law_1229 v3 w4 w6 m Q := by
  show vm_G 301 1229 [some (vm_r 902), some (vm_r 0), some (vm_r 96), some (vm_i v3), w4, none, w6, none] [] m (vm_qi Q)
  obtain ⟨⟨o1_0, o1_1⟩, h⟩ := h
  refine vm_gp [(.aload 1, 0, 0, []), (.aload 0, 0, 0, []), (.iload 3, 0, 0, []), (.iconst 1, 0, 0, []), (.iadd, 0, 0, []), (.iaload, 0, 0, [])] (pc1 := 1235) (ls1 := [some (vm_r 902), some (vm_r 0), some (vm_r 96), some (vm_i v3), w4, none, w6, none]) (st1 := [vm_i (m 902 (v3 + 1)), vm_r 0]) (m1 := m) (ob := (((true && decide (vm_32 (v3 + 1))) && decide ((902 : Nat) = 902)) && decide (0 ≤ (v3 + 1) ∧ (v3 + 1) < (m 903 0)))) (by decide +kernel) rfl (vm_t (vm_t (vm_t rfl o1_0) rfl) o1_1) ?_
  refine vm_gc (g := 134) (na := 2) (av := [vm_r 0, vm_i (m 902 (v3 + 1))]) (rest := []) (i := (.invokevirtual 0, 134, 2, [])) (len := 3) (by decide +kernel) rfl rfl rfl (by decide +kernel) (by decide +kernel) rfl rfl (vm_u (vm_okh_v (c := 10) (by decide +kernel) (by decide +kernel)) (show vm_okn 134 2 0 0 0 2 = true by decide +kernel)) ?_
  refine vm_G.mono h ?_
  rintro _ m1 ⟨z1, rfl, h⟩
  show vm_G 301 1238 [some (vm_r 902), some (vm_r 0), some (vm_r 96), some (vm_i v3), w4, none, w6, none] [vm_i z1] m1 _
  obtain ⟨⟨o2_0, o2_1⟩, h⟩ := h
  refine vm_gp [(.aload 2, 0, 0, []), (.aload 0, 0, 0, []), (.iload 3, 0, 0, []), (.iconst 1, 0, 0, []), (.iadd, 0, 0, []), (.iaload, 0, 0, [])] (pc1 := 1244) (ls1 := [some (vm_r 902), some (vm_r 0), some (vm_r 96), some (vm_i v3), w4, none, w6, none]) (st1 := [vm_i (m1 902 (v3 + 1)), vm_r 96, vm_i z1]) (m1 := m1) (ob := (((true && decide (vm_32 (v3 + 1))) && decide ((902 : Nat) = 902)) && decide (0 ≤ (v3 + 1) ∧ (v3 + 1) < (m1 903 0)))) (by decide +kernel) rfl (vm_t (vm_t (vm_t rfl o2_0) rfl) o2_1) ?_
  refine vm_gc (g := 265) (na := 2) (av := [vm_r 96, vm_i (m1 902 (v3 + 1))]) (rest := [vm_i z1]) (i := (.invokevirtual 0, 265, 2, [])) (len := 3) (by decide +kernel) rfl rfl rfl (by decide +kernel) (by decide +kernel) rfl rfl (vm_u (vm_okh_v (c := 11) (by decide +kernel) (by decide +kernel)) (show vm_okn 265 2 1 0 0 2 = true by decide +kernel)) ?_
  refine vm_G.mono h ?_
  rintro _ m2 ⟨z2, rfl, h⟩
  show vm_G 301 1247 [some (vm_r 902), some (vm_r 0), some (vm_r 96), some (vm_i v3), w4, none, w6, none] [vm_i z2, vm_i z1] m2 _
  refine vm_gj (c := z1 = z2) (t := 1673) (e := 1250) (i := (.if_icmp .eq 0, 1673, 0, [])) (len := 3) (st1 := []) (by decide +kernel) rfl rfl (fun c1 => ?_) (fun c1 => ?_)
  · replace h := h.1 c1
    exact h
  · replace h := h.2 c1
    refine vm_gp [(.iconst 0, 0, 0, [])] (pc1 := 1251) (ls1 := [some (vm_r 902), some (vm_r 0), some (vm_r 96), some (vm_i v3), w4, none, w6, none]) (st1 := [vm_i 0]) (m1 := m2) (ob := true) (by decide +kernel) rfl rfl ?_
    exact vm_gr (r := some (vm_i 0)) (i := (.ireturn, 2, 0, [])) (len := 1) (by decide +kernel) rfl rfl (by decide) ⟨_, rfl, h⟩
set_option maxRecDepth 20000 in
theorem ruL_law_1252 {v3 : Int} {w4 : Option vm_V} {w6 : Option vm_V} {m : vm_M} {Q : Int → vm_M → Prop}  (h :
    ((vm_32 (v3 + 1)) ∧ (0 ≤ (v3 + 1) ∧ (v3 + 1) < (m 903 0))) ∧
    (((m 902 (v3 + 1)) = 0 →
      (vm_C 135 [vm_r 0, vm_i 0] m (vm_qi (fun z1 m1 =>
        ((vm_32 (v3 + 1)) ∧ (0 ≤ (v3 + 1) ∧ (v3 + 1) < (m1 903 0))) ∧
        (((m1 902 (v3 + 1)) = 0 →
          (vm_C 266 [vm_r 96, vm_i 0] m1 (vm_qi (fun z2 m2 =>
            ((z1 = z2 →
              kuL_law_1673 v3 w4 w6 m2 Q) ∧ (¬ z1 = z2 →
              Q 0 m2)))))) ∧ (¬ (m1 902 (v3 + 1)) = 0 →
          (vm_C 266 [vm_r 96, vm_i 1] m1 (vm_qi (fun z3 m3 =>
            ((z1 = z3 →
              kuL_law_1673 v3 w4 w6 m3 Q) ∧ (¬ z1 = z3 →
              Q 0 m3))))))))))) ∧ (¬ (m 902 (v3 + 1)) = 0 →
      (vm_C 135 [vm_r 0, vm_i 1] m (vm_qi (fun z4 m4 =>
        ((vm_32 (v3 + 1)) ∧ (0 ≤ (v3 + 1) ∧ (v3 + 1) < (m4 903 0))) ∧
        (((m4 902 (v3 + 1)) = 0 →
          (vm_C 266 [vm_r 96, vm_i 0] m4 (vm_qi (fun z5 m5 =>
            ((z4 = z5 →
              kuL_law_1673 v3 w4 w6 m5 Q) ∧ (¬ z4 = z5 →
              Q 0 m5)))))) ∧ (¬ (m4 902 (v3 + 1)) = 0 →
          (vm_C 266 [vm_r 96, vm_i 1] m4 (vm_qi (fun z6 m6 =>
            ((z4 = z6 →
              kuL_law_1673 v3 w4 w6 m6 Q) ∧ (¬ z4 = z6 →
              Q 0 m6))))))))))))) : kuL_law_1252 v3 w4 w6 m Q := by
  show vm_G 301 1252 [some (vm_r 902), some (vm_r 0), some (vm_r 96), some (vm_i v3), w4, none, w6, none] [] m (vm_qi Q)
  obtain ⟨⟨o1_0, o1_1⟩, h⟩ := h
  refine vm_gp [(.aload 1, 0, 0, []), (.aload 0, 0, 0, []), (.iload 3, 0, 0, []), (.iconst 1, 0, 0, []), (.iadd, 0, 0, []), (.iaload, 0, 0, [])] (pc1 := 1258) (ls1 := [some (vm_r 902), some (vm_r 0), some (vm_r 96), some (vm_i v3), w4, none, w6, none]) (st1 := [vm_i (m 902 (v3 + 1)), vm_r 0]) (m1 := m) (ob := (((true && decide (vm_32 (v3 + 1))) && decide ((902 : Nat) = 902)) && decide (0 ≤ (v3 + 1) ∧ (v3 + 1) < (m 903 0)))) (by decide +kernel) rfl (vm_t (vm_t (vm_t rfl o1_0) rfl) o1_1) ?_
  refine vm_gj (c := (m 902 (v3 + 1)) = 0) (t := 1265) (e := 1261) (i := (.ifCond .eq 0, 1265, 0, [])) (len := 3) (st1 := [vm_r 0]) (by decide +kernel) rfl rfl (fun c1 => ?_) (fun c1 => ?_)
  · replace h := h.1 c1
    refine vm_gp [(.iconst 0, 0, 0, [])] (pc1 := 1266) (ls1 := [some (vm_r 902), some (vm_r 0), some (vm_r 96), some (vm_i v3), w4, none, w6, none]) (st1 := [vm_i 0, vm_r 0]) (m1 := m) (ob := true) (by decide +kernel) rfl rfl ?_
    refine vm_gc (g := 135) (na := 2) (av := [vm_r 0, vm_i 0]) (rest := []) (i := (.invokevirtual 0, 135, 2, [])) (len := 3) (by decide +kernel) rfl rfl rfl (by decide +kernel) (by decide +kernel) rfl rfl (vm_u (vm_okh_v (c := 10) (by decide +kernel) (by decide +kernel)) (show vm_okn 135 2 0 0 0 2 = true by decide +kernel)) ?_
    refine vm_G.mono h ?_
    rintro _ m1 ⟨z1, rfl, h⟩
    show vm_G 301 1269 [some (vm_r 902), some (vm_r 0), some (vm_r 96), some (vm_i v3), w4, none, w6, none] [vm_i z1] m1 _
    obtain ⟨⟨o3_0, o3_1⟩, h⟩ := h
    refine vm_gp [(.aload 2, 0, 0, []), (.aload 0, 0, 0, []), (.iload 3, 0, 0, []), (.iconst 1, 0, 0, []), (.iadd, 0, 0, []), (.iaload, 0, 0, [])] (pc1 := 1275) (ls1 := [some (vm_r 902), some (vm_r 0), some (vm_r 96), some (vm_i v3), w4, none, w6, none]) (st1 := [vm_i (m1 902 (v3 + 1)), vm_r 96, vm_i z1]) (m1 := m1) (ob := (((true && decide (vm_32 (v3 + 1))) && decide ((902 : Nat) = 902)) && decide (0 ≤ (v3 + 1) ∧ (v3 + 1) < (m1 903 0)))) (by decide +kernel) rfl (vm_t (vm_t (vm_t rfl o3_0) rfl) o3_1) ?_
    refine vm_gj (c := (m1 902 (v3 + 1)) = 0) (t := 1282) (e := 1278) (i := (.ifCond .eq 0, 1282, 0, [])) (len := 3) (st1 := [vm_r 96, vm_i z1]) (by decide +kernel) rfl rfl (fun c2 => ?_) (fun c2 => ?_)
    · replace h := h.1 c2
      refine vm_gp [(.iconst 0, 0, 0, [])] (pc1 := 1283) (ls1 := [some (vm_r 902), some (vm_r 0), some (vm_r 96), some (vm_i v3), w4, none, w6, none]) (st1 := [vm_i 0, vm_r 96, vm_i z1]) (m1 := m1) (ob := true) (by decide +kernel) rfl rfl ?_
      refine vm_gc (g := 266) (na := 2) (av := [vm_r 96, vm_i 0]) (rest := [vm_i z1]) (i := (.invokevirtual 0, 266, 2, [])) (len := 3) (by decide +kernel) rfl rfl rfl (by decide +kernel) (by decide +kernel) rfl rfl (vm_u (vm_okh_v (c := 11) (by decide +kernel) (by decide +kernel)) (show vm_okn 266 2 1 0 0 2 = true by decide +kernel)) ?_
      refine vm_G.mono h ?_
      rintro _ m2 ⟨z2, rfl, h⟩
      show vm_G 301 1286 [some (vm_r 902), some (vm_r 0), some (vm_r 96), some (vm_i v3), w4, none, w6, none] [vm_i z2, vm_i z1] m2 _
      refine vm_gj (c := z1 = z2) (t := 1673) (e := 1289) (i := (.if_icmp .eq 0, 1673, 0, [])) (len := 3) (st1 := []) (by decide +kernel) rfl rfl (fun c3 => ?_) (fun c3 => ?_)
      · replace h := h.1 c3
        exact h
      · replace h := h.2 c3
        refine vm_gp [(.iconst 0, 0, 0, [])] (pc1 := 1290) (ls1 := [some (vm_r 902), some (vm_r 0), some (vm_r 96), some (vm_i v3), w4, none, w6, none]) (st1 := [vm_i 0]) (m1 := m2) (ob := true) (by decide +kernel) rfl rfl ?_
        exact vm_gr (r := some (vm_i 0)) (i := (.ireturn, 2, 0, [])) (len := 1) (by decide +kernel) rfl rfl (by decide) ⟨_, rfl, h⟩
    · replace h := h.2 c2
      refine vm_gp [(.iconst 1, 0, 0, []), (.goto 0, 1283, 0, [])] (pc1 := 1283) (ls1 := [some (vm_r 902), some (vm_r 0), some (vm_r 96), some (vm_i v3), w4, none, w6, none]) (st1 := [vm_i 1, vm_r 96, vm_i z1]) (m1 := m1) (ob := true) (by decide +kernel) rfl rfl ?_
      refine vm_gc (g := 266) (na := 2) (av := [vm_r 96, vm_i 1]) (rest := [vm_i z1]) (i := (.invokevirtual 0, 266, 2, [])) (len := 3) (by decide +kernel) rfl rfl rfl (by decide +kernel) (by decide +kernel) rfl rfl (vm_u (vm_okh_v (c := 11) (by decide +kernel) (by decide +kernel)) (show vm_okn 266 2 1 0 0 2 = true by decide +kernel)) ?_
      refine vm_G.mono h ?_
      rintro _ m3 ⟨z3, rfl, h⟩
      show vm_G 301 1286 [some (vm_r 902), some (vm_r 0), some (vm_r 96), some (vm_i v3), w4, none, w6, none] [vm_i z3, vm_i z1] m3 _
      refine vm_gj (c := z1 = z3) (t := 1673) (e := 1289) (i := (.if_icmp .eq 0, 1673, 0, [])) (len := 3) (st1 := []) (by decide +kernel) rfl rfl (fun c4 => ?_) (fun c4 => ?_)
      · replace h := h.1 c4
        exact h
      · replace h := h.2 c4
        refine vm_gp [(.iconst 0, 0, 0, [])] (pc1 := 1290) (ls1 := [some (vm_r 902), some (vm_r 0), some (vm_r 96), some (vm_i v3), w4, none, w6, none]) (st1 := [vm_i 0]) (m1 := m3) (ob := true) (by decide +kernel) rfl rfl ?_
        exact vm_gr (r := some (vm_i 0)) (i := (.ireturn, 2, 0, [])) (len := 1) (by decide +kernel) rfl rfl (by decide) ⟨_, rfl, h⟩
  · replace h := h.2 c1
    refine vm_gp [(.iconst 1, 0, 0, []), (.goto 0, 1266, 0, [])] (pc1 := 1266) (ls1 := [some (vm_r 902), some (vm_r 0), some (vm_r 96), some (vm_i v3), w4, none, w6, none]) (st1 := [vm_i 1, vm_r 0]) (m1 := m) (ob := true) (by decide +kernel) rfl rfl ?_
    refine vm_gc (g := 135) (na := 2) (av := [vm_r 0, vm_i 1]) (rest := []) (i := (.invokevirtual 0, 135, 2, [])) (len := 3) (by decide +kernel) rfl rfl rfl (by decide +kernel) (by decide +kernel) rfl rfl (vm_u (vm_okh_v (c := 10) (by decide +kernel) (by decide +kernel)) (show vm_okn 135 2 0 0 0 2 = true by decide +kernel)) ?_
    refine vm_G.mono h ?_
    rintro _ m4 ⟨z4, rfl, h⟩
    show vm_G 301 1269 [some (vm_r 902), some (vm_r 0), some (vm_r 96), some (vm_i v3), w4, none, w6, none] [vm_i z4] m4 _
    obtain ⟨⟨o13_0, o13_1⟩, h⟩ := h
    refine vm_gp [(.aload 2, 0, 0, []), (.aload 0, 0, 0, []), (.iload 3, 0, 0, []), (.iconst 1, 0, 0, []), (.iadd, 0, 0, []), (.iaload, 0, 0, [])] (pc1 := 1275) (ls1 := [some (vm_r 902), some (vm_r 0), some (vm_r 96), some (vm_i v3), w4, none, w6, none]) (st1 := [vm_i (m4 902 (v3 + 1)), vm_r 96, vm_i z4]) (m1 := m4) (ob := (((true && decide (vm_32 (v3 + 1))) && decide ((902 : Nat) = 902)) && decide (0 ≤ (v3 + 1) ∧ (v3 + 1) < (m4 903 0)))) (by decide +kernel) rfl (vm_t (vm_t (vm_t rfl o13_0) rfl) o13_1) ?_
    refine vm_gj (c := (m4 902 (v3 + 1)) = 0) (t := 1282) (e := 1278) (i := (.ifCond .eq 0, 1282, 0, [])) (len := 3) (st1 := [vm_r 96, vm_i z4]) (by decide +kernel) rfl rfl (fun c5 => ?_) (fun c5 => ?_)
    · replace h := h.1 c5
      refine vm_gp [(.iconst 0, 0, 0, [])] (pc1 := 1283) (ls1 := [some (vm_r 902), some (vm_r 0), some (vm_r 96), some (vm_i v3), w4, none, w6, none]) (st1 := [vm_i 0, vm_r 96, vm_i z4]) (m1 := m4) (ob := true) (by decide +kernel) rfl rfl ?_
      refine vm_gc (g := 266) (na := 2) (av := [vm_r 96, vm_i 0]) (rest := [vm_i z4]) (i := (.invokevirtual 0, 266, 2, [])) (len := 3) (by decide +kernel) rfl rfl rfl (by decide +kernel) (by decide +kernel) rfl rfl (vm_u (vm_okh_v (c := 11) (by decide +kernel) (by decide +kernel)) (show vm_okn 266 2 1 0 0 2 = true by decide +kernel)) ?_
      refine vm_G.mono h ?_
      rintro _ m5 ⟨z5, rfl, h⟩
      show vm_G 301 1286 [some (vm_r 902), some (vm_r 0), some (vm_r 96), some (vm_i v3), w4, none, w6, none] [vm_i z5, vm_i z4] m5 _
      refine vm_gj (c := z4 = z5) (t := 1673) (e := 1289) (i := (.if_icmp .eq 0, 1673, 0, [])) (len := 3) (st1 := []) (by decide +kernel) rfl rfl (fun c6 => ?_) (fun c6 => ?_)
      · replace h := h.1 c6
        exact h
      · replace h := h.2 c6
        refine vm_gp [(.iconst 0, 0, 0, [])] (pc1 := 1290) (ls1 := [some (vm_r 902), some (vm_r 0), some (vm_r 96), some (vm_i v3), w4, none, w6, none]) (st1 := [vm_i 0]) (m1 := m5) (ob := true) (by decide +kernel) rfl rfl ?_
        exact vm_gr (r := some (vm_i 0)) (i := (.ireturn, 2, 0, [])) (len := 1) (by decide +kernel) rfl rfl (by decide) ⟨_, rfl, h⟩
    · replace h := h.2 c5
      refine vm_gp [(.iconst 1, 0, 0, []), (.goto 0, 1283, 0, [])] (pc1 := 1283) (ls1 := [some (vm_r 902), some (vm_r 0), some (vm_r 96), some (vm_i v3), w4, none, w6, none]) (st1 := [vm_i 1, vm_r 96, vm_i z4]) (m1 := m4) (ob := true) (by decide +kernel) rfl rfl ?_
      refine vm_gc (g := 266) (na := 2) (av := [vm_r 96, vm_i 1]) (rest := [vm_i z4]) (i := (.invokevirtual 0, 266, 2, [])) (len := 3) (by decide +kernel) rfl rfl rfl (by decide +kernel) (by decide +kernel) rfl rfl (vm_u (vm_okh_v (c := 11) (by decide +kernel) (by decide +kernel)) (show vm_okn 266 2 1 0 0 2 = true by decide +kernel)) ?_
      refine vm_G.mono h ?_
      rintro _ m6 ⟨z6, rfl, h⟩
      show vm_G 301 1286 [some (vm_r 902), some (vm_r 0), some (vm_r 96), some (vm_i v3), w4, none, w6, none] [vm_i z6, vm_i z4] m6 _
      refine vm_gj (c := z4 = z6) (t := 1673) (e := 1289) (i := (.if_icmp .eq 0, 1673, 0, [])) (len := 3) (st1 := []) (by decide +kernel) rfl rfl (fun c7 => ?_) (fun c7 => ?_)
      · replace h := h.1 c7
        exact h
      · replace h := h.2 c7
        refine vm_gp [(.iconst 0, 0, 0, [])] (pc1 := 1290) (ls1 := [some (vm_r 902), some (vm_r 0), some (vm_r 96), some (vm_i v3), w4, none, w6, none]) (st1 := [vm_i 0]) (m1 := m6) (ob := true) (by decide +kernel) rfl rfl ?_
        exact vm_gr (r := some (vm_i 0)) (i := (.ireturn, 2, 0, [])) (len := 1) (by decide +kernel) rfl rfl (by decide) ⟨_, rfl, h⟩
set_option maxRecDepth 20000 in
theorem ruL_law_1291 {v3 : Int} {w4 : Option vm_V} {w6 : Option vm_V} {m : vm_M} {Q : Int → vm_M → Prop}  (h :
    ((vm_32 (v3 + 1)) ∧ (0 ≤ (v3 + 1) ∧ (v3 + 1) < (m 903 0)) ∧ (vm_32 (v3 + 2)) ∧ (0 ≤ (v3 + 2) ∧ (v3 + 2) < (m 903 0))) ∧
    (vm_C 136 [vm_r 0, vm_i (m 902 (v3 + 1)), vm_i (m 902 (v3 + 2))] m (vm_qi (fun z1 m1 =>
      ((vm_32 (v3 + 1)) ∧ (0 ≤ (v3 + 1) ∧ (v3 + 1) < (m1 903 0)) ∧ (vm_32 (v3 + 2)) ∧ (0 ≤ (v3 + 2) ∧ (v3 + 2) < (m1 903 0))) ∧
      (vm_C 267 [vm_r 96, vm_i (m1 902 (v3 + 1)), vm_i (m1 902 (v3 + 2))] m1 (vm_qi (fun z2 m2 =>
        ((z1 = z2 →
          kuL_law_1673 v3 w4 w6 m2 Q) ∧ (¬ z1 = z2 →
          Q 0 m2))))))))) : kuL_law_1291 v3 w4 w6 m Q := by
  show vm_G 301 1291 [some (vm_r 902), some (vm_r 0), some (vm_r 96), some (vm_i v3), w4, none, w6, none] [] m (vm_qi Q)
  obtain ⟨⟨o1_0, o1_1, o1_2, o1_3⟩, h⟩ := h
  refine vm_gp [(.aload 1, 0, 0, []), (.aload 0, 0, 0, []), (.iload 3, 0, 0, []), (.iconst 1, 0, 0, []), (.iadd, 0, 0, []), (.iaload, 0, 0, []), (.aload 0, 0, 0, []), (.iload 3, 0, 0, []), (.iconst 2, 0, 0, []), (.iadd, 0, 0, []), (.iaload, 0, 0, [])] (pc1 := 1302) (ls1 := [some (vm_r 902), some (vm_r 0), some (vm_r 96), some (vm_i v3), w4, none, w6, none]) (st1 := [vm_i (m 902 (v3 + 2)), vm_i (m 902 (v3 + 1)), vm_r 0]) (m1 := m) (ob := ((((((true && decide (vm_32 (v3 + 1))) && decide ((902 : Nat) = 902)) && decide (0 ≤ (v3 + 1) ∧ (v3 + 1) < (m 903 0))) && decide (vm_32 (v3 + 2))) && decide ((902 : Nat) = 902)) && decide (0 ≤ (v3 + 2) ∧ (v3 + 2) < (m 903 0)))) (by decide +kernel) rfl (vm_t (vm_t (vm_t (vm_t (vm_t (vm_t rfl o1_0) rfl) o1_1) o1_2) rfl) o1_3) ?_
  refine vm_gc (g := 136) (na := 3) (av := [vm_r 0, vm_i (m 902 (v3 + 1)), vm_i (m 902 (v3 + 2))]) (rest := []) (i := (.invokevirtual 0, 136, 3, [])) (len := 3) (by decide +kernel) rfl rfl rfl (by decide +kernel) (by decide +kernel) rfl rfl (vm_u (vm_okh_v (c := 10) (by decide +kernel) (by decide +kernel)) (show vm_okn 136 3 0 0 0 3 = true by decide +kernel)) ?_
  refine vm_G.mono h ?_
  rintro _ m1 ⟨z1, rfl, h⟩
  show vm_G 301 1305 [some (vm_r 902), some (vm_r 0), some (vm_r 96), some (vm_i v3), w4, none, w6, none] [vm_i z1] m1 _
  obtain ⟨⟨o2_0, o2_1, o2_2, o2_3⟩, h⟩ := h
  refine vm_gp [(.aload 2, 0, 0, []), (.aload 0, 0, 0, []), (.iload 3, 0, 0, []), (.iconst 1, 0, 0, []), (.iadd, 0, 0, []), (.iaload, 0, 0, []), (.aload 0, 0, 0, []), (.iload 3, 0, 0, []), (.iconst 2, 0, 0, []), (.iadd, 0, 0, []), (.iaload, 0, 0, [])] (pc1 := 1316) (ls1 := [some (vm_r 902), some (vm_r 0), some (vm_r 96), some (vm_i v3), w4, none, w6, none]) (st1 := [vm_i (m1 902 (v3 + 2)), vm_i (m1 902 (v3 + 1)), vm_r 96, vm_i z1]) (m1 := m1) (ob := ((((((true && decide (vm_32 (v3 + 1))) && decide ((902 : Nat) = 902)) && decide (0 ≤ (v3 + 1) ∧ (v3 + 1) < (m1 903 0))) && decide (vm_32 (v3 + 2))) && decide ((902 : Nat) = 902)) && decide (0 ≤ (v3 + 2) ∧ (v3 + 2) < (m1 903 0)))) (by decide +kernel) rfl (vm_t (vm_t (vm_t (vm_t (vm_t (vm_t rfl o2_0) rfl) o2_1) o2_2) rfl) o2_3) ?_
  refine vm_gc (g := 267) (na := 3) (av := [vm_r 96, vm_i (m1 902 (v3 + 1)), vm_i (m1 902 (v3 + 2))]) (rest := [vm_i z1]) (i := (.invokevirtual 0, 267, 3, [])) (len := 3) (by decide +kernel) rfl rfl rfl (by decide +kernel) (by decide +kernel) rfl rfl (vm_u (vm_okh_v (c := 11) (by decide +kernel) (by decide +kernel)) (show vm_okn 267 3 1 0 0 3 = true by decide +kernel)) ?_
  refine vm_G.mono h ?_
  rintro _ m2 ⟨z2, rfl, h⟩
  show vm_G 301 1319 [some (vm_r 902), some (vm_r 0), some (vm_r 96), some (vm_i v3), w4, none, w6, none] [vm_i z2, vm_i z1] m2 _
  refine vm_gj (c := z1 = z2) (t := 1673) (e := 1322) (i := (.if_icmp .eq 0, 1673, 0, [])) (len := 3) (st1 := []) (by decide +kernel) rfl rfl (fun c1 => ?_) (fun c1 => ?_)
  · replace h := h.1 c1
    exact h
  · replace h := h.2 c1
    refine vm_gp [(.iconst 0, 0, 0, [])] (pc1 := 1323) (ls1 := [some (vm_r 902), some (vm_r 0), some (vm_r 96), some (vm_i v3), w4, none, w6, none]) (st1 := [vm_i 0]) (m1 := m2) (ob := true) (by decide +kernel) rfl rfl ?_
    exact vm_gr (r := some (vm_i 0)) (i := (.ireturn, 2, 0, [])) (len := 1) (by decide +kernel) rfl rfl (by decide) ⟨_, rfl, h⟩
set_option maxRecDepth 20000 in
theorem ruL_law_1324 {v3 : Int} {w4 : Option vm_V} {w6 : Option vm_V} {m : vm_M} {Q : Int → vm_M → Prop}  (h :
    (vm_C 138 [vm_r 0] m (vm_qi (fun z1 m1 =>
      (vm_C 268 [vm_r 96] m1 (vm_qi (fun z2 m2 =>
        ((z1 = z2 →
          kuL_law_1673 v3 w4 w6 m2 Q) ∧ (¬ z1 = z2 →
          Q 0 m2))))))))) : kuL_law_1324 v3 w4 w6 m Q := by
  show vm_G 301 1324 [some (vm_r 902), some (vm_r 0), some (vm_r 96), some (vm_i v3), w4, none, w6, none] [] m (vm_qi Q)
  refine vm_gp [(.aload 1, 0, 0, [])] (pc1 := 1325) (ls1 := [some (vm_r 902), some (vm_r 0), some (vm_r 96), some (vm_i v3), w4, none, w6, none]) (st1 := [vm_r 0]) (m1 := m) (ob := true) (by decide +kernel) rfl rfl ?_
  refine vm_gc (g := 138) (na := 1) (av := [vm_r 0]) (rest := []) (i := (.invokevirtual 0, 138, 1, [])) (len := 3) (by decide +kernel) rfl rfl rfl (by decide +kernel) (by decide +kernel) rfl rfl (vm_u (vm_okh_v (c := 10) (by decide +kernel) (by decide +kernel)) (show vm_okn 138 1 0 0 0 1 = true by decide +kernel)) ?_
  refine vm_G.mono h ?_
  rintro _ m1 ⟨z1, rfl, h⟩
  show vm_G 301 1328 [some (vm_r 902), some (vm_r 0), some (vm_r 96), some (vm_i v3), w4, none, w6, none] [vm_i z1] m1 _
  refine vm_gp [(.aload 2, 0, 0, [])] (pc1 := 1329) (ls1 := [some (vm_r 902), some (vm_r 0), some (vm_r 96), some (vm_i v3), w4, none, w6, none]) (st1 := [vm_r 96, vm_i z1]) (m1 := m1) (ob := true) (by decide +kernel) rfl rfl ?_
  refine vm_gc (g := 268) (na := 1) (av := [vm_r 96]) (rest := [vm_i z1]) (i := (.invokevirtual 0, 268, 1, [])) (len := 3) (by decide +kernel) rfl rfl rfl (by decide +kernel) (by decide +kernel) rfl rfl (vm_u (vm_okh_v (c := 11) (by decide +kernel) (by decide +kernel)) (show vm_okn 268 1 1 0 0 1 = true by decide +kernel)) ?_
  refine vm_G.mono h ?_
  rintro _ m2 ⟨z2, rfl, h⟩
  show vm_G 301 1332 [some (vm_r 902), some (vm_r 0), some (vm_r 96), some (vm_i v3), w4, none, w6, none] [vm_i z2, vm_i z1] m2 _
  refine vm_gj (c := z1 = z2) (t := 1673) (e := 1335) (i := (.if_icmp .eq 0, 1673, 0, [])) (len := 3) (st1 := []) (by decide +kernel) rfl rfl (fun c1 => ?_) (fun c1 => ?_)
  · replace h := h.1 c1
    exact h
  · replace h := h.2 c1
    refine vm_gp [(.iconst 0, 0, 0, [])] (pc1 := 1336) (ls1 := [some (vm_r 902), some (vm_r 0), some (vm_r 96), some (vm_i v3), w4, none, w6, none]) (st1 := [vm_i 0]) (m1 := m2) (ob := true) (by decide +kernel) rfl rfl ?_
    exact vm_gr (r := some (vm_i 0)) (i := (.ireturn, 2, 0, [])) (len := 1) (by decide +kernel) rfl rfl (by decide) ⟨_, rfl, h⟩
set_option maxRecDepth 20000 in
theorem ruL_law_1337 {v3 : Int} {w4 : Option vm_V} {w6 : Option vm_V} {m : vm_M} {Q : Int → vm_M → Prop}  (h :
    (vm_C 139 [vm_r 0] m (vm_qi (fun z1 m1 =>
      (vm_C 270 [vm_r 96] m1 (vm_qi (fun z2 m2 =>
        ((z1 = z2 →
          kuL_law_1673 v3 w4 w6 m2 Q) ∧ (¬ z1 = z2 →
          Q 0 m2))))))))) : kuL_law_1337 v3 w4 w6 m Q := by
  show vm_G 301 1337 [some (vm_r 902), some (vm_r 0), some (vm_r 96), some (vm_i v3), w4, none, w6, none] [] m (vm_qi Q)
  refine vm_gp [(.aload 1, 0, 0, [])] (pc1 := 1338) (ls1 := [some (vm_r 902), some (vm_r 0), some (vm_r 96), some (vm_i v3), w4, none, w6, none]) (st1 := [vm_r 0]) (m1 := m) (ob := true) (by decide +kernel) rfl rfl ?_
  refine vm_gc (g := 139) (na := 1) (av := [vm_r 0]) (rest := []) (i := (.invokevirtual 0, 139, 1, [])) (len := 3) (by decide +kernel) rfl rfl rfl (by decide +kernel) (by decide +kernel) rfl rfl (vm_u (vm_okh_v (c := 10) (by decide +kernel) (by decide +kernel)) (show vm_okn 139 1 0 0 0 1 = true by decide +kernel)) ?_
  refine vm_G.mono h ?_
  rintro _ m1 ⟨z1, rfl, h⟩
  show vm_G 301 1341 [some (vm_r 902), some (vm_r 0), some (vm_r 96), some (vm_i v3), w4, none, w6, none] [vm_i z1] m1 _
  refine vm_gp [(.aload 2, 0, 0, [])] (pc1 := 1342) (ls1 := [some (vm_r 902), some (vm_r 0), some (vm_r 96), some (vm_i v3), w4, none, w6, none]) (st1 := [vm_r 96, vm_i z1]) (m1 := m1) (ob := true) (by decide +kernel) rfl rfl ?_
  refine vm_gc (g := 270) (na := 1) (av := [vm_r 96]) (rest := [vm_i z1]) (i := (.invokevirtual 0, 270, 1, [])) (len := 3) (by decide +kernel) rfl rfl rfl (by decide +kernel) (by decide +kernel) rfl rfl (vm_u (vm_okh_v (c := 11) (by decide +kernel) (by decide +kernel)) (show vm_okn 270 1 1 0 0 1 = true by decide +kernel)) ?_
  refine vm_G.mono h ?_
  rintro _ m2 ⟨z2, rfl, h⟩
  show vm_G 301 1345 [some (vm_r 902), some (vm_r 0), some (vm_r 96), some (vm_i v3), w4, none, w6, none] [vm_i z2, vm_i z1] m2 _
  refine vm_gj (c := z1 = z2) (t := 1673) (e := 1348) (i := (.if_icmp .eq 0, 1673, 0, [])) (len := 3) (st1 := []) (by decide +kernel) rfl rfl (fun c1 => ?_) (fun c1 => ?_)
  · replace h := h.1 c1
    exact h
  · replace h := h.2 c1
    refine vm_gp [(.iconst 0, 0, 0, [])] (pc1 := 1349) (ls1 := [some (vm_r 902), some (vm_r 0), some (vm_r 96), some (vm_i v3), w4, none, w6, none]) (st1 := [vm_i 0]) (m1 := m2) (ob := true) (by decide +kernel) rfl rfl ?_
    exact vm_gr (r := some (vm_i 0)) (i := (.ireturn, 2, 0, [])) (len := 1) (by decide +kernel) rfl rfl (by decide) ⟨_, rfl, h⟩
set_option maxRecDepth 20000 in
theorem ruL_law_1350 {v3 : Int} {w4 : Option vm_V} {w6 : Option vm_V} {m : vm_M} {Q : Int → vm_M → Prop}  (h :
    (vm_C 140 [vm_r 0] m (vm_qi (fun z1 m1 =>
      (vm_C 271 [vm_r 96] m1 (vm_qi (fun z2 m2 =>
        ((z1 = z2 →
          kuL_law_1673 v3 w4 w6 m2 Q) ∧ (¬ z1 = z2 →
          Q 0 m2))))))))) : kuL_law_1350 v3 w4 w6 m Q := by
  show vm_G 301 1350 [some (vm_r 902), some (vm_r 0), some (vm_r 96), some (vm_i v3), w4, none, w6, none] [] m (vm_qi Q)
  refine vm_gp [(.aload 1, 0, 0, [])] (pc1 := 1351) (ls1 := [some (vm_r 902), some (vm_r 0), some (vm_r 96), some (vm_i v3), w4, none, w6, none]) (st1 := [vm_r 0]) (m1 := m) (ob := true) (by decide +kernel) rfl rfl ?_
  refine vm_gc (g := 140) (na := 1) (av := [vm_r 0]) (rest := []) (i := (.invokevirtual 0, 140, 1, [])) (len := 3) (by decide +kernel) rfl rfl rfl (by decide +kernel) (by decide +kernel) rfl rfl (vm_u (vm_okh_v (c := 10) (by decide +kernel) (by decide +kernel)) (show vm_okn 140 1 0 0 0 1 = true by decide +kernel)) ?_
  refine vm_G.mono h ?_
  rintro _ m1 ⟨z1, rfl, h⟩
  show vm_G 301 1354 [some (vm_r 902), some (vm_r 0), some (vm_r 96), some (vm_i v3), w4, none, w6, none] [vm_i z1] m1 _
  refine vm_gp [(.aload 2, 0, 0, [])] (pc1 := 1355) (ls1 := [some (vm_r 902), some (vm_r 0), some (vm_r 96), some (vm_i v3), w4, none, w6, none]) (st1 := [vm_r 96, vm_i z1]) (m1 := m1) (ob := true) (by decide +kernel) rfl rfl ?_
  refine vm_gc (g := 271) (na := 1) (av := [vm_r 96]) (rest := [vm_i z1]) (i := (.invokevirtual 0, 271, 1, [])) (len := 3) (by decide +kernel) rfl rfl rfl (by decide +kernel) (by decide +kernel) rfl rfl (vm_u (vm_okh_v (c := 11) (by decide +kernel) (by decide +kernel)) (show vm_okn 271 1 1 0 0 1 = true by decide +kernel)) ?_
  refine vm_G.mono h ?_
  rintro _ m2 ⟨z2, rfl, h⟩
  show vm_G 301 1358 [some (vm_r 902), some (vm_r 0), some (vm_r 96), some (vm_i v3), w4, none, w6, none] [vm_i z2, vm_i z1] m2 _
  refine vm_gj (c := z1 = z2) (t := 1673) (e := 1361) (i := (.if_icmp .eq 0, 1673, 0, [])) (len := 3) (st1 := []) (by decide +kernel) rfl rfl (fun c1 => ?_) (fun c1 => ?_)
  · replace h := h.1 c1
    exact h
  · replace h := h.2 c1
    refine vm_gp [(.iconst 0, 0, 0, [])] (pc1 := 1362) (ls1 := [some (vm_r 902), some (vm_r 0), some (vm_r 96), some (vm_i v3), w4, none, w6, none]) (st1 := [vm_i 0]) (m1 := m2) (ob := true) (by decide +kernel) rfl rfl ?_
    exact vm_gr (r := some (vm_i 0)) (i := (.ireturn, 2, 0, [])) (len := 1) (by decide +kernel) rfl rfl (by decide) ⟨_, rfl, h⟩
set_option maxRecDepth 20000 in
theorem ruL_law_1363 {v3 : Int} {w4 : Option vm_V} {w6 : Option vm_V} {m : vm_M} {Q : Int → vm_M → Prop}  (h :
    ((vm_32 (v3 + 1)) ∧ (0 ≤ (v3 + 1) ∧ (v3 + 1) < (m 903 0))) ∧
    (vm_C 141 [vm_r 0, vm_i (m 902 (v3 + 1))] m (vm_qi (fun z1 m1 =>
      ((vm_32 (v3 + 1)) ∧ (0 ≤ (v3 + 1) ∧ (v3 + 1) < (m1 903 0))) ∧
      (vm_C 273 [vm_r 96, vm_i (m1 902 (v3 + 1))] m1 (vm_qi (fun z2 m2 =>
        ((z1 = z2 →
          kuL_law_1673 v3 w4 w6 m2 Q) ∧ (¬ z1 = z2 →
          Q 0 m2))))))))) : kuL_law_1363 v3 w4 w6 m Q := by
  show vm_G 301 1363 [some (vm_r 902), some (vm_r 0), some (vm_r 96), some (vm_i v3), w4, none, w6, none] [] m (vm_qi Q)
  obtain ⟨⟨o1_0, o1_1⟩, h⟩ := h
  refine vm_gp [(.aload 1, 0, 0, []), (.aload 0, 0, 0, []), (.iload 3, 0, 0, []), (.iconst 1, 0, 0, []), (.iadd, 0, 0, []), (.iaload, 0, 0, [])] (pc1 := 1369) (ls1 := [some (vm_r 902), some (vm_r 0), some (vm_r 96), some (vm_i v3), w4, none, w6, none]) (st1 := [vm_i (m 902 (v3 + 1)), vm_r 0]) (m1 := m) (ob := (((true && decide (vm_32 (v3 + 1))) && decide ((902 : Nat) = 902)) && decide (0 ≤ (v3 + 1) ∧ (v3 + 1) < (m 903 0)))) (by decide +kernel) rfl (vm_t (vm_t (vm_t rfl o1_0) rfl) o1_1) ?_
  refine vm_gc (g := 141) (na := 2) (av := [vm_r 0, vm_i (m 902 (v3 + 1))]) (rest := []) (i := (.invokevirtual 0, 141, 2, [])) (len := 3) (by decide +kernel) rfl rfl rfl (by decide +kernel) (by decide +kernel) rfl rfl (vm_u (vm_okh_v (c := 10) (by decide +kernel) (by decide +kernel)) (show vm_okn 141 2 0 0 0 2 = true by decide +kernel)) ?_
  refine vm_G.mono h ?_
  rintro _ m1 ⟨z1, rfl, h⟩
  show vm_G 301 1372 [some (vm_r 902), some (vm_r 0), some (vm_r 96), some (vm_i v3), w4, none, w6, none] [vm_i z1] m1 _
  obtain ⟨⟨o2_0, o2_1⟩, h⟩ := h
  refine vm_gp [(.aload 2, 0, 0, []), (.aload 0, 0, 0, []), (.iload 3, 0, 0, []), (.iconst 1, 0, 0, []), (.iadd, 0, 0, []), (.iaload, 0, 0, [])] (pc1 := 1378) (ls1 := [some (vm_r 902), some (vm_r 0), some (vm_r 96), some (vm_i v3), w4, none, w6, none]) (st1 := [vm_i (m1 902 (v3 + 1)), vm_r 96, vm_i z1]) (m1 := m1) (ob := (((true && decide (vm_32 (v3 + 1))) && decide ((902 : Nat) = 902)) && decide (0 ≤ (v3 + 1) ∧ (v3 + 1) < (m1 903 0)))) (by decide +kernel) rfl (vm_t (vm_t (vm_t rfl o2_0) rfl) o2_1) ?_
  refine vm_gc (g := 273) (na := 2) (av := [vm_r 96, vm_i (m1 902 (v3 + 1))]) (rest := [vm_i z1]) (i := (.invokevirtual 0, 273, 2, [])) (len := 3) (by decide +kernel) rfl rfl rfl (by decide +kernel) (by decide +kernel) rfl rfl (vm_u (vm_okh_v (c := 11) (by decide +kernel) (by decide +kernel)) (show vm_okn 273 2 1 0 0 2 = true by decide +kernel)) ?_
  refine vm_G.mono h ?_
  rintro _ m2 ⟨z2, rfl, h⟩
  show vm_G 301 1381 [some (vm_r 902), some (vm_r 0), some (vm_r 96), some (vm_i v3), w4, none, w6, none] [vm_i z2, vm_i z1] m2 _
  refine vm_gj (c := z1 = z2) (t := 1673) (e := 1384) (i := (.if_icmp .eq 0, 1673, 0, [])) (len := 3) (st1 := []) (by decide +kernel) rfl rfl (fun c1 => ?_) (fun c1 => ?_)
  · replace h := h.1 c1
    exact h
  · replace h := h.2 c1
    refine vm_gp [(.iconst 0, 0, 0, [])] (pc1 := 1385) (ls1 := [some (vm_r 902), some (vm_r 0), some (vm_r 96), some (vm_i v3), w4, none, w6, none]) (st1 := [vm_i 0]) (m1 := m2) (ob := true) (by decide +kernel) rfl rfl ?_
    exact vm_gr (r := some (vm_i 0)) (i := (.ireturn, 2, 0, [])) (len := 1) (by decide +kernel) rfl rfl (by decide) ⟨_, rfl, h⟩
set_option maxRecDepth 20000 in
theorem ruL_law_1386 {v3 : Int} {w4 : Option vm_V} {w6 : Option vm_V} {m : vm_M} {Q : Int → vm_M → Prop}  (h :
    (vm_C 142 [vm_r 0] m (vm_qi (fun z1 m1 =>
      (vm_C 274 [vm_r 96] m1 (vm_qi (fun z2 m2 =>
        ((z1 = z2 →
          kuL_law_1673 v3 w4 w6 m2 Q) ∧ (¬ z1 = z2 →
          Q 0 m2))))))))) : kuL_law_1386 v3 w4 w6 m Q := by
  show vm_G 301 1386 [some (vm_r 902), some (vm_r 0), some (vm_r 96), some (vm_i v3), w4, none, w6, none] [] m (vm_qi Q)
  refine vm_gp [(.aload 1, 0, 0, [])] (pc1 := 1387) (ls1 := [some (vm_r 902), some (vm_r 0), some (vm_r 96), some (vm_i v3), w4, none, w6, none]) (st1 := [vm_r 0]) (m1 := m) (ob := true) (by decide +kernel) rfl rfl ?_
  refine vm_gc (g := 142) (na := 1) (av := [vm_r 0]) (rest := []) (i := (.invokevirtual 0, 142, 1, [])) (len := 3) (by decide +kernel) rfl rfl rfl (by decide +kernel) (by decide +kernel) rfl rfl (vm_u (vm_okh_v (c := 10) (by decide +kernel) (by decide +kernel)) (show vm_okn 142 1 0 0 0 1 = true by decide +kernel)) ?_
  refine vm_G.mono h ?_
  rintro _ m1 ⟨z1, rfl, h⟩
  show vm_G 301 1390 [some (vm_r 902), some (vm_r 0), some (vm_r 96), some (vm_i v3), w4, none, w6, none] [vm_i z1] m1 _
  refine vm_gp [(.aload 2, 0, 0, [])] (pc1 := 1391) (ls1 := [some (vm_r 902), some (vm_r 0), some (vm_r 96), some (vm_i v3), w4, none, w6, none]) (st1 := [vm_r 96, vm_i z1]) (m1 := m1) (ob := true) (by decide +kernel) rfl rfl ?_
  refine vm_gc (g := 274) (na := 1) (av := [vm_r 96]) (rest := [vm_i z1]) (i := (.invokevirtual 0, 274, 1, [])) (len := 3) (by decide +kernel) rfl rfl rfl (by decide +kernel) (by decide +kernel) rfl rfl (vm_u (vm_okh_v (c := 11) (by decide +kernel) (by decide +kernel)) (show vm_okn 274 1 1 0 0 1 = true by decide +kernel)) ?_
  refine vm_G.mono h ?_
  rintro _ m2 ⟨z2, rfl, h⟩
  show vm_G 301 1394 [some (vm_r 902), some (vm_r 0), some (vm_r 96), some (vm_i v3), w4, none, w6, none] [vm_i z2, vm_i z1] m2 _
  refine vm_gj (c := z1 = z2) (t := 1673) (e := 1397) (i := (.if_icmp .eq 0, 1673, 0, [])) (len := 3) (st1 := []) (by decide +kernel) rfl rfl (fun c1 => ?_) (fun c1 => ?_)
  · replace h := h.1 c1
    exact h
  · replace h := h.2 c1
    refine vm_gp [(.iconst 0, 0, 0, [])] (pc1 := 1398) (ls1 := [some (vm_r 902), some (vm_r 0), some (vm_r 96), some (vm_i v3), w4, none, w6, none]) (st1 := [vm_i 0]) (m1 := m2) (ob := true) (by decide +kernel) rfl rfl ?_
    exact vm_gr (r := some (vm_i 0)) (i := (.ireturn, 2, 0, [])) (len := 1) (by decide +kernel) rfl rfl (by decide) ⟨_, rfl, h⟩
set_option maxRecDepth 20000 in
theorem ruL_law_1399 {v3 : Int} {w4 : Option vm_V} {w6 : Option vm_V} {m : vm_M} {Q : Int → vm_M → Prop}  (h :
    (vm_C 143 [vm_r 0] m (vm_qi (fun z1 m1 =>
      (vm_C 275 [vm_r 96] m1 (vm_qi (fun z2 m2 =>
        ((z1 = z2 →
          kuL_law_1673 v3 w4 w6 m2 Q) ∧ (¬ z1 = z2 →
          Q 0 m2))))))))) : kuL_law_1399 v3 w4 w6 m Q := by
  show vm_G 301 1399 [some (vm_r 902), some (vm_r 0), some (vm_r 96), some (vm_i v3), w4, none, w6, none] [] m (vm_qi Q)
  refine vm_gp [(.aload 1, 0, 0, [])] (pc1 := 1400) (ls1 := [some (vm_r 902), some (vm_r 0), some (vm_r 96), some (vm_i v3), w4, none, w6, none]) (st1 := [vm_r 0]) (m1 := m) (ob := true) (by decide +kernel) rfl rfl ?_
  refine vm_gc (g := 143) (na := 1) (av := [vm_r 0]) (rest := []) (i := (.invokevirtual 0, 143, 1, [])) (len := 3) (by decide +kernel) rfl rfl rfl (by decide +kernel) (by decide +kernel) rfl rfl (vm_u (vm_okh_v (c := 10) (by decide +kernel) (by decide +kernel)) (show vm_okn 143 1 0 0 0 1 = true by decide +kernel)) ?_
  refine vm_G.mono h ?_
  rintro _ m1 ⟨z1, rfl, h⟩
  show vm_G 301 1403 [some (vm_r 902), some (vm_r 0), some (vm_r 96), some (vm_i v3), w4, none, w6, none] [vm_i z1] m1 _
  refine vm_gp [(.aload 2, 0, 0, [])] (pc1 := 1404) (ls1 := [some (vm_r 902), some (vm_r 0), some (vm_r 96), some (vm_i v3), w4, none, w6, none]) (st1 := [vm_r 96, vm_i z1]) (m1 := m1) (ob := true) (by decide +kernel) rfl rfl ?_
  refine vm_gc (g := 275) (na := 1) (av := [vm_r 96]) (rest := [vm_i z1]) (i := (.invokevirtual 0, 275, 1, [])) (len := 3) (by decide +kernel) rfl rfl rfl (by decide +kernel) (by decide +kernel) rfl rfl (vm_u (vm_okh_v (c := 11) (by decide +kernel) (by decide +kernel)) (show vm_okn 275 1 1 0 0 1 = true by decide +kernel)) ?_
  refine vm_G.mono h ?_
  rintro _ m2 ⟨z2, rfl, h⟩
  show vm_G 301 1407 [some (vm_r 902), some (vm_r 0), some (vm_r 96), some (vm_i v3), w4, none, w6, none] [vm_i z2, vm_i z1] m2 _
  refine vm_gj (c := z1 = z2) (t := 1673) (e := 1410) (i := (.if_icmp .eq 0, 1673, 0, [])) (len := 3) (st1 := []) (by decide +kernel) rfl rfl (fun c1 => ?_) (fun c1 => ?_)
  · replace h := h.1 c1
    exact h
  · replace h := h.2 c1
    refine vm_gp [(.iconst 0, 0, 0, [])] (pc1 := 1411) (ls1 := [some (vm_r 902), some (vm_r 0), some (vm_r 96), some (vm_i v3), w4, none, w6, none]) (st1 := [vm_i 0]) (m1 := m2) (ob := true) (by decide +kernel) rfl rfl ?_
    exact vm_gr (r := some (vm_i 0)) (i := (.ireturn, 2, 0, [])) (len := 1) (by decide +kernel) rfl rfl (by decide) ⟨_, rfl, h⟩
set_option maxRecDepth 20000 in
theorem ruL_law_1412 {v3 : Int} {w4 : Option vm_V} {w6 : Option vm_V} {m : vm_M} {Q : Int → vm_M → Prop}  (h :
    (vm_C 144 [vm_r 0] m (vm_qi (fun z1 m1 =>
      (vm_C 276 [vm_r 96] m1 (vm_qi (fun z2 m2 =>
        ((z1 = z2 →
          kuL_law_1673 v3 w4 w6 m2 Q) ∧ (¬ z1 = z2 →
          Q 0 m2))))))))) : kuL_law_1412 v3 w4 w6 m Q := by
  show vm_G 301 1412 [some (vm_r 902), some (vm_r 0), some (vm_r 96), some (vm_i v3), w4, none, w6, none] [] m (vm_qi Q)
  refine vm_gp [(.aload 1, 0, 0, [])] (pc1 := 1413) (ls1 := [some (vm_r 902), some (vm_r 0), some (vm_r 96), some (vm_i v3), w4, none, w6, none]) (st1 := [vm_r 0]) (m1 := m) (ob := true) (by decide +kernel) rfl rfl ?_
  refine vm_gc (g := 144) (na := 1) (av := [vm_r 0]) (rest := []) (i := (.invokevirtual 0, 144, 1, [])) (len := 3) (by decide +kernel) rfl rfl rfl (by decide +kernel) (by decide +kernel) rfl rfl (vm_u (vm_okh_v (c := 10) (by decide +kernel) (by decide +kernel)) (show vm_okn 144 1 0 0 0 1 = true by decide +kernel)) ?_
  refine vm_G.mono h ?_
  rintro _ m1 ⟨z1, rfl, h⟩
  show vm_G 301 1416 [some (vm_r 902), some (vm_r 0), some (vm_r 96), some (vm_i v3), w4, none, w6, none] [vm_i z1] m1 _
  refine vm_gp [(.aload 2, 0, 0, [])] (pc1 := 1417) (ls1 := [some (vm_r 902), some (vm_r 0), some (vm_r 96), some (vm_i v3), w4, none, w6, none]) (st1 := [vm_r 96, vm_i z1]) (m1 := m1) (ob := true) (by decide +kernel) rfl rfl ?_
  refine vm_gc (g := 276) (na := 1) (av := [vm_r 96]) (rest := [vm_i z1]) (i := (.invokevirtual 0, 276, 1, [])) (len := 3) (by decide +kernel) rfl rfl rfl (by decide +kernel) (by decide +kernel) rfl rfl (vm_u (vm_okh_v (c := 11) (by decide +kernel) (by decide +kernel)) (show vm_okn 276 1 1 0 0 1 = true by decide +kernel)) ?_
  refine vm_G.mono h ?_
  rintro _ m2 ⟨z2, rfl, h⟩
  show vm_G 301 1420 [some (vm_r 902), some (vm_r 0), some (vm_r 96), some (vm_i v3), w4, none, w6, none] [vm_i z2, vm_i z1] m2 _
  refine vm_gj (c := z1 = z2) (t := 1673) (e := 1423) (i := (.if_icmp .eq 0, 1673, 0, [])) (len := 3) (st1 := []) (by decide +kernel) rfl rfl (fun c1 => ?_) (fun c1 => ?_)
  · replace h := h.1 c1
    exact h
  · replace h := h.2 c1
    refine vm_gp [(.iconst 0, 0, 0, [])] (pc1 := 1424) (ls1 := [some (vm_r 902), some (vm_r 0), some (vm_r 96), some (vm_i v3), w4, none, w6, none]) (st1 := [vm_i 0]) (m1 := m2) (ob := true) (by decide +kernel) rfl rfl ?_
    exact vm_gr (r := some (vm_i 0)) (i := (.ireturn, 2, 0, [])) (len := 1) (by decide +kernel) rfl rfl (by decide) ⟨_, rfl, h⟩
set_option maxRecDepth 20000 in
theorem ruL_law_1425 {v3 : Int} {w4 : Option vm_V} {w6 : Option vm_V} {m : vm_M} {Q : Int → vm_M → Prop}  (h :
    ((vm_32 (v3 + 1)) ∧ (0 ≤ (v3 + 1) ∧ (v3 + 1) < (m 903 0))) ∧
    (vm_C 145 [vm_r 0, vm_i (m 902 (v3 + 1))] m (vm_qi (fun z1 m1 =>
      ((vm_32 (v3 + 1)) ∧ (0 ≤ (v3 + 1) ∧ (v3 + 1) < (m1 903 0))) ∧
      (vm_C 277 [vm_r 96, vm_i (m1 902 (v3 + 1))] m1 (vm_qi (fun z2 m2 =>
        ((z1 = z2 →
          kuL_law_1673 v3 w4 w6 m2 Q) ∧ (¬ z1 = z2 →
          Q 0 m2))))))))) : kuL_law_1425 v3 w4 w6 m Q := by
  show vm_G 301 1425 [some (vm_r 902), some (vm_r 0), some (vm_r 96), some (vm_i v3), w4, none, w6, none] [] m (vm_qi Q)
  obtain ⟨⟨o1_0, o1_1⟩, h⟩ := h
  refine vm_gp [(.aload 1, 0, 0, []), (.aload 0, 0, 0, []), (.iload 3, 0, 0, []), (.iconst 1, 0, 0, []), (.iadd, 0, 0, []), (.iaload, 0, 0, [])] (pc1 := 1431) (ls1 := [some (vm_r 902), some (vm_r 0), some (vm_r 96), some (vm_i v3), w4, none, w6, none]) (st1 := [vm_i (m 902 (v3 + 1)), vm_r 0]) (m1 := m) (ob := (((true && decide (vm_32 (v3 + 1))) && decide ((902 : Nat) = 902)) && decide (0 ≤ (v3 + 1) ∧ (v3 + 1) < (m 903 0)))) (by decide +kernel) rfl (vm_t (vm_t (vm_t rfl o1_0) rfl) o1_1) ?_
  refine vm_gc (g := 145) (na := 2) (av := [vm_r 0, vm_i (m 902 (v3 + 1))]) (rest := []) (i := (.invokevirtual 0, 145, 2, [])) (len := 3) (by decide +kernel) rfl rfl rfl (by decide +kernel) (by decide +kernel) rfl rfl (vm_u (vm_okh_v (c := 10) (by decide +kernel) (by decide +kernel)) (show vm_okn 145 2 0 0 0 2 = true by decide +kernel)) ?_
  refine vm_G.mono h ?_
  rintro _ m1 ⟨z1, rfl, h⟩
  show vm_G 301 1434 [some (vm_r 902), some (vm_r 0), some (vm_r 96), some (vm_i v3), w4, none, w6, none] [vm_i z1] m1 _
  obtain ⟨⟨o2_0, o2_1⟩, h⟩ := h
  refine vm_gp [(.aload 2, 0, 0, []), (.aload 0, 0, 0, []), (.iload 3, 0, 0, []), (.iconst 1, 0, 0, []), (.iadd, 0, 0, []), (.iaload, 0, 0, [])] (pc1 := 1440) (ls1 := [some (vm_r 902), some (vm_r 0), some (vm_r 96), some (vm_i v3), w4, none, w6, none]) (st1 := [vm_i (m1 902 (v3 + 1)), vm_r 96, vm_i z1]) (m1 := m1) (ob := (((true && decide (vm_32 (v3 + 1))) && decide ((902 : Nat) = 902)) && decide (0 ≤ (v3 + 1) ∧ (v3 + 1) < (m1 903 0)))) (by decide +kernel) rfl (vm_t (vm_t (vm_t rfl o2_0) rfl) o2_1) ?_
  refine vm_gc (g := 277) (na := 2) (av := [vm_r 96, vm_i (m1 902 (v3 + 1))]) (rest := [vm_i z1]) (i := (.invokevirtual 0, 277, 2, [])) (len := 3) (by decide +kernel) rfl rfl rfl (by decide +kernel) (by decide +kernel) rfl rfl (vm_u (vm_okh_v (c := 11) (by decide +kernel) (by decide +kernel)) (show vm_okn 277 2 1 0 0 2 = true by decide +kernel)) ?_
  refine vm_G.mono h ?_
  rintro _ m2 ⟨z2, rfl, h⟩
  show vm_G 301 1443 [some (vm_r 902), some (vm_r 0), some (vm_r 96), some (vm_i v3), w4, none, w6, none] [vm_i z2, vm_i z1] m2 _
  refine vm_gj (c := z1 = z2) (t := 1673) (e := 1446) (i := (.if_icmp .eq 0, 1673, 0, [])) (len := 3) (st1 := []) (by decide +kernel) rfl rfl (fun c1 => ?_) (fun c1 => ?_)
  · replace h := h.1 c1
    exact h
  · replace h := h.2 c1
    refine vm_gp [(.iconst 0, 0, 0, [])] (pc1 := 1447) (ls1 := [some (vm_r 902), some (vm_r 0), some (vm_r 96), some (vm_i v3), w4, none, w6, none]) (st1 := [vm_i 0]) (m1 := m2) (ob := true) (by decide +kernel) rfl rfl ?_
    exact vm_gr (r := some (vm_i 0)) (i := (.ireturn, 2, 0, [])) (len := 1) (by decide +kernel) rfl rfl (by decide) ⟨_, rfl, h⟩
set_option maxRecDepth 20000 in
theorem ruL_law_1448 {v3 : Int} {w4 : Option vm_V} {w6 : Option vm_V} {m : vm_M} {Q : Int → vm_M → Prop}  (h :
    (vm_C 146 [vm_r 0] m (vm_qi (fun z1 m1 =>
      (vm_C 279 [vm_r 96] m1 (vm_qi (fun z2 m2 =>
        ((z1 = z2 →
          kuL_law_1673 v3 w4 w6 m2 Q) ∧ (¬ z1 = z2 →
          Q 0 m2))))))))) : kuL_law_1448 v3 w4 w6 m Q := by
  show vm_G 301 1448 [some (vm_r 902), some (vm_r 0), some (vm_r 96), some (vm_i v3), w4, none, w6, none] [] m (vm_qi Q)
  refine vm_gp [(.aload 1, 0, 0, [])] (pc1 := 1449) (ls1 := [some (vm_r 902), some (vm_r 0), some (vm_r 96), some (vm_i v3), w4, none, w6, none]) (st1 := [vm_r 0]) (m1 := m) (ob := true) (by decide +kernel) rfl rfl ?_
  refine vm_gc (g := 146) (na := 1) (av := [vm_r 0]) (rest := []) (i := (.invokevirtual 0, 146, 1, [])) (len := 3) (by decide +kernel) rfl rfl rfl (by decide +kernel) (by decide +kernel) rfl rfl (vm_u (vm_okh_v (c := 10) (by decide +kernel) (by decide +kernel)) (show vm_okn 146 1 0 0 0 1 = true by decide +kernel)) ?_
  refine vm_G.mono h ?_
  rintro _ m1 ⟨z1, rfl, h⟩
  show vm_G 301 1452 [some (vm_r 902), some (vm_r 0), some (vm_r 96), some (vm_i v3), w4, none, w6, none] [vm_i z1] m1 _
  refine vm_gp [(.aload 2, 0, 0, [])] (pc1 := 1453) (ls1 := [some (vm_r 902), some (vm_r 0), some (vm_r 96), some (vm_i v3), w4, none, w6, none]) (st1 := [vm_r 96, vm_i z1]) (m1 := m1) (ob := true) (by decide +kernel) rfl rfl ?_
  refine vm_gc (g := 279) (na := 1) (av := [vm_r 96]) (rest := [vm_i z1]) (i := (.invokevirtual 0, 279, 1, [])) (len := 3) (by decide +kernel) rfl rfl rfl (by decide +kernel) (by decide +kernel) rfl rfl (vm_u (vm_okh_v (c := 11) (by decide +kernel) (by decide +kernel)) (show vm_okn 279 1 1 0 0 1 = true by decide +kernel)) ?_
  refine vm_G.mono h ?_
  rintro _ m2 ⟨z2, rfl, h⟩
  show vm_G 301 1456 [some (vm_r 902), some (vm_r 0), some (vm_r 96), some (vm_i v3), w4, none, w6, none] [vm_i z2, vm_i z1] m2 _
  refine vm_gj (c := z1 = z2) (t := 1673) (e := 1459) (i := (.if_icmp .eq 0, 1673, 0, [])) (len := 3) (st1 := []) (by decide +kernel) rfl rfl (fun c1 => ?_) (fun c1 => ?_)
  · replace h := h.1 c1
    exact h
  · replace h := h.2 c1
    refine vm_gp [(.iconst 0, 0, 0, [])] (pc1 := 1460) (ls1 := [some (vm_r 902), some (vm_r 0), some (vm_r 96), some (vm_i v3), w4, none, w6, none]) (st1 := [vm_i 0]) (m1 := m2) (ob := true) (by decide +kernel) rfl rfl ?_
    exact vm_gr (r := some (vm_i 0)) (i := (.ireturn, 2, 0, [])) (len := 1) (by decide +kernel) rfl rfl (by decide) ⟨_, rfl, h⟩
set_option maxRecDepth 20000 in
theorem ruL_law_1461 {v3 : Int} {w4 : Option vm_V} {w6 : Option vm_V} {m : vm_M} {Q : Int → vm_M → Prop}  (h :
    ((vm_32 (v3 + 1)) ∧ (0 ≤ (v3 + 1) ∧ (v3 + 1) < (m 903 0)) ∧ (vm_32 (v3 + 2)) ∧ (0 ≤ (v3 + 2) ∧ (v3 + 2) < (m 903 0))) ∧
    (vm_C 147 [vm_r 0, vm_i (m 902 (v3 + 1)), vm_i (m 902 (v3 + 2))] m (vm_qi (fun z1 m1 =>
      ((vm_32 (v3 + 1)) ∧ (0 ≤ (v3 + 1) ∧ (v3 + 1) < (m1 903 0)) ∧ (vm_32 (v3 + 2)) ∧ (0 ≤ (v3 + 2) ∧ (v3 + 2) < (m1 903 0))) ∧
      (vm_C 281 [vm_r 96, vm_i (m1 902 (v3 + 1)), vm_i (m1 902 (v3 + 2))] m1 (vm_qi (fun z2 m2 =>
        ((z1 = z2 →
          kuL_law_1673 v3 w4 w6 m2 Q) ∧ (¬ z1 = z2 →
          Q 0 m2))))))))) : kuL_law_1461 v3 w4 w6 m Q := by
  show vm_G 301 1461 [some (vm_r 902), some (vm_r 0), some (vm_r 96), some (vm_i v3), w4, none, w6, none] [] m (vm_qi Q)
  obtain ⟨⟨o1_0, o1_1, o1_2, o1_3⟩, h⟩ := h
  refine vm_gp [(.aload 1, 0, 0, []), (.aload 0, 0, 0, []), (.iload 3, 0, 0, []), (.iconst 1, 0, 0, []), (.iadd, 0, 0, []), (.iaload, 0, 0, []), (.aload 0, 0, 0, []), (.iload 3, 0, 0, []), (.iconst 2, 0, 0, []), (.iadd, 0, 0, []), (.iaload, 0, 0, [])] (pc1 := 1472) (ls1 := [some (vm_r 902), some (vm_r 0), some (vm_r 96), some (vm_i v3), w4, none, w6, none]) (st1 := [vm_i (m 902 (v3 + 2)), vm_i (m 902 (v3 + 1)), vm_r 0]) (m1 := m) (ob := ((((((true && decide (vm_32 (v3 + 1))) && decide ((902 : Nat) = 902)) && decide (0 ≤ (v3 + 1) ∧ (v3 + 1) < (m 903 0))) && decide (vm_32 (v3 + 2))) && decide ((902 : Nat) = 902)) && decide (0 ≤ (v3 + 2) ∧ (v3 + 2) < (m 903 0)))) (by decide +kernel) rfl (vm_t (vm_t (vm_t (vm_t (vm_t (vm_t rfl o1_0) rfl) o1_1) o1_2) rfl) o1_3) ?_
  refine vm_gc (g := 147) (na := 3) (av := [vm_r 0, vm_i (m 902 (v3 + 1)), vm_i (m 902 (v3 + 2))]) (rest := []) (i := (.invokevirtual 0, 147, 3, [])) (len := 3) (by decide +kernel) rfl rfl rfl (by decide +kernel) (by decide +kernel) rfl rfl (vm_u (vm_okh_v (c := 10) (by decide +kernel) (by decide +kernel)) (show vm_okn 147 3 0 0 0 3 = true by decide +kernel)) ?_
  refine vm_G.mono h ?_
  rintro _ m1 ⟨z1, rfl, h⟩
  show vm_G 301 1475 [some (vm_r 902), some (vm_r 0), some (vm_r 96), some (vm_i v3), w4, none, w6, none] [vm_i z1] m1 _
  obtain ⟨⟨o2_0, o2_1, o2_2, o2_3⟩, h⟩ := h
  refine vm_gp [(.aload 2, 0, 0, []), (.aload 0, 0, 0, []), (.iload 3, 0, 0, []), (.iconst 1, 0, 0, []), (.iadd, 0, 0, []), (.iaload, 0, 0, []), (.aload 0, 0, 0, []), (.iload 3, 0, 0, []), (.iconst 2, 0, 0, []), (.iadd, 0, 0, []), (.iaload, 0, 0, [])] (pc1 := 1486) (ls1 := [some (vm_r 902), some (vm_r 0), some (vm_r 96), some (vm_i v3), w4, none, w6, none]) (st1 := [vm_i (m1 902 (v3 + 2)), vm_i (m1 902 (v3 + 1)), vm_r 96, vm_i z1]) (m1 := m1) (ob := ((((((true && decide (vm_32 (v3 + 1))) && decide ((902 : Nat) = 902)) && decide (0 ≤ (v3 + 1) ∧ (v3 + 1) < (m1 903 0))) && decide (vm_32 (v3 + 2))) && decide ((902 : Nat) = 902)) && decide (0 ≤ (v3 + 2) ∧ (v3 + 2) < (m1 903 0)))) (by decide +kernel) rfl (vm_t (vm_t (vm_t (vm_t (vm_t (vm_t rfl o2_0) rfl) o2_1) o2_2) rfl) o2_3) ?_
  refine vm_gc (g := 281) (na := 3) (av := [vm_r 96, vm_i (m1 902 (v3 + 1)), vm_i (m1 902 (v3 + 2))]) (rest := [vm_i z1]) (i := (.invokevirtual 0, 281, 3, [])) (len := 3) (by decide +kernel) rfl rfl rfl (by decide +kernel) (by decide +kernel) rfl rfl (vm_u (vm_okh_v (c := 11) (by decide +kernel) (by decide +kernel)) (show vm_okn 281 3 1 0 0 3 = true by decide +kernel)) ?_
  refine vm_G.mono h ?_
  rintro _ m2 ⟨z2, rfl, h⟩
  show vm_G 301 1489 [some (vm_r 902), some (vm_r 0), some (vm_r 96), some (vm_i v3), w4, none, w6, none] [vm_i z2, vm_i z1] m2 _
  refine vm_gj (c := z1 = z2) (t := 1673) (e := 1492) (i := (.if_icmp .eq 0, 1673, 0, [])) (len := 3) (st1 := []) (by decide +kernel) rfl rfl (fun c1 => ?_) (fun c1 => ?_)
  · replace h := h.1 c1
    exact h
  · replace h := h.2 c1
    refine vm_gp [(.iconst 0, 0, 0, [])] (pc1 := 1493) (ls1 := [some (vm_r 902), some (vm_r 0), some (vm_r 96), some (vm_i v3), w4, none, w6, none]) (st1 := [vm_i 0]) (m1 := m2) (ob := true) (by decide +kernel) rfl rfl ?_
    exact vm_gr (r := some (vm_i 0)) (i := (.ireturn, 2, 0, [])) (len := 1) (by decide +kernel) rfl rfl (by decide) ⟨_, rfl, h⟩
set_option maxRecDepth 20000 in
theorem ruL_law_1494 {v3 : Int} {w4 : Option vm_V} {w6 : Option vm_V} {m : vm_M} {Q : Int → vm_M → Prop}  (h :
    ((vm_32 (v3 + 1)) ∧ (0 ≤ (v3 + 1) ∧ (v3 + 1) < (m 903 0))) ∧
    (vm_C 150 [vm_r 0, vm_i (m 902 (v3 + 1))] m (vm_qf (fun z1 m1 =>
      (((FP.f2d z1) &&& 0x7fffffffffffffff ≤ 0x7ff0000000000000) ∧ (vm_32 (v3 + 1)) ∧ (0 ≤ (v3 + 1) ∧ (v3 + 1) < (m1 903 0))) ∧
      (vm_C 282 [vm_r 96, vm_i (m1 902 (v3 + 1))] m1 (vm_qf (fun z2 m2 =>
        (((FP.f2d z2) &&& 0x7fffffffffffffff ≤ 0x7ff0000000000000)) ∧
        (((Op.cmpValue (FP.dcmp (FP.f2d z1) (FP.f2d z2)) .l).toInt = 0 →
          kuL_law_1673 v3 (some (vm_d (FP.f2d z1))) (some (vm_d (FP.f2d z2))) m2 Q) ∧ (¬ (Op.cmpValue (FP.dcmp (FP.f2d z1) (FP.f2d z2)) .l).toInt = 0 →
          (((Op.cmpValue (FP.dcmp (FP.f2d z1) (FP.f2d z1)) .l).toInt = 0 →
            Q 0 m2) ∧ (¬ (Op.cmpValue (FP.dcmp (FP.f2d z1) (FP.f2d z1)) .l).toInt = 0 →
            ((¬ (Op.cmpValue (FP.dcmp (FP.f2d z2) (FP.f2d z2)) .l).toInt = 0 →
              kuL_law_1673 v3 (some (vm_d (FP.f2d z1))) (some (vm_d (FP.f2d z2))) m2 Q) ∧ (¬ ¬ (Op.cmpValue (FP.dcmp (FP.f2d z2) (FP.f2d z2)) .l).toInt = 0 →
              Q 0 m2))))))))))))) : kuL_law_1494 v3 w4 w6 m Q := by
  show vm_G 301 1494 [some (vm_r 902), some (vm_r 0), some (vm_r 96), some (vm_i v3), w4, none, w6, none] [] m (vm_qi Q)
  obtain ⟨⟨o1_0, o1_1⟩, h⟩ := h
  refine vm_gp [(.aload 1, 0, 0, []), (.aload 0, 0, 0, []), (.iload 3, 0, 0, []), (.iconst 1, 0, 0, []), (.iadd, 0, 0, []), (.iaload, 0, 0, [])] (pc1 := 1500) (ls1 := [some (vm_r 902), some (vm_r 0), some (vm_r 96), some (vm_i v3), w4, none, w6, none]) (st1 := [vm_i (m 902 (v3 + 1)), vm_r 0]) (m1 := m) (ob := (((true && decide (vm_32 (v3 + 1))) && decide ((902 : Nat) = 902)) && decide (0 ≤ (v3 + 1) ∧ (v3 + 1) < (m 903 0)))) (by decide +kernel) rfl (vm_t (vm_t (vm_t rfl o1_0) rfl) o1_1) ?_
  refine vm_gc (g := 150) (na := 2) (av := [vm_r 0, vm_i (m 902 (v3 + 1))]) (rest := []) (i := (.invokevirtual 0, 150, 2, [])) (len := 3) (by decide +kernel) rfl rfl rfl (by decide +kernel) (by decide +kernel) rfl rfl (vm_u (vm_okh_v (c := 10) (by decide +kernel) (by decide +kernel)) (show vm_okn 150 2 0 0 0 2 = true by decide +kernel)) ?_
  refine vm_G.mono h ?_
  rintro _ m1 ⟨z1, rfl, h⟩
  show vm_G 301 1503 [some (vm_r 902), some (vm_r 0), some (vm_r 96), some (vm_i v3), w4, none, w6, none] [vm_f z1] m1 _
  obtain ⟨⟨o2_0, o2_1, o2_2⟩, h⟩ := h
  refine vm_gp [(.f2d, 0, 0, []), (.dstore 4, 0, 0, []), (.aload 2, 0, 0, []), (.aload 0, 0, 0, []), (.iload 3, 0, 0, []), (.iconst 1, 0, 0, []), (.iadd, 0, 0, []), (.iaload, 0, 0, [])] (pc1 := 1512) (ls1 := [some (vm_r 902), some (vm_r 0), some (vm_r 96), some (vm_i v3), some (vm_d (FP.f2d z1)), none, w6, none]) (st1 := [vm_i (m1 902 (v3 + 1)), vm_r 96]) (m1 := m1) (ob := ((((true && decide ((FP.f2d z1) &&& 0x7fffffffffffffff ≤ 0x7ff0000000000000)) && decide (vm_32 (v3 + 1))) && decide ((902 : Nat) = 902)) && decide (0 ≤ (v3 + 1) ∧ (v3 + 1) < (m1 903 0)))) (by decide +kernel) rfl (vm_t (vm_t (vm_t (vm_t rfl o2_0) o2_1) rfl) o2_2) ?_
  refine vm_gc (g := 282) (na := 2) (av := [vm_r 96, vm_i (m1 902 (v3 + 1))]) (rest := []) (i := (.invokevirtual 0, 282, 2, [])) (len := 3) (by decide +kernel) rfl rfl rfl (by decide +kernel) (by decide +kernel) rfl rfl (vm_u (vm_okh_v (c := 11) (by decide +kernel) (by decide +kernel)) (show vm_okn 282 2 0 0 0 2 = true by decide +kernel)) ?_
  refine vm_G.mono h ?_
  rintro _ m2 ⟨z2, rfl, h⟩
  show vm_G 301 1515 [some (vm_r 902), some (vm_r 0), some (vm_r 96), some (vm_i v3), some (vm_d (FP.f2d z1)), none, w6, none] [vm_f z2] m2 _
  obtain ⟨o3_0, h⟩ := h
  refine vm_gp [(.f2d, 0, 0, []), (.dstore 6, 0, 0, []), (.dload 4, 0, 0, []), (.dload 6, 0, 0, []), (.dcmp .l, 0, 0, [])] (pc1 := 1523) (ls1 := [some (vm_r 902), some (vm_r 0), some (vm_r 96), some (vm_i v3), some (vm_d (FP.f2d z1)), none, some (vm_d (FP.f2d z2)), none]) (st1 := [vm_i (Op.cmpValue (FP.dcmp (FP.f2d z1) (FP.f2d z2)) .l).toInt]) (m1 := m2) (ob := (true && decide ((FP.f2d z2) &&& 0x7fffffffffffffff ≤ 0x7ff0000000000000))) (by decide +kernel) rfl (vm_t rfl o3_0) ?_
  refine vm_gj (c := (Op.cmpValue (FP.dcmp (FP.f2d z1) (FP.f2d z2)) .l).toInt = 0) (t := 1544) (e := 1526) (i := (.ifCond .eq 0, 1544, 0, [])) (len := 3) (st1 := []) (by decide +kernel) rfl rfl (fun c1 => ?_) (fun c1 => ?_)
  · replace h := h.1 c1
    refine vm_gp [(.goto 0, 1673, 0, [])] (pc1 := 1673) (ls1 := [some (vm_r 902), some (vm_r 0), some (vm_r 96), some (vm_i v3), some (vm_d (FP.f2d z1)), none, some (vm_d (FP.f2d z2)), none]) (st1 := []) (m1 := m2) (ob := true) (by decide +kernel) rfl rfl ?_
    exact h
  · replace h := h.2 c1
    refine vm_gp [(.dload 4, 0, 0, []), (.dload 4, 0, 0, []), (.dcmp .l, 0, 0, [])] (pc1 := 1531) (ls1 := [some (vm_r 902), some (vm_r 0), some (vm_r 96), some (vm_i v3), some (vm_d (FP.f2d z1)), none, some (vm_d (FP.f2d z2)), none]) (st1 := [vm_i (Op.cmpValue (FP.dcmp (FP.f2d z1) (FP.f2d z1)) .l).toInt]) (m1 := m2) (ob := true) (by decide +kernel) rfl rfl ?_
    refine vm_gj (c := (Op.cmpValue (FP.dcmp (FP.f2d z1) (FP.f2d z1)) .l).toInt = 0) (t := 1542) (e := 1534) (i := (.ifCond .eq 0, 1542, 0, [])) (len := 3) (st1 := []) (by decide +kernel) rfl rfl (fun c2 => ?_) (fun c2 => ?_)
    · replace h := h.1 c2
      refine vm_gp [(.iconst 0, 0, 0, [])] (pc1 := 1543) (ls1 := [some (vm_r 902), some (vm_r 0), some (vm_r 96), some (vm_i v3), some (vm_d (FP.f2d z1)), none, some (vm_d (FP.f2d z2)), none]) (st1 := [vm_i 0]) (m1 := m2) (ob := true) (by decide +kernel) rfl rfl ?_
      exact vm_gr (r := some (vm_i 0)) (i := (.ireturn, 2, 0, [])) (len := 1) (by decide +kernel) rfl rfl (by decide) ⟨_, rfl, h⟩
    · replace h := h.2 c2
      refine vm_gp [(.dload 6, 0, 0, []), (.dload 6, 0, 0, []), (.dcmp .l, 0, 0, [])] (pc1 := 1539) (ls1 := [some (vm_r 902), some (vm_r 0), some (vm_r 96), some (vm_i v3), some (vm_d (FP.f2d z1)), none, some (vm_d (FP.f2d z2)), none]) (st1 := [vm_i (Op.cmpValue (FP.dcmp (FP.f2d z2) (FP.f2d z2)) .l).toInt]) (m1 := m2) (ob := true) (by decide +kernel) rfl rfl ?_
      refine vm_gj (c := ¬ (Op.cmpValue (FP.dcmp (FP.f2d z2) (FP.f2d z2)) .l).toInt = 0) (t := 1544) (e := 1542) (i := (.ifCond .ne 0, 1544, 0, [])) (len := 3) (st1 := []) (by decide +kernel) rfl rfl (fun c3 => ?_) (fun c3 => ?_)
      · replace h := h.1 c3
        refine vm_gp [(.goto 0, 1673, 0, [])] (pc1 := 1673) (ls1 := [some (vm_r 902), some (vm_r 0), some (vm_r 96), some (vm_i v3), some (vm_d (FP.f2d z1)), none, some (vm_d (FP.f2d z2)), none]) (st1 := []) (m1 := m2) (ob := true) (by decide +kernel) rfl rfl ?_
        exact h
      · replace h := h.2 c3
        refine vm_gp [(.iconst 0, 0, 0, [])] (pc1 := 1543) (ls1 := [some (vm_r 902), some (vm_r 0), some (vm_r 96), some (vm_i v3), some (vm_d (FP.f2d z1)), none, some (vm_d (FP.f2d z2)), none]) (st1 := [vm_i 0]) (m1 := m2) (ob := true) (by decide +kernel) rfl rfl ?_
        exact vm_gr (r := some (vm_i 0)) (i := (.ireturn, 2, 0, [])) (len := 1) (by decide +kernel) rfl rfl (by decide) ⟨_, rfl, h⟩
set_option maxRecDepth 20000 in
theorem ruL_law_1547 {v3 : Int} {w4 : Option vm_V} {w6 : Option vm_V} {m : vm_M} {Q : Int → vm_M → Prop}  (h :
    (vm_C 151 [vm_r 0] m (vm_qd (fun z1 m1 =>
      (vm_C 283 [vm_r 96] m1 (vm_qd (fun z2 m2 =>
        (((Op.cmpValue (FP.dcmp z1 z2) .l).toInt = 0 →
          kuL_law_1673 v3 (some (vm_d z1)) (some (vm_d z2)) m2 Q) ∧ (¬ (Op.cmpValue (FP.dcmp z1 z2) .l).toInt = 0 →
          (((Op.cmpValue (FP.dcmp z1 z1) .l).toInt = 0 →
            Q 0 m2) ∧ (¬ (Op.cmpValue (FP.dcmp z1 z1) .l).toInt = 0 →
            ((¬ (Op.cmpValue (FP.dcmp z2 z2) .l).toInt = 0 →
              kuL_law_1673 v3 (some (vm_d z1)) (some (vm_d z2)) m2 Q) ∧ (¬ ¬ (Op.cmpValue (FP.dcmp z2 z2) .l).toInt = 0 →
              Q 0 m2))))))))))))) : kuL_law_1547 v3 w4 w6 m Q := by
  show vm_G 301 1547 [some (vm_r 902), some (vm_r 0), some (vm_r 96), some (vm_i v3), w4, none, w6, none] [] m (vm_qi Q)
  refine vm_gp [(.aload 1, 0, 0, [])] (pc1 := 1548) (ls1 := [some (vm_r 902), some (vm_r 0), some (vm_r 96), some (vm_i v3), w4, none, w6, none]) (st1 := [vm_r 0]) (m1 := m) (ob := true) (by decide +kernel) rfl rfl ?_
  refine vm_gc (g := 151) (na := 1) (av := [vm_r 0]) (rest := []) (i := (.invokevirtual 0, 151, 1, [])) (len := 3) (by decide +kernel) rfl rfl rfl (by decide +kernel) (by decide +kernel) rfl rfl (vm_u (vm_okh_v (c := 10) (by decide +kernel) (by decide +kernel)) (show vm_okn 151 1 0 0 0 1 = true by decide +kernel)) ?_
  refine vm_G.mono h ?_
  rintro _ m1 ⟨z1, rfl, h⟩
  show vm_G 301 1551 [some (vm_r 902), some (vm_r 0), some (vm_r 96), some (vm_i v3), w4, none, w6, none] [vm_d z1] m1 _
  refine vm_gp [(.dstore 4, 0, 0, []), (.aload 2, 0, 0, [])] (pc1 := 1554) (ls1 := [some (vm_r 902), some (vm_r 0), some (vm_r 96), some (vm_i v3), some (vm_d z1), none, w6, none]) (st1 := [vm_r 96]) (m1 := m1) (ob := true) (by decide +kernel) rfl rfl ?_
  refine vm_gc (g := 283) (na := 1) (av := [vm_r 96]) (rest := []) (i := (.invokevirtual 0, 283, 1, [])) (len := 3) (by decide +kernel) rfl rfl rfl (by decide +kernel) (by decide +kernel) rfl rfl (vm_u (vm_okh_v (c := 11) (by decide +kernel) (by decide +kernel)) (show vm_okn 283 1 0 0 0 1 = true by decide +kernel)) ?_
  refine vm_G.mono h ?_
  rintro _ m2 ⟨z2, rfl, h⟩
  show vm_G 301 1557 [some (vm_r 902), some (vm_r 0), some (vm_r 96), some (vm_i v3), some (vm_d z1), none, w6, none] [vm_d z2] m2 _
  refine vm_gp [(.dstore 6, 0, 0, []), (.dload 4, 0, 0, []), (.dload 6, 0, 0, []), (.dcmp .l, 0, 0, [])] (pc1 := 1564) (ls1 := [some (vm_r 902), some (vm_r 0), some (vm_r 96), some (vm_i v3), some (vm_d z1), none, some (vm_d z2), none]) (st1 := [vm_i (Op.cmpValue (FP.dcmp z1 z2) .l).toInt]) (m1 := m2) (ob := true) (by decide +kernel) rfl rfl ?_
  refine vm_gj (c := (Op.cmpValue (FP.dcmp z1 z2) .l).toInt = 0) (t := 1585) (e := 1567) (i := (.ifCond .eq 0, 1585, 0, [])) (len := 3) (st1 := []) (by decide +kernel) rfl rfl (fun c1 => ?_) (fun c1 => ?_)
  · replace h := h.1 c1
    refine vm_gp [(.goto 0, 1673, 0, [])] (pc1 := 1673) (ls1 := [some (vm_r 902), some (vm_r 0), some (vm_r 96), some (vm_i v3), some (vm_d z1), none, some (vm_d z2), none]) (st1 := []) (m1 := m2) (ob := true) (by decide +kernel) rfl rfl ?_
    exact h
  · replace h := h.2 c1
    refine vm_gp [(.dload 4, 0, 0, []), (.dload 4, 0, 0, []), (.dcmp .l, 0, 0, [])] (pc1 := 1572) (ls1 := [some (vm_r 902), some (vm_r 0), some (vm_r 96), some (vm_i v3), some (vm_d z1), none, some (vm_d z2), none]) (st1 := [vm_i (Op.cmpValue (FP.dcmp z1 z1) .l).toInt]) (m1 := m2) (ob := true) (by decide +kernel) rfl rfl ?_
    refine vm_gj (c := (Op.cmpValue (FP.dcmp z1 z1) .l).toInt = 0) (t := 1583) (e := 1575) (i := (.ifCond .eq 0, 1583, 0, [])) (len := 3) (st1 := []) (by decide +kernel) rfl rfl (fun c2 => ?_) (fun c2 => ?_)
    · replace h := h.1 c2
      refine vm_gp [(.iconst 0, 0, 0, [])] (pc1 := 1584) (ls1 := [some (vm_r 902), some (vm_r 0), some (vm_r 96), some (vm_i v3), some (vm_d z1), none, some (vm_d z2), none]) (st1 := [vm_i 0]) (m1 := m2) (ob := true) (by decide +kernel) rfl rfl ?_
      exact vm_gr (r := some (vm_i 0)) (i := (.ireturn, 2, 0, [])) (len := 1) (by decide +kernel) rfl rfl (by decide) ⟨_, rfl, h⟩
    · replace h := h.2 c2
      refine vm_gp [(.dload 6, 0, 0, []), (.dload 6, 0, 0, []), (.dcmp .l, 0, 0, [])] (pc1 := 1580) (ls1 := [some (vm_r 902), some (vm_r 0), some (vm_r 96), some (vm_i v3), some (vm_d z1), none, some (vm_d z2), none]) (st1 := [vm_i (Op.cmpValue (FP.dcmp z2 z2) .l).toInt]) (m1 := m2) (ob := true) (by decide +kernel) rfl rfl ?_
      refine vm_gj (c := ¬ (Op.cmpValue (FP.dcmp z2 z2) .l).toInt = 0) (t := 1585) (e := 1583) (i := (.ifCond .ne 0, 1585, 0, [])) (len := 3) (st1 := []) (by decide +kernel) rfl rfl (fun c3 => ?_) (fun c3 => ?_)
      · replace h := h.1 c3
        refine vm_gp [(.goto 0, 1673, 0, [])] (pc1 := 1673) (ls1 := [some (vm_r 902), some (vm_r 0), some (vm_r 96), some (vm_i v3), some (vm_d z1), none, some (vm_d z2), none]) (st1 := []) (m1 := m2) (ob := true) (by decide +kernel) rfl rfl ?_
        exact h
      · replace h := h.2 c3
        refine vm_gp [(.iconst 0, 0, 0, [])] (pc1 := 1584) (ls1 := [some (vm_r 902), some (vm_r 0), some (vm_r 96), some (vm_i v3), some (vm_d z1), none, some (vm_d z2), none]) (st1 := [vm_i 0]) (m1 := m2) (ob := true) (by decide +kernel) rfl rfl ?_
        exact vm_gr (r := some (vm_i 0)) (i := (.ireturn, 2, 0, [])) (len := 1) (by decide +kernel) rfl rfl (by decide) ⟨_, rfl, h⟩
set_option maxRecDepth 20000 in
theorem ruL_law_1588 {v3 : Int} {w4 : Option vm_V} {w6 : Option vm_V} {m : vm_M} {Q : Int → vm_M → Prop}  (h :
    (vm_C 152 [vm_r 0] m (vm_qi (fun z1 m1 =>
      (vm_C 290 [vm_r 96] m1 (vm_qi (fun z2 m2 =>
        ((z1 = z2 →
          kuL_law_1673 v3 w4 w6 m2 Q) ∧ (¬ z1 = z2 →
          Q 0 m2))))))))) : kuL_law_1588 v3 w4 w6 m Q := by
  show vm_G 301 1588 [some (vm_r 902), some (vm_r 0), some (vm_r 96), some (vm_i v3), w4, none, w6, none] [] m (vm_qi Q)
  refine vm_gp [(.aload 1, 0, 0, [])] (pc1 := 1589) (ls1 := [some (vm_r 902), some (vm_r 0), some (vm_r 96), some (vm_i v3), w4, none, w6, none]) (st1 := [vm_r 0]) (m1 := m) (ob := true) (by decide +kernel) rfl rfl ?_
  refine vm_gc (g := 152) (na := 1) (av := [vm_r 0]) (rest := []) (i := (.invokevirtual 0, 152, 1, [])) (len := 3) (by decide +kernel) rfl rfl rfl (by decide +kernel) (by decide +kernel) rfl rfl (vm_u (vm_okh_v (c := 10) (by decide +kernel) (by decide +kernel)) (show vm_okn 152 1 0 0 0 1 = true by decide +kernel)) ?_
  refine vm_G.mono h ?_
  rintro _ m1 ⟨z1, rfl, h⟩
  show vm_G 301 1592 [some (vm_r 902), some (vm_r 0), some (vm_r 96), some (vm_i v3), w4, none, w6, none] [vm_i z1] m1 _
  refine vm_gp [(.aload 2, 0, 0, [])] (pc1 := 1593) (ls1 := [some (vm_r 902), some (vm_r 0), some (vm_r 96), some (vm_i v3), w4, none, w6, none]) (st1 := [vm_r 96, vm_i z1]) (m1 := m1) (ob := true) (by decide +kernel) rfl rfl ?_
  refine vm_gc (g := 290) (na := 1) (av := [vm_r 96]) (rest := [vm_i z1]) (i := (.invokevirtual 0, 290, 1, [])) (len := 3) (by decide +kernel) rfl rfl rfl (by decide +kernel) (by decide +kernel) rfl rfl (vm_u (vm_okh_v (c := 11) (by decide +kernel) (by decide +kernel)) (show vm_okn 290 1 1 0 0 1 = true by decide +kernel)) ?_
  refine vm_G.mono h ?_
  rintro _ m2 ⟨z2, rfl, h⟩
  show vm_G 301 1596 [some (vm_r 902), some (vm_r 0), some (vm_r 96), some (vm_i v3), w4, none, w6, none] [vm_i z2, vm_i z1] m2 _
  refine vm_gj (c := z1 = z2) (t := 1673) (e := 1599) (i := (.if_icmp .eq 0, 1673, 0, [])) (len := 3) (st1 := []) (by decide +kernel) rfl rfl (fun c1 => ?_) (fun c1 => ?_)
  · replace h := h.1 c1
    exact h
  · replace h := h.2 c1
    refine vm_gp [(.iconst 0, 0, 0, [])] (pc1 := 1600) (ls1 := [some (vm_r 902), some (vm_r 0), some (vm_r 96), some (vm_i v3), w4, none, w6, none]) (st1 := [vm_i 0]) (m1 := m2) (ob := true) (by decide +kernel) rfl rfl ?_
    exact vm_gr (r := some (vm_i 0)) (i := (.ireturn, 2, 0, [])) (len := 1) (by decide +kernel) rfl rfl (by decide) ⟨_, rfl, h⟩
set_option maxRecDepth 20000 in
theorem ruL_law_1601 {v3 : Int} {w4 : Option vm_V} {w6 : Option vm_V} {m : vm_M} {Q : Int → vm_M → Prop}  (h :
    ((vm_32 (v3 + 1)) ∧ (0 ≤ (v3 + 1) ∧ (v3 + 1) < (m 903 0))) ∧
    (vm_C 153 [vm_r 0, vm_i (m 902 (v3 + 1))] m (vm_qi (fun z1 m1 =>
      ((vm_32 (v3 + 1)) ∧ (0 ≤ (v3 + 1) ∧ (v3 + 1) < (m1 903 0))) ∧
      (vm_C 291 [vm_r 96, vm_i (m1 902 (v3 + 1))] m1 (vm_qi (fun z2 m2 =>
        ((z1 = z2 →
          kuL_law_1673 v3 w4 w6 m2 Q) ∧ (¬ z1 = z2 →
          Q 0 m2))))))))) : kuL_law_1601 v3 w4 w6 m Q := by
  show vm_G 301 1601 [some (vm_r 902), some (vm_r 0), some (vm_r 96), some (vm_i v3), w4, none, w6, none] [] m (vm_qi Q)
  obtain ⟨⟨o1_0, o1_1⟩, h⟩ := h
  refine vm_gp [(.aload 1, 0, 0, []), (.aload 0, 0, 0, []), (.iload 3, 0, 0, []), (.iconst 1, 0, 0, []), (.iadd, 0, 0, []), (.iaload, 0, 0, [])] (pc1 := 1607) (ls1 := [some (vm_r 902), some (vm_r 0), some (vm_r 96), some (vm_i v3), w4, none, w6, none]) (st1 := [vm_i (m 902 (v3 + 1)), vm_r 0]) (m1 := m) (ob := (((true && decide (vm_32 (v3 + 1))) && decide ((902 : Nat) = 902)) && decide (0 ≤ (v3 + 1) ∧ (v3 + 1) < (m 903 0)))) (by decide +kernel) rfl (vm_t (vm_t (vm_t rfl o1_0) rfl) o1_1) ?_
  refine vm_gc (g := 153) (na := 2) (av := [vm_r 0, vm_i (m 902 (v3 + 1))]) (rest := []) (i := (.invokevirtual 0, 153, 2, [])) (len := 3) (by decide +kernel) rfl rfl rfl (by decide +kernel) (by decide +kernel) rfl rfl (vm_u (vm_okh_v (c := 10) (by decide +kernel) (by decide +kernel)) (show vm_okn 153 2 0 0 0 2 = true by decide +kernel)) ?_
  refine vm_G.mono h ?_
  rintro _ m1 ⟨z1, rfl, h⟩
  show vm_G 301 1610 [some (vm_r 902), some (vm_r 0), some (vm_r 96), some (vm_i v3), w4, none, w6, none] [vm_i z1] m1 _
  obtain ⟨⟨o2_0, o2_1⟩, h⟩ := h
  refine vm_gp [(.aload 2, 0, 0, []), (.aload 0, 0, 0, []), (.iload 3, 0, 0, []), (.iconst 1, 0, 0, []), (.iadd, 0, 0, []), (.iaload, 0, 0, [])] (pc1 := 1616) (ls1 := [some (vm_r 902), some (vm_r 0), some (vm_r 96), some (vm_i v3), w4, none, w6, none]) (st1 := [vm_i (m1 902 (v3 + 1)), vm_r 96, vm_i z1]) (m1 := m1) (ob := (((true && decide (vm_32 (v3 + 1))) && decide ((902 : Nat) = 902)) && decide (0 ≤ (v3 + 1) ∧ (v3 + 1) < (m1 903 0)))) (by decide +kernel) rfl (vm_t (vm_t (vm_t rfl o2_0) rfl) o2_1) ?_
  refine vm_gc (g := 291) (na := 2) (av := [vm_r 96, vm_i (m1 902 (v3 + 1))]) (rest := [vm_i z1]) (i := (.invokevirtual 0, 291, 2, [])) (len := 3) (by decide +kernel) rfl rfl rfl (by decide +kernel) (by decide +kernel) rfl rfl (vm_u (vm_okh_v (c := 11) (by decide +kernel) (by decide +kernel)) (show vm_okn 291 2 1 0 0 2 = true by decide +kernel)) ?_
  refine vm_G.mono h ?_
  rintro _ m2 ⟨z2, rfl, h⟩
  show vm_G 301 1619 [some (vm_r 902), some (vm_r 0), some (vm_r 96), some (vm_i v3), w4, none, w6, none] [vm_i z2, vm_i z1] m2 _
  refine vm_gj (c := z1 = z2) (t := 1673) (e := 1622) (i := (.if_icmp .eq 0, 1673, 0, [])) (len := 3) (st1 := []) (by decide +kernel) rfl rfl (fun c1 => ?_) (fun c1 => ?_)
  · replace h := h.1 c1
    exact h
  · replace h := h.2 c1
    refine vm_gp [(.iconst 0, 0, 0, [])] (pc1 := 1623) (ls1 := [some (vm_r 902), some (vm_r 0), some (vm_r 96), some (vm_i v3), w4, none, w6, none]) (st1 := [vm_i 0]) (m1 := m2) (ob := true) (by decide +kernel) rfl rfl ?_
    exact vm_gr (r := some (vm_i 0)) (i := (.ireturn, 2, 0, [])) (len := 1) (by decide +kernel) rfl rfl (by decide) ⟨_, rfl, h⟩
set_option maxRecDepth 20000 in
theorem ruL_law_1624 {v3 : Int} {w4 : Option vm_V} {w6 : Option vm_V} {m : vm_M} {Q : Int → vm_M → Prop}  (h :
    (vm_C 154 [vm_r 0] m (vm_qi (fun z1 m1 =>
      (vm_C 298 [vm_r 96] m1 (vm_qi (fun z2 m2 =>
        ((z1 = z2 →
          kuL_law_1673 v3 w4 w6 m2 Q) ∧ (¬ z1 = z2 →
          Q 0 m2))))))))) : kuL_law_1624 v3 w4 w6 m Q := by
  show vm_G 301 1624 [some (vm_r 902), some (vm_r 0), some (vm_r 96), some (vm_i v3), w4, none, w6, none] [] m (vm_qi Q)
  refine vm_gp [(.aload 1, 0, 0, [])] (pc1 := 1625) (ls1 := [some (vm_r 902), some (vm_r 0), some (vm_r 96), some (vm_i v3), w4, none, w6, none]) (st1 := [vm_r 0]) (m1 := m) (ob := true) (by decide +kernel) rfl rfl ?_
  refine vm_gc (g := 154) (na := 1) (av := [vm_r 0]) (rest := []) (i := (.invokevirtual 0, 154, 1, [])) (len := 3) (by decide +kernel) rfl rfl rfl (by decide +kernel) (by decide +kernel) rfl rfl (vm_u (vm_okh_v (c := 10) (by decide +kernel) (by decide +kernel)) (show vm_okn 154 1 0 0 0 1 = true by decide +kernel)) ?_
  refine vm_G.mono h ?_
  rintro _ m1 ⟨z1, rfl, h⟩
  show vm_G 301 1628 [some (vm_r 902), some (vm_r 0), some (vm_r 96), some (vm_i v3), w4, none, w6, none] [vm_i z1] m1 _
  refine vm_gp [(.aload 2, 0, 0, [])] (pc1 := 1629) (ls1 := [some (vm_r 902), some (vm_r 0), some (vm_r 96), some (vm_i v3), w4, none, w6, none]) (st1 := [vm_r 96, vm_i z1]) (m1 := m1) (ob := true) (by decide +kernel) rfl rfl ?_
  refine vm_gc (g := 298) (na := 1) (av := [vm_r 96]) (rest := [vm_i z1]) (i := (.invokevirtual 0, 298, 1, [])) (len := 3) (by decide +kernel) rfl rfl rfl (by decide +kernel) (by decide +kernel) rfl rfl (vm_u (vm_okh_v (c := 11) (by decide +kernel) (by decide +kernel)) (show vm_okn 298 1 1 0 0 1 = true by decide +kernel)) ?_
  refine vm_G.mono h ?_
  rintro _ m2 ⟨z2, rfl, h⟩
  show vm_G 301 1632 [some (vm_r 902), some (vm_r 0), some (vm_r 96), some (vm_i v3), w4, none, w6, none] [vm_i z2, vm_i z1] m2 _
  refine vm_gj (c := z1 = z2) (t := 1673) (e := 1635) (i := (.if_icmp .eq 0, 1673, 0, [])) (len := 3) (st1 := []) (by decide +kernel) rfl rfl (fun c1 => ?_) (fun c1 => ?_)
  · replace h := h.1 c1
    exact h
  · replace h := h.2 c1
    refine vm_gp [(.iconst 0, 0, 0, [])] (pc1 := 1636) (ls1 := [some (vm_r 902), some (vm_r 0), some (vm_r 96), some (vm_i v3), w4, none, w6, none]) (st1 := [vm_i 0]) (m1 := m2) (ob := true) (by decide +kernel) rfl rfl ?_
    exact vm_gr (r := some (vm_i 0)) (i := (.ireturn, 2, 0, [])) (len := 1) (by decide +kernel) rfl rfl (by decide) ⟨_, rfl, h⟩
set_option maxRecDepth 20000 in
theorem ruL_law_1637 {v3 : Int} {w4 : Option vm_V} {w6 : Option vm_V} {m : vm_M} {Q : Int → vm_M → Prop}  (h :
    ((vm_32 (v3 + 1)) ∧ (0 ≤ (v3 + 1) ∧ (v3 + 1) < (m 903 0))) ∧
    (vm_C 155 [vm_r 0, vm_i (m 902 (v3 + 1))] m (vm_qi (fun z1 m1 =>
      ((vm_32 (v3 + 1)) ∧ (0 ≤ (v3 + 1) ∧ (v3 + 1) < (m1 903 0))) ∧
      (vm_C 299 [vm_r 96, vm_i (m1 902 (v3 + 1))] m1 (vm_qi (fun z2 m2 =>
        ((z1 = z2 →
          kuL_law_1673 v3 w4 w6 m2 Q) ∧ (¬ z1 = z2 →
          Q 0 m2))))))))) : kuL_law_1637 v3 w4 w6 m Q := by
  show vm_G 301 1637 [some (vm_r 902), some (vm_r 0), some (vm_r 96), some (vm_i v3), w4, none, w6, none] [] m (vm_qi Q)
  obtain ⟨⟨o1_0, o1_1⟩, h⟩ := h
  refine vm_gp [(.aload 1, 0, 0, []), (.aload 0, 0, 0, []), (.iload 3, 0, 0, []), (.iconst 1, 0, 0, []), (.iadd, 0, 0, []), (.iaload, 0, 0, [])] (pc1 := 1643) (ls1 := [some (vm_r 902), some (vm_r 0), some (vm_r 96), some (vm_i v3), w4, none, w6, none]) (st1 := [vm_i (m 902 (v3 + 1)), vm_r 0]) (m1 := m) (ob := (((true && decide (vm_32 (v3 + 1))) && decide ((902 : Nat) = 902)) && decide (0 ≤ (v3 + 1) ∧ (v3 + 1) < (m 903 0)))) (by decide +kernel) rfl (vm_t (vm_t (vm_t rfl o1_0) rfl) o1_1) ?_
  refine vm_gc (g := 155) (na := 2) (av := [vm_r 0, vm_i (m 902 (v3 + 1))]) (rest := []) (i := (.invokevirtual 0, 155, 2, [])) (len := 3) (by decide +kernel) rfl rfl rfl (by decide +kernel) (by decide +kernel) rfl rfl (vm_u (vm_okh_v (c := 10) (by decide +kernel) (by decide +kernel)) (show vm_okn 155 2 0 0 0 2 = true by decide +kernel)) ?_
  refine vm_G.mono h ?_
  rintro _ m1 ⟨z1, rfl, h⟩
  show vm_G 301 1646 [some (vm_r 902), some (vm_r 0), some (vm_r 96), some (vm_i v3), w4, none, w6, none] [vm_i z1] m1 _
  obtain ⟨⟨o2_0, o2_1⟩, h⟩ := h
  refine vm_gp [(.aload 2, 0, 0, []), (.aload 0, 0, 0, []), (.iload 3, 0, 0, []), (.iconst 1, 0, 0, []), (.iadd, 0, 0, []), (.iaload, 0, 0, [])] (pc1 := 1652) (ls1 := [some (vm_r 902), some (vm_r 0), some (vm_r 96), some (vm_i v3), w4, none, w6, none]) (st1 := [vm_i (m1 902 (v3 + 1)), vm_r 96, vm_i z1]) (m1 := m1) (ob := (((true && decide (vm_32 (v3 + 1))) && decide ((902 : Nat) = 902)) && decide (0 ≤ (v3 + 1) ∧ (v3 + 1) < (m1 903 0)))) (by decide +kernel) rfl (vm_t (vm_t (vm_t rfl o2_0) rfl) o2_1) ?_
  refine vm_gc (g := 299) (na := 2) (av := [vm_r 96, vm_i (m1 902 (v3 + 1))]) (rest := [vm_i z1]) (i := (.invokevirtual 0, 299, 2, [])) (len := 3) (by decide +kernel) rfl rfl rfl (by decide +kernel) (by decide +kernel) rfl rfl (vm_u (vm_okh_v (c := 11) (by decide +kernel) (by decide +kernel)) (show vm_okn 299 2 1 0 0 2 = true by decide +kernel)) ?_
  refine vm_G.mono h ?_
  rintro _ m2 ⟨z2, rfl, h⟩
  show vm_G 301 1655 [some (vm_r 902), some (vm_r 0), some (vm_r 96), some (vm_i v3), w4, none, w6, none] [vm_i z2, vm_i z1] m2 _
  refine vm_gj (c := z1 = z2) (t := 1673) (e := 1658) (i := (.if_icmp .eq 0, 1673, 0, [])) (len := 3) (st1 := []) (by decide +kernel) rfl rfl (fun c1 => ?_) (fun c1 => ?_)
  · replace h := h.1 c1
    exact h
  · replace h := h.2 c1
    refine vm_gp [(.iconst 0, 0, 0, [])] (pc1 := 1659) (ls1 := [some (vm_r 902), some (vm_r 0), some (vm_r 96), some (vm_i v3), w4, none, w6, none]) (st1 := [vm_i 0]) (m1 := m2) (ob := true) (by decide +kernel) rfl rfl ?_
    exact vm_gr (r := some (vm_i 0)) (i := (.ireturn, 2, 0, [])) (len := 1) (by decide +kernel) rfl rfl (by decide) ⟨_, rfl, h⟩
set_option maxRecDepth 20000 in
theorem ruL_law_1660 {v3 : Int} {w4 : Option vm_V} {w6 : Option vm_V} {m : vm_M} {Q : Int → vm_M → Prop}  (h :
    (vm_C 156 [vm_r 0] m (vm_qi (fun z1 m1 =>
      (vm_C 300 [vm_r 96] m1 (vm_qi (fun z2 m2 =>
        ((z1 = z2 →
          kuL_law_1673 v3 w4 w6 m2 Q) ∧ (¬ z1 = z2 →
          Q 0 m2))))))))) : kuL_law_1660 v3 w4 w6 m Q := by
  show vm_G 301 1660 [some (vm_r 902), some (vm_r 0), some (vm_r 96), some (vm_i v3), w4, none, w6, none] [] m (vm_qi Q)
  refine vm_gp [(.aload 1, 0, 0, [])] (pc1 := 1661) (ls1 := [some (vm_r 902), some (vm_r 0), some (vm_r 96), some (vm_i v3), w4, none, w6, none]) (st1 := [vm_r 0]) (m1 := m) (ob := true) (by decide +kernel) rfl rfl ?_
  refine vm_gc (g := 156) (na := 1) (av := [vm_r 0]) (rest := []) (i := (.invokevirtual 0, 156, 1, [])) (len := 3) (by decide +kernel) rfl rfl rfl (by decide +kernel) (by decide +kernel) rfl rfl (vm_u (vm_okh_v (c := 10) (by decide +kernel) (by decide +kernel)) (show vm_okn 156 1 0 0 0 1 = true by decide +kernel)) ?_
  refine vm_G.mono h ?_
  rintro _ m1 ⟨z1, rfl, h⟩
  show vm_G 301 1664 [some (vm_r 902), some (vm_r 0), some (vm_r 96), some (vm_i v3), w4, none, w6, none] [vm_i z1] m1 _
  refine vm_gp [(.aload 2, 0, 0, [])] (pc1 := 1665) (ls1 := [some (vm_r 902), some (vm_r 0), some (vm_r 96), some (vm_i v3), w4, none, w6, none]) (st1 := [vm_r 96, vm_i z1]) (m1 := m1) (ob := true) (by decide +kernel) rfl rfl ?_
  refine vm_gc (g := 300) (na := 1) (av := [vm_r 96]) (rest := [vm_i z1]) (i := (.invokevirtual 0, 300, 1, [])) (len := 3) (by decide +kernel) rfl rfl rfl (by decide +kernel) (by decide +kernel) rfl rfl (vm_u (vm_okh_v (c := 11) (by decide +kernel) (by decide +kernel)) (show vm_okn 300 1 1 0 0 1 = true by decide +kernel)) ?_
  refine vm_G.mono h ?_
  rintro _ m2 ⟨z2, rfl, h⟩
  show vm_G 301 1668 [some (vm_r 902), some (vm_r 0), some (vm_r 96), some (vm_i v3), w4, none, w6, none] [vm_i z2, vm_i z1] m2 _
  refine vm_gj (c := z1 = z2) (t := 1673) (e := 1671) (i := (.if_icmp .eq 0, 1673, 0, [])) (len := 3) (st1 := []) (by decide +kernel) rfl rfl (fun c1 => ?_) (fun c1 => ?_)
  · replace h := h.1 c1
    exact h
  · replace h := h.2 c1
    refine vm_gp [(.iconst 0, 0, 0, [])] (pc1 := 1672) (ls1 := [some (vm_r 902), some (vm_r 0), some (vm_r 96), some (vm_i v3), w4, none, w6, none]) (st1 := [vm_i 0]) (m1 := m2) (ob := true) (by decide +kernel) rfl rfl ?_
    exact vm_gr (r := some (vm_i 0)) (i := (.ireturn, 2, 0, [])) (len := 1) (by decide +kernel) rfl rfl (by decide) ⟨_, rfl, h⟩
set_option maxRecDepth 20000 in
theorem ruL_law_1673 {v3 : Int} {w4 : Option vm_V} {w6 : Option vm_V} {m : vm_M} {Q : Int → vm_M → Prop}  (h :
    ((vm_32 (v3 + 6))) ∧
    kuL_law_18 (v3 + 6) w4 w6 m Q) : kuL_law_1673 v3 w4 w6 m Q := by
  show vm_G 301 1673 [some (vm_r 902), some (vm_r 0), some (vm_r 96), some (vm_i v3), w4, none, w6, none] [] m (vm_qi Q)
  obtain ⟨o1_0, h⟩ := h
  refine vm_gp [(.iinc 3 6, 0, 0, []), (.goto 0, 18, 0, [])] (pc1 := 18) (ls1 := [some (vm_r 902), some (vm_r 0), some (vm_r 96), some (vm_i (v3 + 6)), w4, none, w6, none]) (st1 := []) (m1 := m) (ob := (true && decide (vm_32 (v3 + 6)))) (by decide +kernel) rfl (vm_t rfl o1_0) ?_
  exact h
set_option maxRecDepth 20000 in
theorem ruL_law_1679 {v3 : Int} {w4 : Option vm_V} {w6 : Option vm_V} {m : vm_M} {Q : Int → vm_M → Prop}  (h :
    Q 1 m) : kuL_law_1679 v3 w4 w6 m Q := by
  show vm_G 301 1679 [some (vm_r 902), some (vm_r 0), some (vm_r 96), some (vm_i v3), w4, none, w6, none] [] m (vm_qi Q)
  refine vm_gp [(.iconst 1, 0, 0, [])] (pc1 := 1680) (ls1 := [some (vm_r 902), some (vm_r 0), some (vm_r 96), some (vm_i v3), w4, none, w6, none]) (st1 := [vm_i 1]) (m1 := m) (ob := true) (by decide +kernel) rfl rfl ?_
  exact vm_gr (r := some (vm_i 1)) (i := (.ireturn, 2, 0, [])) (len := 1) (by decide +kernel) rfl rfl (by decide) ⟨_, rfl, h⟩
