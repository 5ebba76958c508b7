/-! ===== the law's methods ===== -/
abbrev lK_draw : lwK := (⟨"BoardLettersLaw", "draw", "([I)I"⟩, method_2_code, 1, (some .int), 0, 0)
theorem lOK_draw : lOK lK_draw 1 := ⟨rfl, vm_code_in (vm_in4 (List.mem_of_getElem? (i := 21) (by rfl))), (vm_hw_in (i := 777) (by decide +kernel)), (vm_hw_in (i := 37) (by decide +kernel)), by decide +kernel, by decide, by decide⟩
abbrev lK_write : lwK := (⟨"BoardLettersLaw", "write", "(LBoardLetters;Ljava/lang/String;)V"⟩, method_3_code, 7, none, 1, 0)
theorem lOK_write : lOK lK_write 2 := ⟨rfl, vm_code_in (vm_in2 (List.mem_of_getElem? (i := 125) (by rfl))), (vm_hw_in (i := 401) (by decide +kernel)), (vm_hw_in (i := 37) (by decide +kernel)), by decide +kernel, by decide, by decide⟩
abbrev lK_loads : lwK := (⟨"BoardLettersLaw", "loads", "(LBoardLetters;Ljava/lang/String;)Z"⟩, method_4_code, 2, (some .boolean), 2, 0)
theorem lOK_loads : lOK lK_loads 2 := ⟨rfl, vm_code_in (vm_in2 (List.mem_of_getElem? (i := 122) (by rfl))), (vm_hw_in (i := 398) (by decide +kernel)), (vm_hw_in (i := 37) (by decide +kernel)), by decide +kernel, by decide, by decide⟩
abbrev lK_says : lwK := (⟨"BoardLettersLaw", "says", "(LBoardLetters;Ljava/lang/String;)Z"⟩, method_5_code, 2, (some .boolean), 2, 0)
theorem lOK_says : lOK lK_says 2 := ⟨rfl, vm_code_in (vm_in3 (List.mem_of_getElem? (i := 230) (by rfl))), (vm_hw_in (i := 746) (by decide +kernel)), (vm_hw_in (i := 37) (by decide +kernel)), by decide +kernel, by decide, by decide⟩
abbrev lK_side : lwK := (⟨"BoardLettersLaw", "side", "(Ljava/lang/StringBuilder;[I)V"⟩, method_6_code, 4, none, 1, 0)
theorem lOK_side : lOK lK_side 2 := ⟨rfl, vm_code_in (vm_in4 (List.mem_of_getElem? (i := 205) (by rfl))), (vm_hw_in (i := 961) (by decide +kernel)), (vm_hw_in (i := 37) (by decide +kernel)), by decide +kernel, by decide, by decide⟩
abbrev lK_setup : lwK := (⟨"BoardLettersLaw", "setup", "([I)Ljava/lang/String;"⟩, method_7_code, 5, (some (.object "java/lang/String")), 2, 0)
theorem lOK_setup : lOK lK_setup 1 := ⟨rfl, vm_code_in (vm_in4 (List.mem_of_getElem? (i := 18) (by rfl))), (vm_hw_in (i := 774) (by decide +kernel)), (vm_hw_in (i := 37) (by decide +kernel)), by decide +kernel, by decide, by decide⟩
abbrev lK_words : lwK := (⟨"BoardLettersLaw", "words", "(LBoardLetters;[I)Ljava/lang/String;"⟩, method_8_code, 5, (some (.object "java/lang/String")), 2, 0)
theorem lOK_words : lOK lK_words 2 := ⟨rfl, vm_code_in (vm_in5 (List.mem_of_getElem? (i := 37) (by rfl))), (vm_hw_in (i := 1033) (by decide +kernel)), (vm_hw_in (i := 37) (by decide +kernel)), by decide +kernel, by decide, by decide⟩
abbrev lK_text : lwK := (⟨"BoardLettersLaw", "text", "(LBoardLetters;Z)Ljava/lang/String;"⟩, method_9_code, 5, (some (.object "java/lang/String")), 1, 0)
theorem lOK_text : lOK lK_text 2 := ⟨rfl, vm_code_in (vm_in6 (List.mem_of_getElem? (i := 14) (by rfl))), (vm_hw_in (i := 1250) (by decide +kernel)), (vm_hw_in (i := 37) (by decide +kernel)), by decide +kernel, by decide, by decide⟩
abbrev lK_acts : lwK := (⟨"BoardLettersLaw", "acts", "(LBoardLetters;[I)I"⟩, method_10_code, 3, (some .int), 1, 0)
theorem lOK_acts : lOK lK_acts 2 := ⟨rfl, vm_code_in (vm_in5 (List.mem_of_getElem? (i := 42) (by rfl))), (vm_hw_in (i := 1038) (by decide +kernel)), (vm_hw_in (i := 37) (by decide +kernel)), by decide +kernel, by decide, by decide⟩
abbrev lK_pairs : lwK := (⟨"BoardLettersLaw", "pairs", "(LBoardLetters;[I)Z"⟩, method_11_code, 17, (some .boolean), 1, 0)
theorem lOK_pairs : lOK lK_pairs 2 := ⟨rfl, vm_code_in (vm_in5 (List.mem_of_getElem? (i := 78) (by rfl))), (vm_hw_in (i := 1074) (by decide +kernel)), (vm_hw_in (i := 37) (by decide +kernel)), by decide +kernel, by decide, by decide⟩
abbrev lK_stands : lwK := (⟨"BoardLettersLaw", "stands", "(LBoardLetters;)Z"⟩, method_12_code, 24, (some .boolean), 1, 0)
theorem lOK_stands : lOK lK_stands 1 := ⟨rfl, vm_code_in (vm_in5 (List.mem_of_getElem? (i := 138) (by rfl))), (vm_hw_in (i := 1134) (by decide +kernel)), (vm_hw_in (i := 37) (by decide +kernel)), by decide +kernel, by decide, by decide⟩
abbrev lK_told : lwK := (⟨"BoardLettersLaw", "told", "(LBoardLetters;)Ljava/lang/String;"⟩, method_13_code, 4, (some (.object "java/lang/String")), 2, 0)
theorem lOK_told : lOK lK_told 1 := ⟨rfl, vm_code_in (vm_in6 (List.mem_of_getElem? (i := 11) (by rfl))), (vm_hw_in (i := 1247) (by decide +kernel)), (vm_hw_in (i := 37) (by decide +kernel)), by decide +kernel, by decide, by decide⟩
abbrev lK_bests : lwK := (⟨"BoardLettersLaw", "bests", "(LBoardLetters;[I)Z"⟩, method_14_code, 12, (some .boolean), 3, 0)
theorem lOK_bests : lOK lK_bests 2 := ⟨rfl, vm_code_in (vm_in6 (List.mem_of_getElem? (i := 8) (by rfl))), (vm_hw_in (i := 1244) (by decide +kernel)), (vm_hw_in (i := 37) (by decide +kernel)), by decide +kernel, by decide, by decide⟩
abbrev lK_undone : lwK := (⟨"BoardLettersLaw", "undone", "(LBoardLetters;[I)Z"⟩, method_15_code, 7, (some .boolean), 3, 0)
theorem lOK_undone : lOK lK_undone 2 := ⟨rfl, vm_code_in (vm_in6 (List.mem_of_getElem? (i := 139) (by rfl))), (vm_hw_in (i := 1375) (by decide +kernel)), (vm_hw_in (i := 37) (by decide +kernel)), by decide +kernel, by decide, by decide⟩
abbrev lK_law (Ls : Nat) : lwK := (⟨"BoardLettersLaw", "law", "([I)Z"⟩, code, 7, (some .boolean), 4, Ls)
