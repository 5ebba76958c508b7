/-! ===== the words of the methods codes, by their places (printed) ===== -/
theorem vm_in1 {w : Cond} (h : w ∈ tables_1_1) : w ∈ lw_tbl := by
  show w ∈ k2_sels lw_privs ++ (tables_1_1 ++ (tables_1_2 ++ (tables_1_3 ++ (tables_1_4 ++ (tables_1_5 ++ (tables_1_6 ++ (tables_1_7 ++ (tables_1_8))))))))
  exact List.mem_append_right _ (List.mem_append_left _ h)
theorem vm_in2 {w : Cond} (h : w ∈ tables_1_2) : w ∈ lw_tbl := by
  show w ∈ k2_sels lw_privs ++ (tables_1_1 ++ (tables_1_2 ++ (tables_1_3 ++ (tables_1_4 ++ (tables_1_5 ++ (tables_1_6 ++ (tables_1_7 ++ (tables_1_8))))))))
  exact List.mem_append_right _ (List.mem_append_right _ (List.mem_append_left _ h))
theorem vm_in3 {w : Cond} (h : w ∈ tables_1_3) : w ∈ lw_tbl := by
  show w ∈ k2_sels lw_privs ++ (tables_1_1 ++ (tables_1_2 ++ (tables_1_3 ++ (tables_1_4 ++ (tables_1_5 ++ (tables_1_6 ++ (tables_1_7 ++ (tables_1_8))))))))
  exact List.mem_append_right _ (List.mem_append_right _ (List.mem_append_right _ (List.mem_append_left _ h)))
theorem vm_in4 {w : Cond} (h : w ∈ tables_1_4) : w ∈ lw_tbl := by
  show w ∈ k2_sels lw_privs ++ (tables_1_1 ++ (tables_1_2 ++ (tables_1_3 ++ (tables_1_4 ++ (tables_1_5 ++ (tables_1_6 ++ (tables_1_7 ++ (tables_1_8))))))))
  exact List.mem_append_right _ (List.mem_append_right _ (List.mem_append_right _ (List.mem_append_right _ (List.mem_append_left _ h))))
theorem vm_in5 {w : Cond} (h : w ∈ tables_1_5) : w ∈ lw_tbl := by
  show w ∈ k2_sels lw_privs ++ (tables_1_1 ++ (tables_1_2 ++ (tables_1_3 ++ (tables_1_4 ++ (tables_1_5 ++ (tables_1_6 ++ (tables_1_7 ++ (tables_1_8))))))))
  exact List.mem_append_right _ (List.mem_append_right _ (List.mem_append_right _ (List.mem_append_right _ (List.mem_append_right _ (List.mem_append_left _ h)))))
theorem vm_in6 {w : Cond} (h : w ∈ tables_1_6) : w ∈ lw_tbl := by
  show w ∈ k2_sels lw_privs ++ (tables_1_1 ++ (tables_1_2 ++ (tables_1_3 ++ (tables_1_4 ++ (tables_1_5 ++ (tables_1_6 ++ (tables_1_7 ++ (tables_1_8))))))))
  exact List.mem_append_right _ (List.mem_append_right _ (List.mem_append_right _ (List.mem_append_right _ (List.mem_append_right _ (List.mem_append_right _ (List.mem_append_left _ h))))))
theorem vm_in7 {w : Cond} (h : w ∈ tables_1_7) : w ∈ lw_tbl := by
  show w ∈ k2_sels lw_privs ++ (tables_1_1 ++ (tables_1_2 ++ (tables_1_3 ++ (tables_1_4 ++ (tables_1_5 ++ (tables_1_6 ++ (tables_1_7 ++ (tables_1_8))))))))
  exact List.mem_append_right _ (List.mem_append_right _ (List.mem_append_right _ (List.mem_append_right _ (List.mem_append_right _ (List.mem_append_right _ (List.mem_append_right _ (List.mem_append_left _ h)))))))
theorem vm_in8 {w : Cond} (h : w ∈ tables_1_8) : w ∈ lw_tbl := by
  show w ∈ k2_sels lw_privs ++ (tables_1_1 ++ (tables_1_2 ++ (tables_1_3 ++ (tables_1_4 ++ (tables_1_5 ++ (tables_1_6 ++ (tables_1_7 ++ (tables_1_8))))))))
  exact List.mem_append_right _ (List.mem_append_right _ (List.mem_append_right _ (List.mem_append_right _ (List.mem_append_right _ (List.mem_append_right _ (List.mem_append_right _ (List.mem_append_right _ h)))))))
abbrev vm_cw (f : Nat) : Prop := Cond.code (vm_mn f) (vm_cb f) (vm_mx f) (vm_ret f) ∈ lw_tbl
set_option maxRecDepth 100000 in
theorem vm_cw0 : vm_cw 0 := vm_in1 (List.mem_of_getElem? (i := 49) rfl)
set_option maxRecDepth 100000 in
theorem vm_cw1 : vm_cw 1 := vm_in3 (List.mem_of_getElem? (i := 58) rfl)
set_option maxRecDepth 100000 in
theorem vm_cw2 : vm_cw 2 := vm_in2 (List.mem_of_getElem? (i := 143) rfl)
set_option maxRecDepth 100000 in
theorem vm_cw3 : vm_cw 3 := vm_in3 (List.mem_of_getElem? (i := 29) rfl)
set_option maxRecDepth 100000 in
theorem vm_cw4 : vm_cw 4 := vm_in2 (List.mem_of_getElem? (i := 62) rfl)
set_option maxRecDepth 100000 in
theorem vm_cw5 : vm_cw 5 := vm_in2 (List.mem_of_getElem? (i := 66) rfl)
set_option maxRecDepth 100000 in
theorem vm_cw6 : vm_cw 6 := vm_in3 (List.mem_of_getElem? (i := 165) rfl)
set_option maxRecDepth 100000 in
theorem vm_cw7 : vm_cw 7 := vm_in4 (List.mem_of_getElem? (i := 57) rfl)
set_option maxRecDepth 100000 in
theorem vm_cw8 : vm_cw 8 := vm_in4 (List.mem_of_getElem? (i := 61) rfl)
set_option maxRecDepth 100000 in
theorem vm_cw9 : vm_cw 9 := vm_in4 (List.mem_of_getElem? (i := 100) rfl)
set_option maxRecDepth 100000 in
theorem vm_cw10 : vm_cw 10 := vm_in3 (List.mem_of_getElem? (i := 161) rfl)
set_option maxRecDepth 100000 in
theorem vm_cw11 : vm_cw 11 := vm_in3 (List.mem_of_getElem? (i := 157) rfl)
set_option maxRecDepth 100000 in
theorem vm_cw12 : vm_cw 12 := vm_in1 (List.mem_of_getElem? (i := 203) rfl)
set_option maxRecDepth 100000 in
theorem vm_cw13 : vm_cw 13 := vm_in3 (List.mem_of_getElem? (i := 180) rfl)
set_option maxRecDepth 100000 in
theorem vm_cw14 : vm_cw 14 := vm_in3 (List.mem_of_getElem? (i := 192) rfl)
set_option maxRecDepth 100000 in
theorem vm_cw15 : vm_cw 15 := vm_in4 (List.mem_of_getElem? (i := 125) rfl)
set_option maxRecDepth 100000 in
theorem vm_cw16 : vm_cw 16 := vm_in3 (List.mem_of_getElem? (i := 236) rfl)
set_option maxRecDepth 100000 in
theorem vm_cw17 : vm_cw 17 := vm_in4 (List.mem_of_getElem? (i := 108) rfl)
set_option maxRecDepth 100000 in
theorem vm_cw18 : vm_cw 18 := vm_in4 (List.mem_of_getElem? (i := 216) rfl)
set_option maxRecDepth 100000 in
theorem vm_cw19 : vm_cw 19 := vm_in4 (List.mem_of_getElem? (i := 208) rfl)
set_option maxRecDepth 100000 in
theorem vm_cw20 : vm_cw 20 := vm_in5 (List.mem_of_getElem? (i := 13) rfl)
set_option maxRecDepth 100000 in
theorem vm_cw21 : vm_cw 21 := vm_in5 (List.mem_of_getElem? (i := 0) rfl)
set_option maxRecDepth 100000 in
theorem vm_cw22 : vm_cw 22 := vm_in5 (List.mem_of_getElem? (i := 31) rfl)
set_option maxRecDepth 100000 in
theorem vm_cw23 : vm_cw 23 := vm_in3 (List.mem_of_getElem? (i := 204) rfl)
set_option maxRecDepth 100000 in
theorem vm_cw24 : vm_cw 24 := vm_in3 (List.mem_of_getElem? (i := 188) rfl)
set_option maxRecDepth 100000 in
theorem vm_cw25 : vm_cw 25 := vm_in5 (List.mem_of_getElem? (i := 35) rfl)
set_option maxRecDepth 100000 in
theorem vm_cw26 : vm_cw 26 := vm_in3 (List.mem_of_getElem? (i := 200) rfl)
set_option maxRecDepth 100000 in
theorem vm_cw27 : vm_cw 27 := vm_in3 (List.mem_of_getElem? (i := 216) rfl)
set_option maxRecDepth 100000 in
theorem vm_cw28 : vm_cw 28 := vm_in4 (List.mem_of_getElem? (i := 212) rfl)
set_option maxRecDepth 100000 in
theorem vm_cw29 : vm_cw 29 := vm_in3 (List.mem_of_getElem? (i := 196) rfl)
set_option maxRecDepth 100000 in
theorem vm_cw30 : vm_cw 30 := vm_in3 (List.mem_of_getElem? (i := 220) rfl)
set_option maxRecDepth 100000 in
theorem vm_cw31 : vm_cw 31 := vm_in3 (List.mem_of_getElem? (i := 208) rfl)
set_option maxRecDepth 100000 in
theorem vm_cw32 : vm_cw 32 := vm_in3 (List.mem_of_getElem? (i := 224) rfl)
set_option maxRecDepth 100000 in
theorem vm_cw33 : vm_cw 33 := vm_in3 (List.mem_of_getElem? (i := 212) rfl)
set_option maxRecDepth 100000 in
theorem vm_cw34 : vm_cw 34 := vm_in1 (List.mem_of_getElem? (i := 166) rfl)
set_option maxRecDepth 100000 in
theorem vm_cw35 : vm_cw 35 := vm_in3 (List.mem_of_getElem? (i := 98) rfl)
set_option maxRecDepth 100000 in
theorem vm_cw36 : vm_cw 36 := vm_in4 (List.mem_of_getElem? (i := 32) rfl)
set_option maxRecDepth 100000 in
theorem vm_cw37 : vm_cw 37 := vm_in3 (List.mem_of_getElem? (i := 70) rfl)
set_option maxRecDepth 100000 in
theorem vm_cw38 : vm_cw 38 := vm_in2 (List.mem_of_getElem? (i := 1) rfl)
set_option maxRecDepth 100000 in
theorem vm_cw39 : vm_cw 39 := vm_in3 (List.mem_of_getElem? (i := 228) rfl)
set_option maxRecDepth 100000 in
theorem vm_cw40 : vm_cw 40 := vm_in4 (List.mem_of_getElem? (i := 0) rfl)
set_option maxRecDepth 100000 in
theorem vm_cw41 : vm_cw 41 := vm_in4 (List.mem_of_getElem? (i := 130) rfl)
set_option maxRecDepth 100000 in
theorem vm_cw42 : vm_cw 42 := vm_in4 (List.mem_of_getElem? (i := 16) rfl)
set_option maxRecDepth 100000 in
theorem vm_cw43 : vm_cw 43 := vm_in4 (List.mem_of_getElem? (i := 141) rfl)
set_option maxRecDepth 100000 in
theorem vm_cw44 : vm_cw 44 := vm_in4 (List.mem_of_getElem? (i := 158) rfl)
set_option maxRecDepth 100000 in
theorem vm_cw45 : vm_cw 45 := vm_in4 (List.mem_of_getElem? (i := 153) rfl)
set_option maxRecDepth 100000 in
theorem vm_cw46 : vm_cw 46 := vm_in4 (List.mem_of_getElem? (i := 173) rfl)
set_option maxRecDepth 100000 in
theorem vm_cw47 : vm_cw 47 := vm_in4 (List.mem_of_getElem? (i := 178) rfl)
set_option maxRecDepth 100000 in
theorem vm_cw48 : vm_cw 48 := vm_in4 (List.mem_of_getElem? (i := 186) rfl)
set_option maxRecDepth 100000 in
theorem vm_cw49 : vm_cw 49 := vm_in4 (List.mem_of_getElem? (i := 200) rfl)
set_option maxRecDepth 100000 in
theorem vm_cw50 : vm_cw 50 := vm_in4 (List.mem_of_getElem? (i := 4) rfl)
set_option maxRecDepth 100000 in
theorem vm_cw51 : vm_cw 51 := vm_in3 (List.mem_of_getElem? (i := 232) rfl)
set_option maxRecDepth 100000 in
theorem vm_cw52 : vm_cw 52 := vm_in4 (List.mem_of_getElem? (i := 10) rfl)
set_option maxRecDepth 100000 in
theorem vm_cw53 : vm_cw 53 := vm_in1 (List.mem_of_getElem? (i := 76) rfl)
set_option maxRecDepth 100000 in
theorem vm_cw54 : vm_cw 54 := vm_in3 (List.mem_of_getElem? (i := 65) rfl)
set_option maxRecDepth 100000 in
theorem vm_cw55 : vm_cw 55 := vm_in2 (List.mem_of_getElem? (i := 147) rfl)
set_option maxRecDepth 100000 in
theorem vm_cw56 : vm_cw 56 := vm_in3 (List.mem_of_getElem? (i := 117) rfl)
set_option maxRecDepth 100000 in
theorem vm_cw57 : vm_cw 57 := vm_in3 (List.mem_of_getElem? (i := 173) rfl)
set_option maxRecDepth 100000 in
theorem vm_cw58 : vm_cw 58 := vm_in4 (List.mem_of_getElem? (i := 40) rfl)
set_option maxRecDepth 100000 in
theorem vm_cw59 : vm_cw 59 := vm_in3 (List.mem_of_getElem? (i := 133) rfl)
set_option maxRecDepth 100000 in
theorem vm_cw60 : vm_cw 60 := vm_in4 (List.mem_of_getElem? (i := 44) rfl)
set_option maxRecDepth 100000 in
theorem vm_cw61 : vm_cw 61 := vm_in4 (List.mem_of_getElem? (i := 65) rfl)
set_option maxRecDepth 100000 in
theorem vm_cw62 : vm_cw 62 := vm_in3 (List.mem_of_getElem? (i := 137) rfl)
set_option maxRecDepth 100000 in
theorem vm_cw63 : vm_cw 63 := vm_in3 (List.mem_of_getElem? (i := 83) rfl)
set_option maxRecDepth 100000 in
theorem vm_cw64 : vm_cw 64 := vm_in3 (List.mem_of_getElem? (i := 90) rfl)
set_option maxRecDepth 100000 in
theorem vm_cw65 : vm_cw 65 := vm_in1 (List.mem_of_getElem? (i := 122) rfl)
set_option maxRecDepth 100000 in
theorem vm_cw66 : vm_cw 66 := vm_in3 (List.mem_of_getElem? (i := 54) rfl)
set_option maxRecDepth 100000 in
theorem vm_cw67 : vm_cw 67 := vm_in2 (List.mem_of_getElem? (i := 139) rfl)
set_option maxRecDepth 100000 in
theorem vm_cw68 : vm_cw 68 := vm_in2 (List.mem_of_getElem? (i := 173) rfl)
set_option maxRecDepth 100000 in
theorem vm_cw69 : vm_cw 69 := vm_in2 (List.mem_of_getElem? (i := 235) rfl)
set_option maxRecDepth 100000 in
theorem vm_cw70 : vm_cw 70 := vm_in3 (List.mem_of_getElem? (i := 9) rfl)
set_option maxRecDepth 100000 in
theorem vm_cw71 : vm_cw 71 := vm_in3 (List.mem_of_getElem? (i := 20) rfl)
set_option maxRecDepth 100000 in
theorem vm_cw72 : vm_cw 72 := vm_in3 (List.mem_of_getElem? (i := 36) rfl)
set_option maxRecDepth 100000 in
theorem vm_cw73 : vm_cw 73 := vm_in3 (List.mem_of_getElem? (i := 43) rfl)
set_option maxRecDepth 100000 in
theorem vm_cw74 : vm_cw 74 := vm_in2 (List.mem_of_getElem? (i := 178) rfl)
set_option maxRecDepth 100000 in
theorem vm_cw75 : vm_cw 75 := vm_in3 (List.mem_of_getElem? (i := 48) rfl)
set_option maxRecDepth 100000 in
theorem vm_cw76 : vm_cw 76 := vm_in3 (List.mem_of_getElem? (i := 16) rfl)
set_option maxRecDepth 100000 in
theorem vm_cw77 : vm_cw 77 := vm_in2 (List.mem_of_getElem? (i := 45) rfl)
set_option maxRecDepth 100000 in
theorem vm_cw78 : vm_cw 78 := vm_in5 (List.mem_of_getElem? (i := 61) rfl)
set_option maxRecDepth 100000 in
theorem vm_cw79 : vm_cw 79 := vm_in5 (List.mem_of_getElem? (i := 73) rfl)
set_option maxRecDepth 100000 in
theorem vm_cw80 : vm_cw 80 := vm_in5 (List.mem_of_getElem? (i := 95) rfl)
set_option maxRecDepth 100000 in
theorem vm_cw81 : vm_cw 81 := vm_in5 (List.mem_of_getElem? (i := 69) rfl)
set_option maxRecDepth 100000 in
theorem vm_cw82 : vm_cw 82 := vm_in1 (List.mem_of_getElem? (i := 31) rfl)
set_option maxRecDepth 100000 in
theorem vm_cw83 : vm_cw 83 := vm_in2 (List.mem_of_getElem? (i := 123) rfl)
set_option maxRecDepth 100000 in
theorem vm_cw84 : vm_cw 84 := vm_in2 (List.mem_of_getElem? (i := 127) rfl)
set_option maxRecDepth 100000 in
theorem vm_cw85 : vm_cw 85 := vm_in2 (List.mem_of_getElem? (i := 159) rfl)
set_option maxRecDepth 100000 in
theorem vm_cw86 : vm_cw 86 := vm_in2 (List.mem_of_getElem? (i := 162) rfl)
set_option maxRecDepth 100000 in
theorem vm_cw87 : vm_cw 87 := vm_in1 (List.mem_of_getElem? (i := 128) rfl)
set_option maxRecDepth 100000 in
theorem vm_cw88 : vm_cw 88 := vm_in2 (List.mem_of_getElem? (i := 151) rfl)
set_option maxRecDepth 100000 in
theorem vm_cw89 : vm_cw 89 := vm_in2 (List.mem_of_getElem? (i := 155) rfl)
set_option maxRecDepth 100000 in
theorem vm_cw90 : vm_cw 90 := vm_in2 (List.mem_of_getElem? (i := 182) rfl)
set_option maxRecDepth 100000 in
theorem vm_cw91 : vm_cw 91 := vm_in3 (List.mem_of_getElem? (i := 3) rfl)
set_option maxRecDepth 100000 in
theorem vm_cw92 : vm_cw 92 := vm_in3 (List.mem_of_getElem? (i := 25) rfl)
set_option maxRecDepth 100000 in
theorem vm_cw93 : vm_cw 93 := vm_in2 (List.mem_of_getElem? (i := 169) rfl)
set_option maxRecDepth 100000 in
theorem vm_cw94 : vm_cw 94 := vm_in2 (List.mem_of_getElem? (i := 165) rfl)
set_option maxRecDepth 100000 in
theorem vm_cw95 : vm_cw 95 := vm_in1 (List.mem_of_getElem? (i := 186) rfl)
set_option maxRecDepth 100000 in
theorem vm_cw96 : vm_cw 96 := vm_in3 (List.mem_of_getElem? (i := 184) rfl)
set_option maxRecDepth 100000 in
theorem vm_cw97 : vm_cw 97 := vm_in3 (List.mem_of_getElem? (i := 145) rfl)
set_option maxRecDepth 100000 in
theorem vm_cw98 : vm_cw 98 := vm_in3 (List.mem_of_getElem? (i := 149) rfl)
set_option maxRecDepth 100000 in
theorem vm_cw99 : vm_cw 99 := vm_in3 (List.mem_of_getElem? (i := 153) rfl)
set_option maxRecDepth 100000 in
theorem vm_cw100 : vm_cw 100 := vm_in1 (List.mem_of_getElem? (i := 23) rfl)
set_option maxRecDepth 100000 in
theorem vm_cw101 : vm_cw 101 := vm_in2 (List.mem_of_getElem? (i := 119) rfl)
set_option maxRecDepth 100000 in
theorem vm_cw102 : vm_cw 102 := vm_in2 (List.mem_of_getElem? (i := 131) rfl)
set_option maxRecDepth 100000 in
theorem vm_cw103 : vm_cw 103 := vm_in2 (List.mem_of_getElem? (i := 135) rfl)
set_option maxRecDepth 100000 in
theorem vm_cw104 : vm_cw 104 := vm_in3 (List.mem_of_getElem? (i := 75) rfl)
set_option maxRecDepth 100000 in
theorem vm_cw105 : vm_cw 105 := vm_in3 (List.mem_of_getElem? (i := 79) rfl)
set_option maxRecDepth 100000 in
theorem vm_cw106 : vm_cw 106 := vm_in3 (List.mem_of_getElem? (i := 106) rfl)
set_option maxRecDepth 100000 in
theorem vm_cw107 : vm_cw 107 := vm_in3 (List.mem_of_getElem? (i := 112) rfl)
set_option maxRecDepth 100000 in
theorem vm_cw108 : vm_cw 108 := vm_in3 (List.mem_of_getElem? (i := 121) rfl)
set_option maxRecDepth 100000 in
theorem vm_cw109 : vm_cw 109 := vm_in3 (List.mem_of_getElem? (i := 125) rfl)
set_option maxRecDepth 100000 in
theorem vm_cw110 : vm_cw 110 := vm_in3 (List.mem_of_getElem? (i := 129) rfl)
set_option maxRecDepth 100000 in
theorem vm_cw111 : vm_cw 111 := vm_in4 (List.mem_of_getElem? (i := 20) rfl)
set_option maxRecDepth 100000 in
theorem vm_cw112 : vm_cw 112 := vm_in4 (List.mem_of_getElem? (i := 24) rfl)
set_option maxRecDepth 100000 in
theorem vm_cw113 : vm_cw 113 := vm_in4 (List.mem_of_getElem? (i := 28) rfl)
set_option maxRecDepth 100000 in
theorem vm_cw114 : vm_cw 114 := vm_in3 (List.mem_of_getElem? (i := 94) rfl)
set_option maxRecDepth 100000 in
theorem vm_cw115 : vm_cw 115 := vm_in4 (List.mem_of_getElem? (i := 36) rfl)
set_option maxRecDepth 100000 in
theorem vm_cw116 : vm_cw 116 := vm_in4 (List.mem_of_getElem? (i := 48) rfl)
set_option maxRecDepth 100000 in
theorem vm_cw117 : vm_cw 117 := vm_in4 (List.mem_of_getElem? (i := 53) rfl)
set_option maxRecDepth 100000 in
theorem vm_cw118 : vm_cw 118 := vm_in4 (List.mem_of_getElem? (i := 69) rfl)
set_option maxRecDepth 100000 in
theorem vm_cw119 : vm_cw 119 := vm_in4 (List.mem_of_getElem? (i := 74) rfl)
set_option maxRecDepth 100000 in
theorem vm_cw120 : vm_cw 120 := vm_in4 (List.mem_of_getElem? (i := 84) rfl)
set_option maxRecDepth 100000 in
theorem vm_cw121 : vm_cw 121 := vm_in4 (List.mem_of_getElem? (i := 88) rfl)
set_option maxRecDepth 100000 in
theorem vm_cw122 : vm_cw 122 := vm_in4 (List.mem_of_getElem? (i := 92) rfl)
set_option maxRecDepth 100000 in
theorem vm_cw123 : vm_cw 123 := vm_in4 (List.mem_of_getElem? (i := 96) rfl)
set_option maxRecDepth 100000 in
theorem vm_cw124 : vm_cw 124 := vm_in4 (List.mem_of_getElem? (i := 78) rfl)
set_option maxRecDepth 100000 in
theorem vm_cw125 : vm_cw 125 := vm_in4 (List.mem_of_getElem? (i := 104) rfl)
set_option maxRecDepth 100000 in
theorem vm_cw126 : vm_cw 126 := vm_in4 (List.mem_of_getElem? (i := 113) rfl)
set_option maxRecDepth 100000 in
theorem vm_cw127 : vm_cw 127 := vm_in4 (List.mem_of_getElem? (i := 117) rfl)
set_option maxRecDepth 100000 in
theorem vm_cw128 : vm_cw 128 := vm_in4 (List.mem_of_getElem? (i := 121) rfl)
set_option maxRecDepth 100000 in
theorem vm_cw129 : vm_cw 129 := vm_in4 (List.mem_of_getElem? (i := 137) rfl)
set_option maxRecDepth 100000 in
theorem vm_cw130 : vm_cw 130 := vm_in4 (List.mem_of_getElem? (i := 145) rfl)
set_option maxRecDepth 100000 in
theorem vm_cw131 : vm_cw 131 := vm_in4 (List.mem_of_getElem? (i := 149) rfl)
set_option maxRecDepth 100000 in
theorem vm_cw132 : vm_cw 132 := vm_in4 (List.mem_of_getElem? (i := 163) rfl)
set_option maxRecDepth 100000 in
theorem vm_cw133 : vm_cw 133 := vm_in4 (List.mem_of_getElem? (i := 168) rfl)
set_option maxRecDepth 100000 in
theorem vm_cw134 : vm_cw 134 := vm_in4 (List.mem_of_getElem? (i := 182) rfl)
set_option maxRecDepth 100000 in
theorem vm_cw135 : vm_cw 135 := vm_in4 (List.mem_of_getElem? (i := 192) rfl)
set_option maxRecDepth 100000 in
theorem vm_cw136 : vm_cw 136 := vm_in4 (List.mem_of_getElem? (i := 196) rfl)
set_option maxRecDepth 100000 in
theorem vm_cw137 : vm_cw 137 := vm_in3 (List.mem_of_getElem? (i := 141) rfl)
set_option maxRecDepth 100000 in
theorem vm_cw138 : vm_cw 138 := vm_in4 (List.mem_of_getElem? (i := 204) rfl)
set_option maxRecDepth 100000 in
theorem vm_cw139 : vm_cw 139 := vm_in4 (List.mem_of_getElem? (i := 220) rfl)
set_option maxRecDepth 100000 in
theorem vm_cw140 : vm_cw 140 := vm_in4 (List.mem_of_getElem? (i := 228) rfl)
set_option maxRecDepth 100000 in
theorem vm_cw141 : vm_cw 141 := vm_in4 (List.mem_of_getElem? (i := 232) rfl)
set_option maxRecDepth 100000 in
theorem vm_cw142 : vm_cw 142 := vm_in5 (List.mem_of_getElem? (i := 4) rfl)
set_option maxRecDepth 100000 in
theorem vm_cw143 : vm_cw 143 := vm_in5 (List.mem_of_getElem? (i := 9) rfl)
set_option maxRecDepth 100000 in
theorem vm_cw144 : vm_cw 144 := vm_in5 (List.mem_of_getElem? (i := 17) rfl)
set_option maxRecDepth 100000 in
theorem vm_cw145 : vm_cw 145 := vm_in5 (List.mem_of_getElem? (i := 22) rfl)
set_option maxRecDepth 100000 in
theorem vm_cw146 : vm_cw 146 := vm_in5 (List.mem_of_getElem? (i := 27) rfl)
set_option maxRecDepth 100000 in
theorem vm_cw147 : vm_cw 147 := vm_in5 (List.mem_of_getElem? (i := 41) rfl)
set_option maxRecDepth 100000 in
theorem vm_cw148 : vm_cw 148 := vm_in4 (List.mem_of_getElem? (i := 224) rfl)
set_option maxRecDepth 100000 in
theorem vm_cw149 : vm_cw 149 := vm_in4 (List.mem_of_getElem? (i := 236) rfl)
set_option maxRecDepth 100000 in
theorem vm_cw150 : vm_cw 150 := vm_in5 (List.mem_of_getElem? (i := 48) rfl)
set_option maxRecDepth 100000 in
theorem vm_cw151 : vm_cw 151 := vm_in5 (List.mem_of_getElem? (i := 53) rfl)
set_option maxRecDepth 100000 in
theorem vm_cw152 : vm_cw 152 := vm_in5 (List.mem_of_getElem? (i := 57) rfl)
set_option maxRecDepth 100000 in
theorem vm_cw153 : vm_cw 153 := vm_in5 (List.mem_of_getElem? (i := 78) rfl)
set_option maxRecDepth 100000 in
theorem vm_cw154 : vm_cw 154 := vm_in5 (List.mem_of_getElem? (i := 82) rfl)
set_option maxRecDepth 100000 in
theorem vm_cw155 : vm_cw 155 := vm_in5 (List.mem_of_getElem? (i := 127) rfl)
set_option maxRecDepth 100000 in
theorem vm_cw156 : vm_cw 156 := vm_in5 (List.mem_of_getElem? (i := 131) rfl)
set_option maxRecDepth 100000 in
theorem vm_cw157 : vm_cw 157 := vm_in5 (List.mem_of_getElem? (i := 65) rfl)
set_option maxRecDepth 100000 in
theorem vm_cw158 : vm_cw 158 := vm_in5 (List.mem_of_getElem? (i := 86) rfl)
set_option maxRecDepth 100000 in
theorem vm_cw159 : vm_cw 159 := vm_in5 (List.mem_of_getElem? (i := 91) rfl)
set_option maxRecDepth 100000 in
theorem vm_cw160 : vm_cw 160 := vm_in5 (List.mem_of_getElem? (i := 107) rfl)
set_option maxRecDepth 100000 in
theorem vm_cw161 : vm_cw 161 := vm_in5 (List.mem_of_getElem? (i := 114) rfl)
set_option maxRecDepth 100000 in
theorem vm_cw162 : vm_cw 162 := vm_in5 (List.mem_of_getElem? (i := 120) rfl)
set_option maxRecDepth 100000 in
theorem vm_cw163 : vm_cw 163 := vm_in5 (List.mem_of_getElem? (i := 136) rfl)
set_option maxRecDepth 100000 in
theorem vm_cw164 : vm_cw 164 := vm_in6 (List.mem_of_getElem? (i := 46) rfl)
set_option maxRecDepth 100000 in
theorem vm_cw165 : vm_cw 165 := vm_in6 (List.mem_of_getElem? (i := 153) rfl)
set_option maxRecDepth 100000 in
theorem vm_cw166 : vm_cw 166 := vm_in7 (List.mem_of_getElem? (i := 11) rfl)
set_option maxRecDepth 100000 in
theorem vm_cw167 : vm_cw 167 := vm_in6 (List.mem_of_getElem? (i := 223) rfl)
set_option maxRecDepth 100000 in
theorem vm_cw168 : vm_cw 168 := vm_in6 (List.mem_of_getElem? (i := 227) rfl)
set_option maxRecDepth 100000 in
theorem vm_cw169 : vm_cw 169 := vm_in6 (List.mem_of_getElem? (i := 203) rfl)
set_option maxRecDepth 100000 in
theorem vm_cw170 : vm_cw 170 := vm_in7 (List.mem_of_getElem? (i := 7) rfl)
set_option maxRecDepth 100000 in
theorem vm_cw171 : vm_cw 171 := vm_in7 (List.mem_of_getElem? (i := 3) rfl)
set_option maxRecDepth 100000 in
theorem vm_cw172 : vm_cw 172 := vm_in6 (List.mem_of_getElem? (i := 187) rfl)
set_option maxRecDepth 100000 in
theorem vm_cw173 : vm_cw 173 := vm_in6 (List.mem_of_getElem? (i := 239) rfl)
set_option maxRecDepth 100000 in
theorem vm_cw174 : vm_cw 174 := vm_in6 (List.mem_of_getElem? (i := 235) rfl)
set_option maxRecDepth 100000 in
theorem vm_cw175 : vm_cw 175 := vm_in6 (List.mem_of_getElem? (i := 231) rfl)
set_option maxRecDepth 100000 in
theorem vm_cw176 : vm_cw 176 := vm_in6 (List.mem_of_getElem? (i := 219) rfl)
set_option maxRecDepth 100000 in
theorem vm_cw177 : vm_cw 177 := vm_in6 (List.mem_of_getElem? (i := 215) rfl)
set_option maxRecDepth 100000 in
theorem vm_cw178 : vm_cw 178 := vm_in7 (List.mem_of_getElem? (i := 36) rfl)
set_option maxRecDepth 100000 in
theorem vm_cw179 : vm_cw 179 := vm_in7 (List.mem_of_getElem? (i := 32) rfl)
set_option maxRecDepth 100000 in
theorem vm_cw180 : vm_cw 180 := vm_in7 (List.mem_of_getElem? (i := 40) rfl)
set_option maxRecDepth 100000 in
theorem vm_cw181 : vm_cw 181 := vm_in7 (List.mem_of_getElem? (i := 44) rfl)
set_option maxRecDepth 100000 in
theorem vm_cw182 : vm_cw 182 := vm_in7 (List.mem_of_getElem? (i := 27) rfl)
set_option maxRecDepth 100000 in
theorem vm_cw183 : vm_cw 183 := vm_in7 (List.mem_of_getElem? (i := 23) rfl)
set_option maxRecDepth 100000 in
theorem vm_cw184 : vm_cw 184 := vm_in7 (List.mem_of_getElem? (i := 19) rfl)
set_option maxRecDepth 100000 in
theorem vm_cw185 : vm_cw 185 := vm_in7 (List.mem_of_getElem? (i := 15) rfl)
set_option maxRecDepth 100000 in
theorem vm_cw186 : vm_cw 186 := vm_in6 (List.mem_of_getElem? (i := 211) rfl)
set_option maxRecDepth 100000 in
theorem vm_cw187 : vm_cw 187 := vm_in8 (List.mem_of_getElem? (i := 22) rfl)
set_option maxRecDepth 100000 in
theorem vm_cw188 : vm_cw 188 := vm_in7 (List.mem_of_getElem? (i := 229) rfl)
set_option maxRecDepth 100000 in
theorem vm_cw189 : vm_cw 189 := vm_in7 (List.mem_of_getElem? (i := 225) rfl)
set_option maxRecDepth 100000 in
theorem vm_cw190 : vm_cw 190 := vm_in7 (List.mem_of_getElem? (i := 157) rfl)
set_option maxRecDepth 100000 in
theorem vm_cw191 : vm_cw 191 := vm_in7 (List.mem_of_getElem? (i := 153) rfl)
set_option maxRecDepth 100000 in
theorem vm_cw192 : vm_cw 192 := vm_in7 (List.mem_of_getElem? (i := 161) rfl)
set_option maxRecDepth 100000 in
theorem vm_cw193 : vm_cw 193 := vm_in7 (List.mem_of_getElem? (i := 149) rfl)
set_option maxRecDepth 100000 in
theorem vm_cw194 : vm_cw 194 := vm_in7 (List.mem_of_getElem? (i := 165) rfl)
set_option maxRecDepth 100000 in
theorem vm_cw195 : vm_cw 195 := vm_in7 (List.mem_of_getElem? (i := 169) rfl)
set_option maxRecDepth 100000 in
theorem vm_cw196 : vm_cw 196 := vm_in7 (List.mem_of_getElem? (i := 145) rfl)
set_option maxRecDepth 100000 in
theorem vm_cw197 : vm_cw 197 := vm_in6 (List.mem_of_getElem? (i := 66) rfl)
set_option maxRecDepth 100000 in
theorem vm_cw198 : vm_cw 198 := vm_in6 (List.mem_of_getElem? (i := 75) rfl)
set_option maxRecDepth 100000 in
theorem vm_cw199 : vm_cw 199 := vm_in6 (List.mem_of_getElem? (i := 70) rfl)
set_option maxRecDepth 100000 in
theorem vm_cw200 : vm_cw 200 := vm_in6 (List.mem_of_getElem? (i := 93) rfl)
set_option maxRecDepth 100000 in
theorem vm_cw201 : vm_cw 201 := vm_in6 (List.mem_of_getElem? (i := 62) rfl)
set_option maxRecDepth 100000 in
theorem vm_cw202 : vm_cw 202 := vm_in6 (List.mem_of_getElem? (i := 58) rfl)
set_option maxRecDepth 100000 in
theorem vm_cw203 : vm_cw 203 := vm_in6 (List.mem_of_getElem? (i := 109) rfl)
set_option maxRecDepth 100000 in
theorem vm_cw204 : vm_cw 204 := vm_in6 (List.mem_of_getElem? (i := 105) rfl)
set_option maxRecDepth 100000 in
theorem vm_cw205 : vm_cw 205 := vm_in6 (List.mem_of_getElem? (i := 113) rfl)
set_option maxRecDepth 100000 in
theorem vm_cw206 : vm_cw 206 := vm_in6 (List.mem_of_getElem? (i := 101) rfl)
set_option maxRecDepth 100000 in
theorem vm_cw207 : vm_cw 207 := vm_in6 (List.mem_of_getElem? (i := 97) rfl)
set_option maxRecDepth 100000 in
theorem vm_cw208 : vm_cw 208 := vm_in6 (List.mem_of_getElem? (i := 121) rfl)
set_option maxRecDepth 100000 in
theorem vm_cw209 : vm_cw 209 := vm_in6 (List.mem_of_getElem? (i := 125) rfl)
set_option maxRecDepth 100000 in
theorem vm_cw210 : vm_cw 210 := vm_in6 (List.mem_of_getElem? (i := 117) rfl)
set_option maxRecDepth 100000 in
theorem vm_cw211 : vm_cw 211 := vm_in6 (List.mem_of_getElem? (i := 129) rfl)
set_option maxRecDepth 100000 in
theorem vm_cw212 : vm_cw 212 := vm_in6 (List.mem_of_getElem? (i := 54) rfl)
set_option maxRecDepth 100000 in
theorem vm_cw213 : vm_cw 213 := vm_in6 (List.mem_of_getElem? (i := 35) rfl)
set_option maxRecDepth 100000 in
theorem vm_cw214 : vm_cw 214 := vm_in6 (List.mem_of_getElem? (i := 39) rfl)
set_option maxRecDepth 100000 in
theorem vm_cw215 : vm_cw 215 := vm_in6 (List.mem_of_getElem? (i := 43) rfl)
set_option maxRecDepth 100000 in
theorem vm_cw216 : vm_cw 216 := vm_in6 (List.mem_of_getElem? (i := 50) rfl)
set_option maxRecDepth 100000 in
theorem vm_cw217 : vm_cw 217 := vm_in6 (List.mem_of_getElem? (i := 137) rfl)
set_option maxRecDepth 100000 in
theorem vm_cw218 : vm_cw 218 := vm_in6 (List.mem_of_getElem? (i := 149) rfl)
set_option maxRecDepth 100000 in
theorem vm_cw219 : vm_cw 219 := vm_in6 (List.mem_of_getElem? (i := 145) rfl)
set_option maxRecDepth 100000 in
theorem vm_cw220 : vm_cw 220 := vm_in6 (List.mem_of_getElem? (i := 141) rfl)
set_option maxRecDepth 100000 in
theorem vm_cw221 : vm_cw 221 := vm_in6 (List.mem_of_getElem? (i := 158) rfl)
set_option maxRecDepth 100000 in
theorem vm_cw222 : vm_cw 222 := vm_in6 (List.mem_of_getElem? (i := 162) rfl)
set_option maxRecDepth 100000 in
theorem vm_cw223 : vm_cw 223 := vm_in6 (List.mem_of_getElem? (i := 178) rfl)
set_option maxRecDepth 100000 in
theorem vm_cw224 : vm_cw 224 := vm_in6 (List.mem_of_getElem? (i := 170) rfl)
set_option maxRecDepth 100000 in
theorem vm_cw225 : vm_cw 225 := vm_in6 (List.mem_of_getElem? (i := 166) rfl)
set_option maxRecDepth 100000 in
theorem vm_cw226 : vm_cw 226 := vm_in6 (List.mem_of_getElem? (i := 182) rfl)
set_option maxRecDepth 100000 in
theorem vm_cw227 : vm_cw 227 := vm_in6 (List.mem_of_getElem? (i := 191) rfl)
set_option maxRecDepth 100000 in
theorem vm_cw228 : vm_cw 228 := vm_in6 (List.mem_of_getElem? (i := 195) rfl)
set_option maxRecDepth 100000 in
theorem vm_cw229 : vm_cw 229 := vm_in6 (List.mem_of_getElem? (i := 207) rfl)
set_option maxRecDepth 100000 in
theorem vm_cw230 : vm_cw 230 := vm_in6 (List.mem_of_getElem? (i := 199) rfl)
set_option maxRecDepth 100000 in
theorem vm_cw231 : vm_cw 231 := vm_in7 (List.mem_of_getElem? (i := 48) rfl)
set_option maxRecDepth 100000 in
theorem vm_cw232 : vm_cw 232 := vm_in7 (List.mem_of_getElem? (i := 52) rfl)
set_option maxRecDepth 100000 in
theorem vm_cw233 : vm_cw 233 := vm_in6 (List.mem_of_getElem? (i := 133) rfl)
set_option maxRecDepth 100000 in
theorem vm_cw234 : vm_cw 234 := vm_in7 (List.mem_of_getElem? (i := 60) rfl)
set_option maxRecDepth 100000 in
theorem vm_cw235 : vm_cw 235 := vm_in7 (List.mem_of_getElem? (i := 68) rfl)
set_option maxRecDepth 100000 in
theorem vm_cw236 : vm_cw 236 := vm_in7 (List.mem_of_getElem? (i := 64) rfl)
set_option maxRecDepth 100000 in
theorem vm_cw237 : vm_cw 237 := vm_in7 (List.mem_of_getElem? (i := 56) rfl)
set_option maxRecDepth 100000 in
theorem vm_cw238 : vm_cw 238 := vm_in7 (List.mem_of_getElem? (i := 73) rfl)
set_option maxRecDepth 100000 in
theorem vm_cw239 : vm_cw 239 := vm_in7 (List.mem_of_getElem? (i := 81) rfl)
set_option maxRecDepth 100000 in
theorem vm_cw240 : vm_cw 240 := vm_in7 (List.mem_of_getElem? (i := 85) rfl)
set_option maxRecDepth 100000 in
theorem vm_cw241 : vm_cw 241 := vm_in7 (List.mem_of_getElem? (i := 89) rfl)
set_option maxRecDepth 100000 in
theorem vm_cw242 : vm_cw 242 := vm_in7 (List.mem_of_getElem? (i := 77) rfl)
set_option maxRecDepth 100000 in
theorem vm_cw243 : vm_cw 243 := vm_in7 (List.mem_of_getElem? (i := 93) rfl)
set_option maxRecDepth 100000 in
theorem vm_cw244 : vm_cw 244 := vm_in7 (List.mem_of_getElem? (i := 97) rfl)
set_option maxRecDepth 100000 in
theorem vm_cw245 : vm_cw 245 := vm_in7 (List.mem_of_getElem? (i := 101) rfl)
set_option maxRecDepth 100000 in
theorem vm_cw246 : vm_cw 246 := vm_in7 (List.mem_of_getElem? (i := 105) rfl)
set_option maxRecDepth 100000 in
theorem vm_cw247 : vm_cw 247 := vm_in7 (List.mem_of_getElem? (i := 113) rfl)
set_option maxRecDepth 100000 in
theorem vm_cw248 : vm_cw 248 := vm_in7 (List.mem_of_getElem? (i := 109) rfl)
set_option maxRecDepth 100000 in
theorem vm_cw249 : vm_cw 249 := vm_in7 (List.mem_of_getElem? (i := 117) rfl)
set_option maxRecDepth 100000 in
theorem vm_cw250 : vm_cw 250 := vm_in7 (List.mem_of_getElem? (i := 125) rfl)
set_option maxRecDepth 100000 in
theorem vm_cw251 : vm_cw 251 := vm_in7 (List.mem_of_getElem? (i := 129) rfl)
set_option maxRecDepth 100000 in
theorem vm_cw252 : vm_cw 252 := vm_in7 (List.mem_of_getElem? (i := 121) rfl)
set_option maxRecDepth 100000 in
theorem vm_cw253 : vm_cw 253 := vm_in7 (List.mem_of_getElem? (i := 133) rfl)
set_option maxRecDepth 100000 in
theorem vm_cw254 : vm_cw 254 := vm_in7 (List.mem_of_getElem? (i := 137) rfl)
set_option maxRecDepth 100000 in
theorem vm_cw255 : vm_cw 255 := vm_in7 (List.mem_of_getElem? (i := 141) rfl)
set_option maxRecDepth 100000 in
theorem vm_cw256 : vm_cw 256 := vm_in7 (List.mem_of_getElem? (i := 173) rfl)
set_option maxRecDepth 100000 in
theorem vm_cw257 : vm_cw 257 := vm_in7 (List.mem_of_getElem? (i := 177) rfl)
set_option maxRecDepth 100000 in
theorem vm_cw258 : vm_cw 258 := vm_in7 (List.mem_of_getElem? (i := 185) rfl)
set_option maxRecDepth 100000 in
theorem vm_cw259 : vm_cw 259 := vm_in7 (List.mem_of_getElem? (i := 189) rfl)
set_option maxRecDepth 100000 in
theorem vm_cw260 : vm_cw 260 := vm_in7 (List.mem_of_getElem? (i := 181) rfl)
set_option maxRecDepth 100000 in
theorem vm_cw261 : vm_cw 261 := vm_in7 (List.mem_of_getElem? (i := 193) rfl)
set_option maxRecDepth 100000 in
theorem vm_cw262 : vm_cw 262 := vm_in7 (List.mem_of_getElem? (i := 201) rfl)
set_option maxRecDepth 100000 in
theorem vm_cw263 : vm_cw 263 := vm_in7 (List.mem_of_getElem? (i := 205) rfl)
set_option maxRecDepth 100000 in
theorem vm_cw264 : vm_cw 264 := vm_in7 (List.mem_of_getElem? (i := 197) rfl)
set_option maxRecDepth 100000 in
theorem vm_cw265 : vm_cw 265 := vm_in7 (List.mem_of_getElem? (i := 209) rfl)
set_option maxRecDepth 100000 in
theorem vm_cw266 : vm_cw 266 := vm_in7 (List.mem_of_getElem? (i := 213) rfl)
set_option maxRecDepth 100000 in
theorem vm_cw267 : vm_cw 267 := vm_in7 (List.mem_of_getElem? (i := 217) rfl)
set_option maxRecDepth 100000 in
theorem vm_cw268 : vm_cw 268 := vm_in7 (List.mem_of_getElem? (i := 221) rfl)
set_option maxRecDepth 100000 in
theorem vm_cw269 : vm_cw 269 := vm_in7 (List.mem_of_getElem? (i := 237) rfl)
set_option maxRecDepth 100000 in
theorem vm_cw270 : vm_cw 270 := vm_in7 (List.mem_of_getElem? (i := 233) rfl)
set_option maxRecDepth 100000 in
theorem vm_cw271 : vm_cw 271 := vm_in8 (List.mem_of_getElem? (i := 1) rfl)
set_option maxRecDepth 100000 in
theorem vm_cw272 : vm_cw 272 := vm_in8 (List.mem_of_getElem? (i := 10) rfl)
set_option maxRecDepth 100000 in
theorem vm_cw273 : vm_cw 273 := vm_in8 (List.mem_of_getElem? (i := 5) rfl)
set_option maxRecDepth 100000 in
theorem vm_cw274 : vm_cw 274 := vm_in8 (List.mem_of_getElem? (i := 14) rfl)
set_option maxRecDepth 100000 in
theorem vm_cw275 : vm_cw 275 := vm_in8 (List.mem_of_getElem? (i := 18) rfl)
set_option maxRecDepth 100000 in
theorem vm_cw276 : vm_cw 276 := vm_in8 (List.mem_of_getElem? (i := 26) rfl)
set_option maxRecDepth 100000 in
theorem vm_cw277 : vm_cw 277 := vm_in8 (List.mem_of_getElem? (i := 30) rfl)
set_option maxRecDepth 100000 in
theorem vm_cw278 : vm_cw 278 := vm_in8 (List.mem_of_getElem? (i := 38) rfl)
set_option maxRecDepth 100000 in
theorem vm_cw279 : vm_cw 279 := vm_in8 (List.mem_of_getElem? (i := 34) rfl)
set_option maxRecDepth 100000 in
theorem vm_cw280 : vm_cw 280 := vm_in8 (List.mem_of_getElem? (i := 45) rfl)
set_option maxRecDepth 100000 in
theorem vm_cw281 : vm_cw 281 := vm_in8 (List.mem_of_getElem? (i := 42) rfl)
set_option maxRecDepth 100000 in
theorem vm_cw282 : vm_cw 282 := vm_in8 (List.mem_of_getElem? (i := 49) rfl)
set_option maxRecDepth 100000 in
theorem vm_cw283 : vm_cw 283 := vm_in8 (List.mem_of_getElem? (i := 54) rfl)
set_option maxRecDepth 100000 in
theorem vm_cw284 : vm_cw 284 := vm_in8 (List.mem_of_getElem? (i := 66) rfl)
set_option maxRecDepth 100000 in
theorem vm_cw285 : vm_cw 285 := vm_in8 (List.mem_of_getElem? (i := 78) rfl)
set_option maxRecDepth 100000 in
theorem vm_cw286 : vm_cw 286 := vm_in8 (List.mem_of_getElem? (i := 102) rfl)
set_option maxRecDepth 100000 in
theorem vm_cw287 : vm_cw 287 := vm_in8 (List.mem_of_getElem? (i := 74) rfl)
set_option maxRecDepth 100000 in
theorem vm_cw288 : vm_cw 288 := vm_in8 (List.mem_of_getElem? (i := 70) rfl)
set_option maxRecDepth 100000 in
theorem vm_cw289 : vm_cw 289 := vm_in8 (List.mem_of_getElem? (i := 62) rfl)
set_option maxRecDepth 100000 in
theorem vm_cw290 : vm_cw 290 := vm_in8 (List.mem_of_getElem? (i := 58) rfl)
set_option maxRecDepth 100000 in
theorem vm_cw291 : vm_cw 291 := vm_in8 (List.mem_of_getElem? (i := 82) rfl)
set_option maxRecDepth 100000 in
theorem vm_cw292 : vm_cw 292 := vm_in8 (List.mem_of_getElem? (i := 98) rfl)
set_option maxRecDepth 100000 in
theorem vm_cw293 : vm_cw 293 := vm_in8 (List.mem_of_getElem? (i := 111) rfl)
set_option maxRecDepth 100000 in
theorem vm_cw294 : vm_cw 294 := vm_in8 (List.mem_of_getElem? (i := 107) rfl)
set_option maxRecDepth 100000 in
theorem vm_cw295 : vm_cw 295 := vm_in8 (List.mem_of_getElem? (i := 115) rfl)
set_option maxRecDepth 100000 in
theorem vm_cw296 : vm_cw 296 := vm_in8 (List.mem_of_getElem? (i := 94) rfl)
set_option maxRecDepth 100000 in
theorem vm_cw297 : vm_cw 297 := vm_in8 (List.mem_of_getElem? (i := 90) rfl)
set_option maxRecDepth 100000 in
theorem vm_cw298 : vm_cw 298 := vm_in8 (List.mem_of_getElem? (i := 86) rfl)
set_option maxRecDepth 100000 in
theorem vm_cw299 : vm_cw 299 := vm_in8 (List.mem_of_getElem? (i := 119) rfl)
set_option maxRecDepth 100000 in
theorem vm_cw300 : vm_cw 300 := vm_in8 (List.mem_of_getElem? (i := 123) rfl)
theorem vm_cwc0 : ∀ f ∈ ([0, 1, 2, 3, 4, 5, 6, 7, 8, 9, 10, 11, 12, 13, 14, 15, 16, 17, 18, 19, 20, 21, 22, 23, 24] : List Nat), vm_cw f := List.forall_mem_cons.mpr ⟨vm_cw0, List.forall_mem_cons.mpr ⟨vm_cw1, List.forall_mem_cons.mpr ⟨vm_cw2, List.forall_mem_cons.mpr ⟨vm_cw3, List.forall_mem_cons.mpr ⟨vm_cw4, List.forall_mem_cons.mpr ⟨vm_cw5, List.forall_mem_cons.mpr ⟨vm_cw6, List.forall_mem_cons.mpr ⟨vm_cw7, List.forall_mem_cons.mpr ⟨vm_cw8, List.forall_mem_cons.mpr ⟨vm_cw9, List.forall_mem_cons.mpr ⟨vm_cw10, List.forall_mem_cons.mpr ⟨vm_cw11, List.forall_mem_cons.mpr ⟨vm_cw12, List.forall_mem_cons.mpr ⟨vm_cw13, List.forall_mem_cons.mpr ⟨vm_cw14, List.forall_mem_cons.mpr ⟨vm_cw15, List.forall_mem_cons.mpr ⟨vm_cw16, List.forall_mem_cons.mpr ⟨vm_cw17, List.forall_mem_cons.mpr ⟨vm_cw18, List.forall_mem_cons.mpr ⟨vm_cw19, List.forall_mem_cons.mpr ⟨vm_cw20, List.forall_mem_cons.mpr ⟨vm_cw21, List.forall_mem_cons.mpr ⟨vm_cw22, List.forall_mem_cons.mpr ⟨vm_cw23, List.forall_mem_cons.mpr ⟨vm_cw24, fun _ h => absurd h List.not_mem_nil⟩⟩⟩⟩⟩⟩⟩⟩⟩⟩⟩⟩⟩⟩⟩⟩⟩⟩⟩⟩⟩⟩⟩⟩⟩
theorem vm_cwc1 : ∀ f ∈ ([25, 26, 27, 28, 29, 30, 31, 32, 33, 34, 35, 36, 37, 38, 39, 40, 41, 42, 43, 44, 45, 46, 47, 48, 49] : List Nat), vm_cw f := List.forall_mem_cons.mpr ⟨vm_cw25, List.forall_mem_cons.mpr ⟨vm_cw26, List.forall_mem_cons.mpr ⟨vm_cw27, List.forall_mem_cons.mpr ⟨vm_cw28, List.forall_mem_cons.mpr ⟨vm_cw29, List.forall_mem_cons.mpr ⟨vm_cw30, List.forall_mem_cons.mpr ⟨vm_cw31, List.forall_mem_cons.mpr ⟨vm_cw32, List.forall_mem_cons.mpr ⟨vm_cw33, List.forall_mem_cons.mpr ⟨vm_cw34, List.forall_mem_cons.mpr ⟨vm_cw35, List.forall_mem_cons.mpr ⟨vm_cw36, List.forall_mem_cons.mpr ⟨vm_cw37, List.forall_mem_cons.mpr ⟨vm_cw38, List.forall_mem_cons.mpr ⟨vm_cw39, List.forall_mem_cons.mpr ⟨vm_cw40, List.forall_mem_cons.mpr ⟨vm_cw41, List.forall_mem_cons.mpr ⟨vm_cw42, List.forall_mem_cons.mpr ⟨vm_cw43, List.forall_mem_cons.mpr ⟨vm_cw44, List.forall_mem_cons.mpr ⟨vm_cw45, List.forall_mem_cons.mpr ⟨vm_cw46, List.forall_mem_cons.mpr ⟨vm_cw47, List.forall_mem_cons.mpr ⟨vm_cw48, List.forall_mem_cons.mpr ⟨vm_cw49, fun _ h => absurd h List.not_mem_nil⟩⟩⟩⟩⟩⟩⟩⟩⟩⟩⟩⟩⟩⟩⟩⟩⟩⟩⟩⟩⟩⟩⟩⟩⟩
theorem vm_cwc2 : ∀ f ∈ ([50, 51, 52, 53, 54, 55, 56, 57, 58, 59, 60, 61, 62, 63, 64, 65, 66, 67, 68, 69, 70, 71, 72, 73, 74] : List Nat), vm_cw f := List.forall_mem_cons.mpr ⟨vm_cw50, List.forall_mem_cons.mpr ⟨vm_cw51, List.forall_mem_cons.mpr ⟨vm_cw52, List.forall_mem_cons.mpr ⟨vm_cw53, List.forall_mem_cons.mpr ⟨vm_cw54, List.forall_mem_cons.mpr ⟨vm_cw55, List.forall_mem_cons.mpr ⟨vm_cw56, List.forall_mem_cons.mpr ⟨vm_cw57, List.forall_mem_cons.mpr ⟨vm_cw58, List.forall_mem_cons.mpr ⟨vm_cw59, List.forall_mem_cons.mpr ⟨vm_cw60, List.forall_mem_cons.mpr ⟨vm_cw61, List.forall_mem_cons.mpr ⟨vm_cw62, List.forall_mem_cons.mpr ⟨vm_cw63, List.forall_mem_cons.mpr ⟨vm_cw64, List.forall_mem_cons.mpr ⟨vm_cw65, List.forall_mem_cons.mpr ⟨vm_cw66, List.forall_mem_cons.mpr ⟨vm_cw67, List.forall_mem_cons.mpr ⟨vm_cw68, List.forall_mem_cons.mpr ⟨vm_cw69, List.forall_mem_cons.mpr ⟨vm_cw70, List.forall_mem_cons.mpr ⟨vm_cw71, List.forall_mem_cons.mpr ⟨vm_cw72, List.forall_mem_cons.mpr ⟨vm_cw73, List.forall_mem_cons.mpr ⟨vm_cw74, fun _ h => absurd h List.not_mem_nil⟩⟩⟩⟩⟩⟩⟩⟩⟩⟩⟩⟩⟩⟩⟩⟩⟩⟩⟩⟩⟩⟩⟩⟩⟩
theorem vm_cwc3 : ∀ f ∈ ([75, 76, 77, 78, 79, 80, 81, 82, 83, 84, 85, 86, 87, 88, 89, 90, 91, 92, 93, 94, 95, 96, 97, 98, 99] : List Nat), vm_cw f := List.forall_mem_cons.mpr ⟨vm_cw75, List.forall_mem_cons.mpr ⟨vm_cw76, List.forall_mem_cons.mpr ⟨vm_cw77, List.forall_mem_cons.mpr ⟨vm_cw78, List.forall_mem_cons.mpr ⟨vm_cw79, List.forall_mem_cons.mpr ⟨vm_cw80, List.forall_mem_cons.mpr ⟨vm_cw81, List.forall_mem_cons.mpr ⟨vm_cw82, List.forall_mem_cons.mpr ⟨vm_cw83, List.forall_mem_cons.mpr ⟨vm_cw84, List.forall_mem_cons.mpr ⟨vm_cw85, List.forall_mem_cons.mpr ⟨vm_cw86, List.forall_mem_cons.mpr ⟨vm_cw87, List.forall_mem_cons.mpr ⟨vm_cw88, List.forall_mem_cons.mpr ⟨vm_cw89, List.forall_mem_cons.mpr ⟨vm_cw90, List.forall_mem_cons.mpr ⟨vm_cw91, List.forall_mem_cons.mpr ⟨vm_cw92, List.forall_mem_cons.mpr ⟨vm_cw93, List.forall_mem_cons.mpr ⟨vm_cw94, List.forall_mem_cons.mpr ⟨vm_cw95, List.forall_mem_cons.mpr ⟨vm_cw96, List.forall_mem_cons.mpr ⟨vm_cw97, List.forall_mem_cons.mpr ⟨vm_cw98, List.forall_mem_cons.mpr ⟨vm_cw99, fun _ h => absurd h List.not_mem_nil⟩⟩⟩⟩⟩⟩⟩⟩⟩⟩⟩⟩⟩⟩⟩⟩⟩⟩⟩⟩⟩⟩⟩⟩⟩
theorem vm_cwc4 : ∀ f ∈ ([100, 101, 102, 103, 104, 105, 106, 107, 108, 109, 110, 111, 112, 113, 114, 115, 116, 117, 118, 119, 120, 121, 122, 123, 124] : List Nat), vm_cw f := List.forall_mem_cons.mpr ⟨vm_cw100, List.forall_mem_cons.mpr ⟨vm_cw101, List.forall_mem_cons.mpr ⟨vm_cw102, List.forall_mem_cons.mpr ⟨vm_cw103, List.forall_mem_cons.mpr ⟨vm_cw104, List.forall_mem_cons.mpr ⟨vm_cw105, List.forall_mem_cons.mpr ⟨vm_cw106, List.forall_mem_cons.mpr ⟨vm_cw107, List.forall_mem_cons.mpr ⟨vm_cw108, List.forall_mem_cons.mpr ⟨vm_cw109, List.forall_mem_cons.mpr ⟨vm_cw110, List.forall_mem_cons.mpr ⟨vm_cw111, List.forall_mem_cons.mpr ⟨vm_cw112, List.forall_mem_cons.mpr ⟨vm_cw113, List.forall_mem_cons.mpr ⟨vm_cw114, List.forall_mem_cons.mpr ⟨vm_cw115, List.forall_mem_cons.mpr ⟨vm_cw116, List.forall_mem_cons.mpr ⟨vm_cw117, List.forall_mem_cons.mpr ⟨vm_cw118, List.forall_mem_cons.mpr ⟨vm_cw119, List.forall_mem_cons.mpr ⟨vm_cw120, List.forall_mem_cons.mpr ⟨vm_cw121, List.forall_mem_cons.mpr ⟨vm_cw122, List.forall_mem_cons.mpr ⟨vm_cw123, List.forall_mem_cons.mpr ⟨vm_cw124, fun _ h => absurd h List.not_mem_nil⟩⟩⟩⟩⟩⟩⟩⟩⟩⟩⟩⟩⟩⟩⟩⟩⟩⟩⟩⟩⟩⟩⟩⟩⟩
theorem vm_cwc5 : ∀ f ∈ ([125, 126, 127, 128, 129, 130, 131, 132, 133, 134, 135, 136, 137, 138, 139, 140, 141, 142, 143, 144, 145, 146, 147, 148, 149] : List Nat), vm_cw f := List.forall_mem_cons.mpr ⟨vm_cw125, List.forall_mem_cons.mpr ⟨vm_cw126, List.forall_mem_cons.mpr ⟨vm_cw127, List.forall_mem_cons.mpr ⟨vm_cw128, List.forall_mem_cons.mpr ⟨vm_cw129, List.forall_mem_cons.mpr ⟨vm_cw130, List.forall_mem_cons.mpr ⟨vm_cw131, List.forall_mem_cons.mpr ⟨vm_cw132, List.forall_mem_cons.mpr ⟨vm_cw133, List.forall_mem_cons.mpr ⟨vm_cw134, List.forall_mem_cons.mpr ⟨vm_cw135, List.forall_mem_cons.mpr ⟨vm_cw136, List.forall_mem_cons.mpr ⟨vm_cw137, List.forall_mem_cons.mpr ⟨vm_cw138, List.forall_mem_cons.mpr ⟨vm_cw139, List.forall_mem_cons.mpr ⟨vm_cw140, List.forall_mem_cons.mpr ⟨vm_cw141, List.forall_mem_cons.mpr ⟨vm_cw142, List.forall_mem_cons.mpr ⟨vm_cw143, List.forall_mem_cons.mpr ⟨vm_cw144, List.forall_mem_cons.mpr ⟨vm_cw145, List.forall_mem_cons.mpr ⟨vm_cw146, List.forall_mem_cons.mpr ⟨vm_cw147, List.forall_mem_cons.mpr ⟨vm_cw148, List.forall_mem_cons.mpr ⟨vm_cw149, fun _ h => absurd h List.not_mem_nil⟩⟩⟩⟩⟩⟩⟩⟩⟩⟩⟩⟩⟩⟩⟩⟩⟩⟩⟩⟩⟩⟩⟩⟩⟩
theorem vm_cwc6 : ∀ f ∈ ([150, 151, 152, 153, 154, 155, 156, 157, 158, 159, 160, 161, 162, 163, 164, 165, 166, 167, 168, 169, 170, 171, 172, 173, 174] : List Nat), vm_cw f := List.forall_mem_cons.mpr ⟨vm_cw150, List.forall_mem_cons.mpr ⟨vm_cw151, List.forall_mem_cons.mpr ⟨vm_cw152, List.forall_mem_cons.mpr ⟨vm_cw153, List.forall_mem_cons.mpr ⟨vm_cw154, List.forall_mem_cons.mpr ⟨vm_cw155, List.forall_mem_cons.mpr ⟨vm_cw156, List.forall_mem_cons.mpr ⟨vm_cw157, List.forall_mem_cons.mpr ⟨vm_cw158, List.forall_mem_cons.mpr ⟨vm_cw159, List.forall_mem_cons.mpr ⟨vm_cw160, List.forall_mem_cons.mpr ⟨vm_cw161, List.forall_mem_cons.mpr ⟨vm_cw162, List.forall_mem_cons.mpr ⟨vm_cw163, List.forall_mem_cons.mpr ⟨vm_cw164, List.forall_mem_cons.mpr ⟨vm_cw165, List.forall_mem_cons.mpr ⟨vm_cw166, List.forall_mem_cons.mpr ⟨vm_cw167, List.forall_mem_cons.mpr ⟨vm_cw168, List.forall_mem_cons.mpr ⟨vm_cw169, List.forall_mem_cons.mpr ⟨vm_cw170, List.forall_mem_cons.mpr ⟨vm_cw171, List.forall_mem_cons.mpr ⟨vm_cw172, List.forall_mem_cons.mpr ⟨vm_cw173, List.forall_mem_cons.mpr ⟨vm_cw174, fun _ h => absurd h List.not_mem_nil⟩⟩⟩⟩⟩⟩⟩⟩⟩⟩⟩⟩⟩⟩⟩⟩⟩⟩⟩⟩⟩⟩⟩⟩⟩
theorem vm_cwc7 : ∀ f ∈ ([175, 176, 177, 178, 179, 180, 181, 182, 183, 184, 185, 186, 187, 188, 189, 190, 191, 192, 193, 194, 195, 196, 197, 198, 199] : List Nat), vm_cw f := List.forall_mem_cons.mpr ⟨vm_cw175, List.forall_mem_cons.mpr ⟨vm_cw176, List.forall_mem_cons.mpr ⟨vm_cw177, List.forall_mem_cons.mpr ⟨vm_cw178, List.forall_mem_cons.mpr ⟨vm_cw179, List.forall_mem_cons.mpr ⟨vm_cw180, List.forall_mem_cons.mpr ⟨vm_cw181, List.forall_mem_cons.mpr ⟨vm_cw182, List.forall_mem_cons.mpr ⟨vm_cw183, List.forall_mem_cons.mpr ⟨vm_cw184, List.forall_mem_cons.mpr ⟨vm_cw185, List.forall_mem_cons.mpr ⟨vm_cw186, List.forall_mem_cons.mpr ⟨vm_cw187, List.forall_mem_cons.mpr ⟨vm_cw188, List.forall_mem_cons.mpr ⟨vm_cw189, List.forall_mem_cons.mpr ⟨vm_cw190, List.forall_mem_cons.mpr ⟨vm_cw191, List.forall_mem_cons.mpr ⟨vm_cw192, List.forall_mem_cons.mpr ⟨vm_cw193, List.forall_mem_cons.mpr ⟨vm_cw194, List.forall_mem_cons.mpr ⟨vm_cw195, List.forall_mem_cons.mpr ⟨vm_cw196, List.forall_mem_cons.mpr ⟨vm_cw197, List.forall_mem_cons.mpr ⟨vm_cw198, List.forall_mem_cons.mpr ⟨vm_cw199, fun _ h => absurd h List.not_mem_nil⟩⟩⟩⟩⟩⟩⟩⟩⟩⟩⟩⟩⟩⟩⟩⟩⟩⟩⟩⟩⟩⟩⟩⟩⟩
theorem vm_cwc8 : ∀ f ∈ ([200, 201, 202, 203, 204, 205, 206, 207, 208, 209, 210, 211, 212, 213, 214, 215, 216, 217, 218, 219, 220, 221, 222, 223, 224] : List Nat), vm_cw f := List.forall_mem_cons.mpr ⟨vm_cw200, List.forall_mem_cons.mpr ⟨vm_cw201, List.forall_mem_cons.mpr ⟨vm_cw202, List.forall_mem_cons.mpr ⟨vm_cw203, List.forall_mem_cons.mpr ⟨vm_cw204, List.forall_mem_cons.mpr ⟨vm_cw205, List.forall_mem_cons.mpr ⟨vm_cw206, List.forall_mem_cons.mpr ⟨vm_cw207, List.forall_mem_cons.mpr ⟨vm_cw208, List.forall_mem_cons.mpr ⟨vm_cw209, List.forall_mem_cons.mpr ⟨vm_cw210, List.forall_mem_cons.mpr ⟨vm_cw211, List.forall_mem_cons.mpr ⟨vm_cw212, List.forall_mem_cons.mpr ⟨vm_cw213, List.forall_mem_cons.mpr ⟨vm_cw214, List.forall_mem_cons.mpr ⟨vm_cw215, List.forall_mem_cons.mpr ⟨vm_cw216, List.forall_mem_cons.mpr ⟨vm_cw217, List.forall_mem_cons.mpr ⟨vm_cw218, List.forall_mem_cons.mpr ⟨vm_cw219, List.forall_mem_cons.mpr ⟨vm_cw220, List.forall_mem_cons.mpr ⟨vm_cw221, List.forall_mem_cons.mpr ⟨vm_cw222, List.forall_mem_cons.mpr ⟨vm_cw223, List.forall_mem_cons.mpr ⟨vm_cw224, fun _ h => absurd h List.not_mem_nil⟩⟩⟩⟩⟩⟩⟩⟩⟩⟩⟩⟩⟩⟩⟩⟩⟩⟩⟩⟩⟩⟩⟩⟩⟩
theorem vm_cwc9 : ∀ f ∈ ([225, 226, 227, 228, 229, 230, 231, 232, 233, 234, 235, 236, 237, 238, 239, 240, 241, 242, 243, 244, 245, 246, 247, 248, 249] : List Nat), vm_cw f := List.forall_mem_cons.mpr ⟨vm_cw225, List.forall_mem_cons.mpr ⟨vm_cw226, List.forall_mem_cons.mpr ⟨vm_cw227, List.forall_mem_cons.mpr ⟨vm_cw228, List.forall_mem_cons.mpr ⟨vm_cw229, List.forall_mem_cons.mpr ⟨vm_cw230, List.forall_mem_cons.mpr ⟨vm_cw231, List.forall_mem_cons.mpr ⟨vm_cw232, List.forall_mem_cons.mpr ⟨vm_cw233, List.forall_mem_cons.mpr ⟨vm_cw234, List.forall_mem_cons.mpr ⟨vm_cw235, List.forall_mem_cons.mpr ⟨vm_cw236, List.forall_mem_cons.mpr ⟨vm_cw237, List.forall_mem_cons.mpr ⟨vm_cw238, List.forall_mem_cons.mpr ⟨vm_cw239, List.forall_mem_cons.mpr ⟨vm_cw240, List.forall_mem_cons.mpr ⟨vm_cw241, List.forall_mem_cons.mpr ⟨vm_cw242, List.forall_mem_cons.mpr ⟨vm_cw243, List.forall_mem_cons.mpr ⟨vm_cw244, List.forall_mem_cons.mpr ⟨vm_cw245, List.forall_mem_cons.mpr ⟨vm_cw246, List.forall_mem_cons.mpr ⟨vm_cw247, List.forall_mem_cons.mpr ⟨vm_cw248, List.forall_mem_cons.mpr ⟨vm_cw249, fun _ h => absurd h List.not_mem_nil⟩⟩⟩⟩⟩⟩⟩⟩⟩⟩⟩⟩⟩⟩⟩⟩⟩⟩⟩⟩⟩⟩⟩⟩⟩
theorem vm_cwc10 : ∀ f ∈ ([250, 251, 252, 253, 254, 255, 256, 257, 258, 259, 260, 261, 262, 263, 264, 265, 266, 267, 268, 269, 270, 271, 272, 273, 274] : List Nat), vm_cw f := List.forall_mem_cons.mpr ⟨vm_cw250, List.forall_mem_cons.mpr ⟨vm_cw251, List.forall_mem_cons.mpr ⟨vm_cw252, List.forall_mem_cons.mpr ⟨vm_cw253, List.forall_mem_cons.mpr ⟨vm_cw254, List.forall_mem_cons.mpr ⟨vm_cw255, List.forall_mem_cons.mpr ⟨vm_cw256, List.forall_mem_cons.mpr ⟨vm_cw257, List.forall_mem_cons.mpr ⟨vm_cw258, List.forall_mem_cons.mpr ⟨vm_cw259, List.forall_mem_cons.mpr ⟨vm_cw260, List.forall_mem_cons.mpr ⟨vm_cw261, List.forall_mem_cons.mpr ⟨vm_cw262, List.forall_mem_cons.mpr ⟨vm_cw263, List.forall_mem_cons.mpr ⟨vm_cw264, List.forall_mem_cons.mpr ⟨vm_cw265, List.forall_mem_cons.mpr ⟨vm_cw266, List.forall_mem_cons.mpr ⟨vm_cw267, List.forall_mem_cons.mpr ⟨vm_cw268, List.forall_mem_cons.mpr ⟨vm_cw269, List.forall_mem_cons.mpr ⟨vm_cw270, List.forall_mem_cons.mpr ⟨vm_cw271, List.forall_mem_cons.mpr ⟨vm_cw272, List.forall_mem_cons.mpr ⟨vm_cw273, List.forall_mem_cons.mpr ⟨vm_cw274, fun _ h => absurd h List.not_mem_nil⟩⟩⟩⟩⟩⟩⟩⟩⟩⟩⟩⟩⟩⟩⟩⟩⟩⟩⟩⟩⟩⟩⟩⟩⟩
theorem vm_cwc11 : ∀ f ∈ ([275, 276, 277, 278, 279, 280, 281, 282, 283, 284, 285, 286, 287, 288, 289, 290, 291, 292, 293, 294, 295, 296, 297, 298, 299] : List Nat), vm_cw f := List.forall_mem_cons.mpr ⟨vm_cw275, List.forall_mem_cons.mpr ⟨vm_cw276, List.forall_mem_cons.mpr ⟨vm_cw277, List.forall_mem_cons.mpr ⟨vm_cw278, List.forall_mem_cons.mpr ⟨vm_cw279, List.forall_mem_cons.mpr ⟨vm_cw280, List.forall_mem_cons.mpr ⟨vm_cw281, List.forall_mem_cons.mpr ⟨vm_cw282, List.forall_mem_cons.mpr ⟨vm_cw283, List.forall_mem_cons.mpr ⟨vm_cw284, List.forall_mem_cons.mpr ⟨vm_cw285, List.forall_mem_cons.mpr ⟨vm_cw286, List.forall_mem_cons.mpr ⟨vm_cw287, List.forall_mem_cons.mpr ⟨vm_cw288, List.forall_mem_cons.mpr ⟨vm_cw289, List.forall_mem_cons.mpr ⟨vm_cw290, List.forall_mem_cons.mpr ⟨vm_cw291, List.forall_mem_cons.mpr ⟨vm_cw292, List.forall_mem_cons.mpr ⟨vm_cw293, List.forall_mem_cons.mpr ⟨vm_cw294, List.forall_mem_cons.mpr ⟨vm_cw295, List.forall_mem_cons.mpr ⟨vm_cw296, List.forall_mem_cons.mpr ⟨vm_cw297, List.forall_mem_cons.mpr ⟨vm_cw298, List.forall_mem_cons.mpr ⟨vm_cw299, fun _ h => absurd h List.not_mem_nil⟩⟩⟩⟩⟩⟩⟩⟩⟩⟩⟩⟩⟩⟩⟩⟩⟩⟩⟩⟩⟩⟩⟩⟩⟩
theorem vm_cwc12 : ∀ f ∈ ([300] : List Nat), vm_cw f := List.forall_mem_cons.mpr ⟨vm_cw300, fun _ h => absurd h List.not_mem_nil⟩
theorem vm_cwall : ∀ f, f < 301 → vm_cw f := fun f hf => (List.forall_mem_append.mpr ⟨vm_cwc0, List.forall_mem_append.mpr ⟨vm_cwc1, List.forall_mem_append.mpr ⟨vm_cwc2, List.forall_mem_append.mpr ⟨vm_cwc3, List.forall_mem_append.mpr ⟨vm_cwc4, List.forall_mem_append.mpr ⟨vm_cwc5, List.forall_mem_append.mpr ⟨vm_cwc6, List.forall_mem_append.mpr ⟨vm_cwc7, List.forall_mem_append.mpr ⟨vm_cwc8, List.forall_mem_append.mpr ⟨vm_cwc9, List.forall_mem_append.mpr ⟨vm_cwc10, List.forall_mem_append.mpr ⟨vm_cwc11, vm_cwc12⟩⟩⟩⟩⟩⟩⟩⟩⟩⟩⟩⟩) f (by
  have : f ∈ List.range 301 := List.mem_range.mpr hf
  rw [show List.range 301 = ([0, 1, 2, 3, 4, 5, 6, 7, 8, 9, 10, 11, 12, 13, 14, 15, 16, 17, 18, 19, 20, 21, 22, 23, 24] : List Nat) ++ (([25, 26, 27, 28, 29, 30, 31, 32, 33, 34, 35, 36, 37, 38, 39, 40, 41, 42, 43, 44, 45, 46, 47, 48, 49] : List Nat) ++ (([50, 51, 52, 53, 54, 55, 56, 57, 58, 59, 60, 61, 62, 63, 64, 65, 66, 67, 68, 69, 70, 71, 72, 73, 74] : List Nat) ++ (([75, 76, 77, 78, 79, 80, 81, 82, 83, 84, 85, 86, 87, 88, 89, 90, 91, 92, 93, 94, 95, 96, 97, 98, 99] : List Nat) ++ (([100, 101, 102, 103, 104, 105, 106, 107, 108, 109, 110, 111, 112, 113, 114, 115, 116, 117, 118, 119, 120, 121, 122, 123, 124] : List Nat) ++ (([125, 126, 127, 128, 129, 130, 131, 132, 133, 134, 135, 136, 137, 138, 139, 140, 141, 142, 143, 144, 145, 146, 147, 148, 149] : List Nat) ++ (([150, 151, 152, 153, 154, 155, 156, 157, 158, 159, 160, 161, 162, 163, 164, 165, 166, 167, 168, 169, 170, 171, 172, 173, 174] : List Nat) ++ (([175, 176, 177, 178, 179, 180, 181, 182, 183, 184, 185, 186, 187, 188, 189, 190, 191, 192, 193, 194, 195, 196, 197, 198, 199] : List Nat) ++ (([200, 201, 202, 203, 204, 205, 206, 207, 208, 209, 210, 211, 212, 213, 214, 215, 216, 217, 218, 219, 220, 221, 222, 223, 224] : List Nat) ++ (([225, 226, 227, 228, 229, 230, 231, 232, 233, 234, 235, 236, 237, 238, 239, 240, 241, 242, 243, 244, 245, 246, 247, 248, 249] : List Nat) ++ (([250, 251, 252, 253, 254, 255, 256, 257, 258, 259, 260, 261, 262, 263, 264, 265, 266, 267, 268, 269, 270, 271, 272, 273, 274] : List Nat) ++ (([275, 276, 277, 278, 279, 280, 281, 282, 283, 284, 285, 286, 287, 288, 289, 290, 291, 292, 293, 294, 295, 296, 297, 298, 299] : List Nat) ++ (([300] : List Nat))))))))))))) by decide +kernel] at this
  exact this)
