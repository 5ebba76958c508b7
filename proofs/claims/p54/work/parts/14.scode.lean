/-! ===== the words of the methods codes, by their places (printed) ===== -/
theorem vm_in1 {w : Cond} (h : w ∈ tables_1_1) : w ∈ lw_tbl := by
  show w ∈ k2_sels lw_privs ++ (tables_1_1 ++ (tables_1_2 ++ (tables_1_3 ++ (tables_1_4 ++ (tables_1_5 ++ (tables_1_6))))))
  exact List.mem_append_right _ (List.mem_append_left _ h)
theorem vm_in2 {w : Cond} (h : w ∈ tables_1_2) : w ∈ lw_tbl := by
  show w ∈ k2_sels lw_privs ++ (tables_1_1 ++ (tables_1_2 ++ (tables_1_3 ++ (tables_1_4 ++ (tables_1_5 ++ (tables_1_6))))))
  exact List.mem_append_right _ (List.mem_append_right _ (List.mem_append_left _ h))
theorem vm_in3 {w : Cond} (h : w ∈ tables_1_3) : w ∈ lw_tbl := by
  show w ∈ k2_sels lw_privs ++ (tables_1_1 ++ (tables_1_2 ++ (tables_1_3 ++ (tables_1_4 ++ (tables_1_5 ++ (tables_1_6))))))
  exact List.mem_append_right _ (List.mem_append_right _ (List.mem_append_right _ (List.mem_append_left _ h)))
theorem vm_in4 {w : Cond} (h : w ∈ tables_1_4) : w ∈ lw_tbl := by
  show w ∈ k2_sels lw_privs ++ (tables_1_1 ++ (tables_1_2 ++ (tables_1_3 ++ (tables_1_4 ++ (tables_1_5 ++ (tables_1_6))))))
  exact List.mem_append_right _ (List.mem_append_right _ (List.mem_append_right _ (List.mem_append_right _ (List.mem_append_left _ h))))
theorem vm_in5 {w : Cond} (h : w ∈ tables_1_5) : w ∈ lw_tbl := by
  show w ∈ k2_sels lw_privs ++ (tables_1_1 ++ (tables_1_2 ++ (tables_1_3 ++ (tables_1_4 ++ (tables_1_5 ++ (tables_1_6))))))
  exact List.mem_append_right _ (List.mem_append_right _ (List.mem_append_right _ (List.mem_append_right _ (List.mem_append_right _ (List.mem_append_left _ h)))))
theorem vm_in6 {w : Cond} (h : w ∈ tables_1_6) : w ∈ lw_tbl := by
  show w ∈ k2_sels lw_privs ++ (tables_1_1 ++ (tables_1_2 ++ (tables_1_3 ++ (tables_1_4 ++ (tables_1_5 ++ (tables_1_6))))))
  exact List.mem_append_right _ (List.mem_append_right _ (List.mem_append_right _ (List.mem_append_right _ (List.mem_append_right _ (List.mem_append_right _ h)))))
abbrev vm_cw (f : Nat) : Prop := Cond.code (vm_mn f) (vm_cb f) (vm_mx f) (vm_ret f) ∈ lw_tbl
set_option maxRecDepth 100000 in
theorem vm_cw0 : vm_cw 0 := vm_in1 (List.mem_of_getElem? (i := 53) rfl)
set_option maxRecDepth 100000 in
theorem vm_cw1 : vm_cw 1 := vm_in3 (List.mem_of_getElem? (i := 74) rfl)
set_option maxRecDepth 100000 in
theorem vm_cw2 : vm_cw 2 := vm_in2 (List.mem_of_getElem? (i := 205) rfl)
set_option maxRecDepth 100000 in
theorem vm_cw3 : vm_cw 3 := vm_in3 (List.mem_of_getElem? (i := 45) rfl)
set_option maxRecDepth 100000 in
theorem vm_cw4 : vm_cw 4 := vm_in2 (List.mem_of_getElem? (i := 66) rfl)
set_option maxRecDepth 100000 in
theorem vm_cw5 : vm_cw 5 := vm_in2 (List.mem_of_getElem? (i := 70) rfl)
set_option maxRecDepth 100000 in
theorem vm_cw6 : vm_cw 6 := vm_in3 (List.mem_of_getElem? (i := 122) rfl)
set_option maxRecDepth 100000 in
theorem vm_cw7 : vm_cw 7 := vm_in5 (List.mem_of_getElem? (i := 127) rfl)
set_option maxRecDepth 100000 in
theorem vm_cw8 : vm_cw 8 := vm_in5 (List.mem_of_getElem? (i := 131) rfl)
set_option maxRecDepth 100000 in
theorem vm_cw10 : vm_cw 10 := vm_in3 (List.mem_of_getElem? (i := 118) rfl)
set_option maxRecDepth 100000 in
theorem vm_cw11 : vm_cw 11 := vm_in3 (List.mem_of_getElem? (i := 114) rfl)
set_option maxRecDepth 100000 in
theorem vm_cw12 : vm_cw 12 := vm_in1 (List.mem_of_getElem? (i := 207) rfl)
set_option maxRecDepth 100000 in
theorem vm_cw13 : vm_cw 13 := vm_in3 (List.mem_of_getElem? (i := 142) rfl)
set_option maxRecDepth 100000 in
theorem vm_cw14 : vm_cw 14 := vm_in3 (List.mem_of_getElem? (i := 154) rfl)
set_option maxRecDepth 100000 in
theorem vm_cw15 : vm_cw 15 := vm_in5 (List.mem_of_getElem? (i := 146) rfl)
set_option maxRecDepth 100000 in
theorem vm_cw16 : vm_cw 16 := vm_in3 (List.mem_of_getElem? (i := 198) rfl)
set_option maxRecDepth 100000 in
theorem vm_cw17 : vm_cw 17 := vm_in5 (List.mem_of_getElem? (i := 179) rfl)
set_option maxRecDepth 100000 in
theorem vm_cw18 : vm_cw 18 := vm_in5 (List.mem_of_getElem? (i := 211) rfl)
set_option maxRecDepth 100000 in
theorem vm_cw19 : vm_cw 19 := vm_in5 (List.mem_of_getElem? (i := 219) rfl)
set_option maxRecDepth 100000 in
theorem vm_cw20 : vm_cw 20 := vm_in5 (List.mem_of_getElem? (i := 232) rfl)
set_option maxRecDepth 100000 in
theorem vm_cw21 : vm_cw 21 := vm_in6 (List.mem_of_getElem? (i := 114) rfl)
set_option maxRecDepth 100000 in
theorem vm_cw22 : vm_cw 22 := vm_in6 (List.mem_of_getElem? (i := 122) rfl)
set_option maxRecDepth 100000 in
theorem vm_cw23 : vm_cw 23 := vm_in3 (List.mem_of_getElem? (i := 166) rfl)
set_option maxRecDepth 100000 in
theorem vm_cw24 : vm_cw 24 := vm_in3 (List.mem_of_getElem? (i := 150) rfl)
set_option maxRecDepth 100000 in
theorem vm_cw25 : vm_cw 25 := vm_in6 (List.mem_of_getElem? (i := 126) rfl)
set_option maxRecDepth 100000 in
theorem vm_cw26 : vm_cw 26 := vm_in3 (List.mem_of_getElem? (i := 162) rfl)
set_option maxRecDepth 100000 in
theorem vm_cw27 : vm_cw 27 := vm_in3 (List.mem_of_getElem? (i := 178) rfl)
set_option maxRecDepth 100000 in
theorem vm_cw28 : vm_cw 28 := vm_in5 (List.mem_of_getElem? (i := 223) rfl)
set_option maxRecDepth 100000 in
theorem vm_cw29 : vm_cw 29 := vm_in3 (List.mem_of_getElem? (i := 158) rfl)
set_option maxRecDepth 100000 in
theorem vm_cw30 : vm_cw 30 := vm_in3 (List.mem_of_getElem? (i := 182) rfl)
set_option maxRecDepth 100000 in
theorem vm_cw31 : vm_cw 31 := vm_in3 (List.mem_of_getElem? (i := 170) rfl)
set_option maxRecDepth 100000 in
theorem vm_cw32 : vm_cw 32 := vm_in3 (List.mem_of_getElem? (i := 186) rfl)
set_option maxRecDepth 100000 in
theorem vm_cw33 : vm_cw 33 := vm_in3 (List.mem_of_getElem? (i := 174) rfl)
set_option maxRecDepth 100000 in
theorem vm_cw34 : vm_cw 34 := vm_in1 (List.mem_of_getElem? (i := 170) rfl)
set_option maxRecDepth 100000 in
theorem vm_cw35 : vm_cw 35 := vm_in4 (List.mem_of_getElem? (i := 13) rfl)
set_option maxRecDepth 100000 in
theorem vm_cw36 : vm_cw 36 := vm_in5 (List.mem_of_getElem? (i := 119) rfl)
set_option maxRecDepth 100000 in
theorem vm_cw37 : vm_cw 37 := vm_in3 (List.mem_of_getElem? (i := 86) rfl)
set_option maxRecDepth 100000 in
theorem vm_cw38 : vm_cw 38 := vm_in2 (List.mem_of_getElem? (i := 5) rfl)
set_option maxRecDepth 100000 in
theorem vm_cw39 : vm_cw 39 := vm_in3 (List.mem_of_getElem? (i := 190) rfl)
set_option maxRecDepth 100000 in
theorem vm_cw40 : vm_cw 40 := vm_in3 (List.mem_of_getElem? (i := 202) rfl)
set_option maxRecDepth 100000 in
theorem vm_cw41 : vm_cw 41 := vm_in5 (List.mem_of_getElem? (i := 151) rfl)
set_option maxRecDepth 100000 in
theorem vm_cw42 : vm_cw 42 := vm_in3 (List.mem_of_getElem? (i := 218) rfl)
set_option maxRecDepth 100000 in
theorem vm_cw43 : vm_cw 43 := vm_in5 (List.mem_of_getElem? (i := 161) rfl)
set_option maxRecDepth 100000 in
theorem vm_cw44 : vm_cw 44 := vm_in5 (List.mem_of_getElem? (i := 197) rfl)
set_option maxRecDepth 100000 in
theorem vm_cw45 : vm_cw 45 := vm_in5 (List.mem_of_getElem? (i := 192) rfl)
set_option maxRecDepth 100000 in
theorem vm_cw50 : vm_cw 50 := vm_in3 (List.mem_of_getElem? (i := 206) rfl)
set_option maxRecDepth 100000 in
theorem vm_cw51 : vm_cw 51 := vm_in3 (List.mem_of_getElem? (i := 194) rfl)
set_option maxRecDepth 100000 in
theorem vm_cw52 : vm_cw 52 := vm_in3 (List.mem_of_getElem? (i := 212) rfl)
set_option maxRecDepth 100000 in
theorem vm_cw53 : vm_cw 53 := vm_in1 (List.mem_of_getElem? (i := 80) rfl)
set_option maxRecDepth 100000 in
theorem vm_cw54 : vm_cw 54 := vm_in3 (List.mem_of_getElem? (i := 81) rfl)
set_option maxRecDepth 100000 in
theorem vm_cw55 : vm_cw 55 := vm_in2 (List.mem_of_getElem? (i := 209) rfl)
set_option maxRecDepth 100000 in
theorem vm_cw56 : vm_cw 56 := vm_in3 (List.mem_of_getElem? (i := 136) rfl)
set_option maxRecDepth 100000 in
theorem vm_cw57 : vm_cw 57 := vm_in3 (List.mem_of_getElem? (i := 132) rfl)
set_option maxRecDepth 100000 in
theorem vm_cw58 : vm_cw 58 := vm_in3 (List.mem_of_getElem? (i := 94) rfl)
set_option maxRecDepth 100000 in
theorem vm_cw59 : vm_cw 59 := vm_in5 (List.mem_of_getElem? (i := 71) rfl)
set_option maxRecDepth 100000 in
theorem vm_cw60 : vm_cw 60 := vm_in3 (List.mem_of_getElem? (i := 222) rfl)
set_option maxRecDepth 100000 in
theorem vm_cw61 : vm_cw 61 := vm_in5 (List.mem_of_getElem? (i := 135) rfl)
set_option maxRecDepth 100000 in
theorem vm_cw62 : vm_cw 62 := vm_in5 (List.mem_of_getElem? (i := 75) rfl)
set_option maxRecDepth 100000 in
theorem vm_cw63 : vm_cw 63 := vm_in3 (List.mem_of_getElem? (i := 238) rfl)
set_option maxRecDepth 100000 in
theorem vm_cw64 : vm_cw 64 := vm_in4 (List.mem_of_getElem? (i := 5) rfl)
set_option maxRecDepth 100000 in
theorem vm_cw65 : vm_cw 65 := vm_in1 (List.mem_of_getElem? (i := 126) rfl)
set_option maxRecDepth 100000 in
theorem vm_cw66 : vm_cw 66 := vm_in3 (List.mem_of_getElem? (i := 70) rfl)
set_option maxRecDepth 100000 in
theorem vm_cw67 : vm_cw 67 := vm_in2 (List.mem_of_getElem? (i := 201) rfl)
set_option maxRecDepth 100000 in
theorem vm_cw68 : vm_cw 68 := vm_in2 (List.mem_of_getElem? (i := 235) rfl)
set_option maxRecDepth 100000 in
theorem vm_cw69 : vm_cw 69 := vm_in3 (List.mem_of_getElem? (i := 11) rfl)
set_option maxRecDepth 100000 in
theorem vm_cw70 : vm_cw 70 := vm_in3 (List.mem_of_getElem? (i := 25) rfl)
set_option maxRecDepth 100000 in
theorem vm_cw71 : vm_cw 71 := vm_in3 (List.mem_of_getElem? (i := 36) rfl)
set_option maxRecDepth 100000 in
theorem vm_cw72 : vm_cw 72 := vm_in3 (List.mem_of_getElem? (i := 52) rfl)
set_option maxRecDepth 100000 in
theorem vm_cw73 : vm_cw 73 := vm_in3 (List.mem_of_getElem? (i := 59) rfl)
set_option maxRecDepth 100000 in
theorem vm_cw74 : vm_cw 74 := vm_in3 (List.mem_of_getElem? (i := 0) rfl)
set_option maxRecDepth 100000 in
theorem vm_cw75 : vm_cw 75 := vm_in3 (List.mem_of_getElem? (i := 64) rfl)
set_option maxRecDepth 100000 in
theorem vm_cw76 : vm_cw 76 := vm_in3 (List.mem_of_getElem? (i := 32) rfl)
set_option maxRecDepth 100000 in
theorem vm_cw77 : vm_cw 77 := vm_in2 (List.mem_of_getElem? (i := 49) rfl)
set_option maxRecDepth 100000 in
theorem vm_cw78 : vm_cw 78 := vm_in6 (List.mem_of_getElem? (i := 22) rfl)
set_option maxRecDepth 100000 in
theorem vm_cw79 : vm_cw 79 := vm_in6 (List.mem_of_getElem? (i := 34) rfl)
set_option maxRecDepth 100000 in
theorem vm_cw80 : vm_cw 80 := vm_in6 (List.mem_of_getElem? (i := 52) rfl)
set_option maxRecDepth 100000 in
theorem vm_cw81 : vm_cw 81 := vm_in6 (List.mem_of_getElem? (i := 30) rfl)
set_option maxRecDepth 100000 in
theorem vm_cw82 : vm_cw 82 := vm_in1 (List.mem_of_getElem? (i := 35) rfl)
set_option maxRecDepth 100000 in
theorem vm_cw83 : vm_cw 83 := vm_in2 (List.mem_of_getElem? (i := 189) rfl)
set_option maxRecDepth 100000 in
theorem vm_cw84 : vm_cw 84 := vm_in2 (List.mem_of_getElem? (i := 193) rfl)
set_option maxRecDepth 100000 in
theorem vm_cw85 : vm_cw 85 := vm_in2 (List.mem_of_getElem? (i := 221) rfl)
set_option maxRecDepth 100000 in
theorem vm_cw86 : vm_cw 86 := vm_in2 (List.mem_of_getElem? (i := 224) rfl)
set_option maxRecDepth 100000 in
theorem vm_cw87 : vm_cw 87 := vm_in1 (List.mem_of_getElem? (i := 132) rfl)
set_option maxRecDepth 100000 in
theorem vm_cw88 : vm_cw 88 := vm_in2 (List.mem_of_getElem? (i := 213) rfl)
set_option maxRecDepth 100000 in
theorem vm_cw89 : vm_cw 89 := vm_in2 (List.mem_of_getElem? (i := 217) rfl)
set_option maxRecDepth 100000 in
theorem vm_cw90 : vm_cw 90 := vm_in3 (List.mem_of_getElem? (i := 4) rfl)
set_option maxRecDepth 100000 in
theorem vm_cw91 : vm_cw 91 := vm_in3 (List.mem_of_getElem? (i := 19) rfl)
set_option maxRecDepth 100000 in
theorem vm_cw92 : vm_cw 92 := vm_in3 (List.mem_of_getElem? (i := 41) rfl)
set_option maxRecDepth 100000 in
theorem vm_cw93 : vm_cw 93 := vm_in2 (List.mem_of_getElem? (i := 231) rfl)
set_option maxRecDepth 100000 in
theorem vm_cw94 : vm_cw 94 := vm_in2 (List.mem_of_getElem? (i := 227) rfl)
set_option maxRecDepth 100000 in
theorem vm_cw95 : vm_cw 95 := vm_in1 (List.mem_of_getElem? (i := 190) rfl)
set_option maxRecDepth 100000 in
theorem vm_cw96 : vm_cw 96 := vm_in3 (List.mem_of_getElem? (i := 146) rfl)
set_option maxRecDepth 100000 in
theorem vm_cw97 : vm_cw 97 := vm_in3 (List.mem_of_getElem? (i := 102) rfl)
set_option maxRecDepth 100000 in
theorem vm_cw98 : vm_cw 98 := vm_in3 (List.mem_of_getElem? (i := 106) rfl)
set_option maxRecDepth 100000 in
theorem vm_cw99 : vm_cw 99 := vm_in3 (List.mem_of_getElem? (i := 110) rfl)
set_option maxRecDepth 100000 in
theorem vm_cw100 : vm_cw 100 := vm_in1 (List.mem_of_getElem? (i := 27) rfl)
set_option maxRecDepth 100000 in
theorem vm_cw101 : vm_cw 101 := vm_in2 (List.mem_of_getElem? (i := 185) rfl)
set_option maxRecDepth 100000 in
theorem vm_cw102 : vm_cw 102 := vm_in2 (List.mem_of_getElem? (i := 133) rfl)
set_option maxRecDepth 100000 in
theorem vm_cw103 : vm_cw 103 := vm_in2 (List.mem_of_getElem? (i := 197) rfl)
set_option maxRecDepth 100000 in
theorem vm_cw104 : vm_cw 104 := vm_in3 (List.mem_of_getElem? (i := 226) rfl)
set_option maxRecDepth 100000 in
theorem vm_cw105 : vm_cw 105 := vm_in3 (List.mem_of_getElem? (i := 234) rfl)
set_option maxRecDepth 100000 in
theorem vm_cw106 : vm_cw 106 := vm_in5 (List.mem_of_getElem? (i := 47) rfl)
set_option maxRecDepth 100000 in
theorem vm_cw107 : vm_cw 107 := vm_in5 (List.mem_of_getElem? (i := 53) rfl)
set_option maxRecDepth 100000 in
theorem vm_cw108 : vm_cw 108 := vm_in5 (List.mem_of_getElem? (i := 59) rfl)
set_option maxRecDepth 100000 in
theorem vm_cw109 : vm_cw 109 := vm_in5 (List.mem_of_getElem? (i := 63) rfl)
set_option maxRecDepth 100000 in
theorem vm_cw110 : vm_cw 110 := vm_in5 (List.mem_of_getElem? (i := 67) rfl)
set_option maxRecDepth 100000 in
theorem vm_cw111 : vm_cw 111 := vm_in6 (List.mem_of_getElem? (i := 143) rfl)
set_option maxRecDepth 100000 in
theorem vm_cw112 : vm_cw 112 := vm_in6 (List.mem_of_getElem? (i := 147) rfl)
set_option maxRecDepth 100000 in
theorem vm_cw113 : vm_cw 113 := vm_in5 (List.mem_of_getElem? (i := 115) rfl)
set_option maxRecDepth 100000 in
theorem vm_cw114 : vm_cw 114 := vm_in4 (List.mem_of_getElem? (i := 9) rfl)
set_option maxRecDepth 100000 in
theorem vm_cw115 : vm_cw 115 := vm_in3 (List.mem_of_getElem? (i := 90) rfl)
set_option maxRecDepth 100000 in
theorem vm_cw117 : vm_cw 117 := vm_in5 (List.mem_of_getElem? (i := 123) rfl)
set_option maxRecDepth 100000 in
theorem vm_cw118 : vm_cw 118 := vm_in5 (List.mem_of_getElem? (i := 86) rfl)
set_option maxRecDepth 100000 in
theorem vm_cw119 : vm_cw 119 := vm_in5 (List.mem_of_getElem? (i := 91) rfl)
set_option maxRecDepth 100000 in
theorem vm_cw120 : vm_cw 120 := vm_in5 (List.mem_of_getElem? (i := 82) rfl)
set_option maxRecDepth 100000 in
theorem vm_cw121 : vm_cw 121 := vm_in5 (List.mem_of_getElem? (i := 101) rfl)
set_option maxRecDepth 100000 in
theorem vm_cw124 : vm_cw 124 := vm_in5 (List.mem_of_getElem? (i := 95) rfl)
set_option maxRecDepth 100000 in
theorem vm_cw125 : vm_cw 125 := vm_in5 (List.mem_of_getElem? (i := 175) rfl)
set_option maxRecDepth 100000 in
theorem vm_cw126 : vm_cw 126 := vm_in6 (List.mem_of_getElem? (i := 94) rfl)
set_option maxRecDepth 100000 in
theorem vm_cw128 : vm_cw 128 := vm_in5 (List.mem_of_getElem? (i := 142) rfl)
set_option maxRecDepth 100000 in
theorem vm_cw129 : vm_cw 129 := vm_in5 (List.mem_of_getElem? (i := 184) rfl)
set_option maxRecDepth 100000 in
theorem vm_cw130 : vm_cw 130 := vm_in5 (List.mem_of_getElem? (i := 157) rfl)
set_option maxRecDepth 100000 in
theorem vm_cw131 : vm_cw 131 := vm_in5 (List.mem_of_getElem? (i := 188) rfl)
set_option maxRecDepth 100000 in
theorem vm_cw132 : vm_cw 132 := vm_in5 (List.mem_of_getElem? (i := 202) rfl)
set_option maxRecDepth 100000 in
theorem vm_cw137 : vm_cw 137 := vm_in3 (List.mem_of_getElem? (i := 98) rfl)
set_option maxRecDepth 100000 in
theorem vm_cw138 : vm_cw 138 := vm_in5 (List.mem_of_getElem? (i := 215) rfl)
set_option maxRecDepth 100000 in
theorem vm_cw139 : vm_cw 139 := vm_in6 (List.mem_of_getElem? (i := 98) rfl)
set_option maxRecDepth 100000 in
theorem vm_cw140 : vm_cw 140 := vm_in6 (List.mem_of_getElem? (i := 106) rfl)
set_option maxRecDepth 100000 in
theorem vm_cw141 : vm_cw 141 := vm_in6 (List.mem_of_getElem? (i := 110) rfl)
set_option maxRecDepth 100000 in
theorem vm_cw142 : vm_cw 142 := vm_in5 (List.mem_of_getElem? (i := 207) rfl)
set_option maxRecDepth 100000 in
theorem vm_cw143 : vm_cw 143 := vm_in5 (List.mem_of_getElem? (i := 228) rfl)
set_option maxRecDepth 100000 in
theorem vm_cw144 : vm_cw 144 := vm_in6 (List.mem_of_getElem? (i := 0) rfl)
set_option maxRecDepth 100000 in
theorem vm_cw145 : vm_cw 145 := vm_in5 (List.mem_of_getElem? (i := 170) rfl)
set_option maxRecDepth 100000 in
theorem vm_cw146 : vm_cw 146 := vm_in6 (List.mem_of_getElem? (i := 118) rfl)
set_option maxRecDepth 100000 in
theorem vm_cw147 : vm_cw 147 := vm_in5 (List.mem_of_getElem? (i := 105) rfl)
set_option maxRecDepth 100000 in
theorem vm_cw148 : vm_cw 148 := vm_in6 (List.mem_of_getElem? (i := 102) rfl)
set_option maxRecDepth 100000 in
theorem vm_cw149 : vm_cw 149 := vm_in6 (List.mem_of_getElem? (i := 4) rfl)
set_option maxRecDepth 100000 in
theorem vm_cw150 : vm_cw 150 := vm_in5 (List.mem_of_getElem? (i := 165) rfl)
set_option maxRecDepth 100000 in
theorem vm_cw151 : vm_cw 151 := vm_in5 (List.mem_of_getElem? (i := 236) rfl)
set_option maxRecDepth 100000 in
theorem vm_cw152 : vm_cw 152 := vm_in6 (List.mem_of_getElem? (i := 18) rfl)
set_option maxRecDepth 100000 in
theorem vm_cw153 : vm_cw 153 := vm_in6 (List.mem_of_getElem? (i := 85) rfl)
set_option maxRecDepth 100000 in
theorem vm_cw154 : vm_cw 154 := vm_in6 (List.mem_of_getElem? (i := 39) rfl)
set_option maxRecDepth 100000 in
theorem vm_cw155 : vm_cw 155 := vm_in6 (List.mem_of_getElem? (i := 89) rfl)
set_option maxRecDepth 100000 in
theorem vm_cw156 : vm_cw 156 := vm_in2 (List.mem_of_getElem? (i := 129) rfl)
set_option maxRecDepth 100000 in
theorem vm_cw157 : vm_cw 157 := vm_in6 (List.mem_of_getElem? (i := 26) rfl)
set_option maxRecDepth 100000 in
theorem vm_cw158 : vm_cw 158 := vm_in6 (List.mem_of_getElem? (i := 43) rfl)
set_option maxRecDepth 100000 in
theorem vm_cw159 : vm_cw 159 := vm_in6 (List.mem_of_getElem? (i := 48) rfl)
set_option maxRecDepth 100000 in
theorem vm_cw160 : vm_cw 160 := vm_in6 (List.mem_of_getElem? (i := 64) rfl)
set_option maxRecDepth 100000 in
theorem vm_cw161 : vm_cw 161 := vm_in6 (List.mem_of_getElem? (i := 71) rfl)
set_option maxRecDepth 100000 in
theorem vm_cw162 : vm_cw 162 := vm_in6 (List.mem_of_getElem? (i := 78) rfl)
theorem vm_cwc0 : ∀ f ∈ ([0, 1, 2, 3, 4, 5, 6, 7, 8, 10, 11, 12, 13, 14, 15, 16, 17, 18, 19, 20, 21, 22, 23, 24, 25] : List Nat), vm_cw f := List.forall_mem_cons.mpr ⟨vm_cw0, List.forall_mem_cons.mpr ⟨vm_cw1, List.forall_mem_cons.mpr ⟨vm_cw2, List.forall_mem_cons.mpr ⟨vm_cw3, List.forall_mem_cons.mpr ⟨vm_cw4, List.forall_mem_cons.mpr ⟨vm_cw5, List.forall_mem_cons.mpr ⟨vm_cw6, List.forall_mem_cons.mpr ⟨vm_cw7, List.forall_mem_cons.mpr ⟨vm_cw8, List.forall_mem_cons.mpr ⟨vm_cw10, List.forall_mem_cons.mpr ⟨vm_cw11, List.forall_mem_cons.mpr ⟨vm_cw12, List.forall_mem_cons.mpr ⟨vm_cw13, List.forall_mem_cons.mpr ⟨vm_cw14, List.forall_mem_cons.mpr ⟨vm_cw15, List.forall_mem_cons.mpr ⟨vm_cw16, List.forall_mem_cons.mpr ⟨vm_cw17, List.forall_mem_cons.mpr ⟨vm_cw18, List.forall_mem_cons.mpr ⟨vm_cw19, List.forall_mem_cons.mpr ⟨vm_cw20, List.forall_mem_cons.mpr ⟨vm_cw21, List.forall_mem_cons.mpr ⟨vm_cw22, List.forall_mem_cons.mpr ⟨vm_cw23, List.forall_mem_cons.mpr ⟨vm_cw24, List.forall_mem_cons.mpr ⟨vm_cw25, fun _ h => absurd h List.not_mem_nil⟩⟩⟩⟩⟩⟩⟩⟩⟩⟩⟩⟩⟩⟩⟩⟩⟩⟩⟩⟩⟩⟩⟩⟩⟩
theorem vm_cwc1 : ∀ f ∈ ([26, 27, 28, 29, 30, 31, 32, 33, 34, 35, 36, 37, 38, 39, 40, 41, 42, 43, 44, 45, 50, 51, 52, 53, 54] : List Nat), vm_cw f := List.forall_mem_cons.mpr ⟨vm_cw26, List.forall_mem_cons.mpr ⟨vm_cw27, List.forall_mem_cons.mpr ⟨vm_cw28, List.forall_mem_cons.mpr ⟨vm_cw29, List.forall_mem_cons.mpr ⟨vm_cw30, List.forall_mem_cons.mpr ⟨vm_cw31, List.forall_mem_cons.mpr ⟨vm_cw32, List.forall_mem_cons.mpr ⟨vm_cw33, List.forall_mem_cons.mpr ⟨vm_cw34, List.forall_mem_cons.mpr ⟨vm_cw35, List.forall_mem_cons.mpr ⟨vm_cw36, List.forall_mem_cons.mpr ⟨vm_cw37, List.forall_mem_cons.mpr ⟨vm_cw38, List.forall_mem_cons.mpr ⟨vm_cw39, List.forall_mem_cons.mpr ⟨vm_cw40, List.forall_mem_cons.mpr ⟨vm_cw41, List.forall_mem_cons.mpr ⟨vm_cw42, List.forall_mem_cons.mpr ⟨vm_cw43, List.forall_mem_cons.mpr ⟨vm_cw44, List.forall_mem_cons.mpr ⟨vm_cw45, List.forall_mem_cons.mpr ⟨vm_cw50, List.forall_mem_cons.mpr ⟨vm_cw51, List.forall_mem_cons.mpr ⟨vm_cw52, List.forall_mem_cons.mpr ⟨vm_cw53, List.forall_mem_cons.mpr ⟨vm_cw54, fun _ h => absurd h List.not_mem_nil⟩⟩⟩⟩⟩⟩⟩⟩⟩⟩⟩⟩⟩⟩⟩⟩⟩⟩⟩⟩⟩⟩⟩⟩⟩
theorem vm_cwc2 : ∀ f ∈ ([55, 56, 57, 58, 59, 60, 61, 62, 63, 64, 65, 66, 67, 68, 69, 70, 71, 72, 73, 74, 75, 76, 77, 78, 79] : List Nat), vm_cw f := List.forall_mem_cons.mpr ⟨vm_cw55, List.forall_mem_cons.mpr ⟨vm_cw56, List.forall_mem_cons.mpr ⟨vm_cw57, List.forall_mem_cons.mpr ⟨vm_cw58, List.forall_mem_cons.mpr ⟨vm_cw59, List.forall_mem_cons.mpr ⟨vm_cw60, List.forall_mem_cons.mpr ⟨vm_cw61, List.forall_mem_cons.mpr ⟨vm_cw62, List.forall_mem_cons.mpr ⟨vm_cw63, List.forall_mem_cons.mpr ⟨vm_cw64, List.forall_mem_cons.mpr ⟨vm_cw65, List.forall_mem_cons.mpr ⟨vm_cw66, List.forall_mem_cons.mpr ⟨vm_cw67, List.forall_mem_cons.mpr ⟨vm_cw68, List.forall_mem_cons.mpr ⟨vm_cw69, List.forall_mem_cons.mpr ⟨vm_cw70, List.forall_mem_cons.mpr ⟨vm_cw71, List.forall_mem_cons.mpr ⟨vm_cw72, List.forall_mem_cons.mpr ⟨vm_cw73, List.forall_mem_cons.mpr ⟨vm_cw74, List.forall_mem_cons.mpr ⟨vm_cw75, List.forall_mem_cons.mpr ⟨vm_cw76, List.forall_mem_cons.mpr ⟨vm_cw77, List.forall_mem_cons.mpr ⟨vm_cw78, List.forall_mem_cons.mpr ⟨vm_cw79, fun _ h => absurd h List.not_mem_nil⟩⟩⟩⟩⟩⟩⟩⟩⟩⟩⟩⟩⟩⟩⟩⟩⟩⟩⟩⟩⟩⟩⟩⟩⟩
theorem vm_cwc3 : ∀ f ∈ ([80, 81, 82, 83, 84, 85, 86, 87, 88, 89, 90, 91, 92, 93, 94, 95, 96, 97, 98, 99, 100, 101, 102, 103, 104] : List Nat), vm_cw f := List.forall_mem_cons.mpr ⟨vm_cw80, List.forall_mem_cons.mpr ⟨vm_cw81, List.forall_mem_cons.mpr ⟨vm_cw82, List.forall_mem_cons.mpr ⟨vm_cw83, List.forall_mem_cons.mpr ⟨vm_cw84, List.forall_mem_cons.mpr ⟨vm_cw85, List.forall_mem_cons.mpr ⟨vm_cw86, List.forall_mem_cons.mpr ⟨vm_cw87, List.forall_mem_cons.mpr ⟨vm_cw88, List.forall_mem_cons.mpr ⟨vm_cw89, List.forall_mem_cons.mpr ⟨vm_cw90, List.forall_mem_cons.mpr ⟨vm_cw91, List.forall_mem_cons.mpr ⟨vm_cw92, List.forall_mem_cons.mpr ⟨vm_cw93, List.forall_mem_cons.mpr ⟨vm_cw94, List.forall_mem_cons.mpr ⟨vm_cw95, List.forall_mem_cons.mpr ⟨vm_cw96, List.forall_mem_cons.mpr ⟨vm_cw97, List.forall_mem_cons.mpr ⟨vm_cw98, List.forall_mem_cons.mpr ⟨vm_cw99, List.forall_mem_cons.mpr ⟨vm_cw100, List.forall_mem_cons.mpr ⟨vm_cw101, List.forall_mem_cons.mpr ⟨vm_cw102, List.forall_mem_cons.mpr ⟨vm_cw103, List.forall_mem_cons.mpr ⟨vm_cw104, fun _ h => absurd h List.not_mem_nil⟩⟩⟩⟩⟩⟩⟩⟩⟩⟩⟩⟩⟩⟩⟩⟩⟩⟩⟩⟩⟩⟩⟩⟩⟩
theorem vm_cwc4 : ∀ f ∈ ([105, 106, 107, 108, 109, 110, 111, 112, 113, 114, 115, 117, 118, 119, 120, 121, 124, 125, 126, 128, 129, 130, 131, 132, 137] : List Nat), vm_cw f := List.forall_mem_cons.mpr ⟨vm_cw105, List.forall_mem_cons.mpr ⟨vm_cw106, List.forall_mem_cons.mpr ⟨vm_cw107, List.forall_mem_cons.mpr ⟨vm_cw108, List.forall_mem_cons.mpr ⟨vm_cw109, List.forall_mem_cons.mpr ⟨vm_cw110, List.forall_mem_cons.mpr ⟨vm_cw111, List.forall_mem_cons.mpr ⟨vm_cw112, List.forall_mem_cons.mpr ⟨vm_cw113, List.forall_mem_cons.mpr ⟨vm_cw114, List.forall_mem_cons.mpr ⟨vm_cw115, List.forall_mem_cons.mpr ⟨vm_cw117, List.forall_mem_cons.mpr ⟨vm_cw118, List.forall_mem_cons.mpr ⟨vm_cw119, List.forall_mem_cons.mpr ⟨vm_cw120, List.forall_mem_cons.mpr ⟨vm_cw121, List.forall_mem_cons.mpr ⟨vm_cw124, List.forall_mem_cons.mpr ⟨vm_cw125, List.forall_mem_cons.mpr ⟨vm_cw126, List.forall_mem_cons.mpr ⟨vm_cw128, List.forall_mem_cons.mpr ⟨vm_cw129, List.forall_mem_cons.mpr ⟨vm_cw130, List.forall_mem_cons.mpr ⟨vm_cw131, List.forall_mem_cons.mpr ⟨vm_cw132, List.forall_mem_cons.mpr ⟨vm_cw137, fun _ h => absurd h List.not_mem_nil⟩⟩⟩⟩⟩⟩⟩⟩⟩⟩⟩⟩⟩⟩⟩⟩⟩⟩⟩⟩⟩⟩⟩⟩⟩
theorem vm_cwc5 : ∀ f ∈ ([138, 139, 140, 141, 142, 143, 144, 145, 146, 147, 148, 149, 150, 151, 152, 153, 154, 155, 156, 157, 158, 159, 160, 161, 162] : List Nat), vm_cw f := List.forall_mem_cons.mpr ⟨vm_cw138, List.forall_mem_cons.mpr ⟨vm_cw139, List.forall_mem_cons.mpr ⟨vm_cw140, List.forall_mem_cons.mpr ⟨vm_cw141, List.forall_mem_cons.mpr ⟨vm_cw142, List.forall_mem_cons.mpr ⟨vm_cw143, List.forall_mem_cons.mpr ⟨vm_cw144, List.forall_mem_cons.mpr ⟨vm_cw145, List.forall_mem_cons.mpr ⟨vm_cw146, List.forall_mem_cons.mpr ⟨vm_cw147, List.forall_mem_cons.mpr ⟨vm_cw148, List.forall_mem_cons.mpr ⟨vm_cw149, List.forall_mem_cons.mpr ⟨vm_cw150, List.forall_mem_cons.mpr ⟨vm_cw151, List.forall_mem_cons.mpr ⟨vm_cw152, List.forall_mem_cons.mpr ⟨vm_cw153, List.forall_mem_cons.mpr ⟨vm_cw154, List.forall_mem_cons.mpr ⟨vm_cw155, List.forall_mem_cons.mpr ⟨vm_cw156, List.forall_mem_cons.mpr ⟨vm_cw157, List.forall_mem_cons.mpr ⟨vm_cw158, List.forall_mem_cons.mpr ⟨vm_cw159, List.forall_mem_cons.mpr ⟨vm_cw160, List.forall_mem_cons.mpr ⟨vm_cw161, List.forall_mem_cons.mpr ⟨vm_cw162, fun _ h => absurd h List.not_mem_nil⟩⟩⟩⟩⟩⟩⟩⟩⟩⟩⟩⟩⟩⟩⟩⟩⟩⟩⟩⟩⟩⟩⟩⟩⟩
theorem vm_pr_in : ∀ f, vm_pr f = true → f ∈ ([0, 1, 2, 3, 4, 5, 6, 7, 8, 10, 11, 12, 13, 14, 15, 16, 17, 18, 19, 20, 21, 22, 23, 24, 25] : List Nat) ++ (([26, 27, 28, 29, 30, 31, 32, 33, 34, 35, 36, 37, 38, 39, 40, 41, 42, 43, 44, 45, 50, 51, 52, 53, 54] : List Nat) ++ (([55, 56, 57, 58, 59, 60, 61, 62, 63, 64, 65, 66, 67, 68, 69, 70, 71, 72, 73, 74, 75, 76, 77, 78, 79] : List Nat) ++ (([80, 81, 82, 83, 84, 85, 86, 87, 88, 89, 90, 91, 92, 93, 94, 95, 96, 97, 98, 99, 100, 101, 102, 103, 104] : List Nat) ++ (([105, 106, 107, 108, 109, 110, 111, 112, 113, 114, 115, 117, 118, 119, 120, 121, 124, 125, 126, 128, 129, 130, 131, 132, 137] : List Nat) ++ (([138, 139, 140, 141, 142, 143, 144, 145, 146, 147, 148, 149, 150, 151, 152, 153, 154, 155, 156, 157, 158, 159, 160, 161, 162] : List Nat)))))) := fun f hf => by
  unfold vm_pr at hf
  simp only [Bool.and_eq_true, Bool.not_eq_true'] at hf
  have h1 : f < 163 := Nat.le_of_ble_eq_true hf.1
  have h2 := List.all_eq_true.mp (show (List.range 163).all (fun f => vm_abL.contains f || (([0, 1, 2, 3, 4, 5, 6, 7, 8, 10, 11, 12, 13, 14, 15, 16, 17, 18, 19, 20, 21, 22, 23, 24, 25] : List Nat) ++ (([26, 27, 28, 29, 30, 31, 32, 33, 34, 35, 36, 37, 38, 39, 40, 41, 42, 43, 44, 45, 50, 51, 52, 53, 54] : List Nat) ++ (([55, 56, 57, 58, 59, 60, 61, 62, 63, 64, 65, 66, 67, 68, 69, 70, 71, 72, 73, 74, 75, 76, 77, 78, 79] : List Nat) ++ (([80, 81, 82, 83, 84, 85, 86, 87, 88, 89, 90, 91, 92, 93, 94, 95, 96, 97, 98, 99, 100, 101, 102, 103, 104] : List Nat) ++ (([105, 106, 107, 108, 109, 110, 111, 112, 113, 114, 115, 117, 118, 119, 120, 121, 124, 125, 126, 128, 129, 130, 131, 132, 137] : List Nat) ++ (([138, 139, 140, 141, 142, 143, 144, 145, 146, 147, 148, 149, 150, 151, 152, 153, 154, 155, 156, 157, 158, 159, 160, 161, 162] : List Nat))))))).contains f) = true by decide +kernel) f (List.mem_range.mpr h1)
  rw [hf.2, Bool.false_or] at h2
  exact List.contains_iff_mem.mp h2
theorem vm_cwall : ∀ f, vm_pr f = true → vm_cw f := fun f hf => (List.forall_mem_append.mpr ⟨vm_cwc0, List.forall_mem_append.mpr ⟨vm_cwc1, List.forall_mem_append.mpr ⟨vm_cwc2, List.forall_mem_append.mpr ⟨vm_cwc3, List.forall_mem_append.mpr ⟨vm_cwc4, vm_cwc5⟩⟩⟩⟩⟩) f (vm_pr_in f hf)
