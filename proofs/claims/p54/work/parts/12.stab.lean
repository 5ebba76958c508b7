/-! ===== names (printed): classes, fields, methods, and what each constant of a pool leads to ===== -/
def vm_cnL : List String := ["BoardLetters$Alphabet", "BoardLetters$Breaking", "BoardLetters$History", "BoardLetters$Rows", "BoardLetters$Setting", "BoardLetters$SetupReader", "BoardLetters$Sink", "BoardLetters$Tape", "BoardLetters$Tokens", "BoardLetters$WordWidths", "BoardLetters", "java/lang/String", "java/lang/StringBuilder", "BoardLettersLaw"]
def vm_cn (c : Nat) : String := vm_cnL.getD c ""
def vm_fdL : List (List (String × String × Bool)) := [[("wides", "[I", true), ("insets", "[I", true), ("cap", "I", false), ("told", "I", false)],
  [("widths", "[I", true), ("sums", "[I", true), ("firsts", "[I", true), ("leastCosts", "[I", true), ("words", "I", false), ("inner", "I", false), ("space", "I", false), ("size", "I", false), ("rows", "I", false)],
  [("earlier", "[LBoardLetters$Setting;", true), ("next", "I", false), ("count", "I", false)],
  [("letters", "LBoardLetters$Alphabet;", true), ("setting", "LBoardLetters$Setting;", true), ("wordWidths", "LBoardLetters$WordWidths;", true), ("breaking", "LBoardLetters$Breaking;", true), ("gaps", "[I", true), ("widths", "[I", true), ("starts", "[I", true), ("spaces", "[I", true), ("wider", "[I", true), ("places", "[I", true), ("distances", "[I", true)],
  [("numbers", "[I", true), ("corrections", "[I", true), ("lengths", "[I", true), ("spelling", "[I", true), ("howBroken", "I", false), ("filled", "Z", false), ("words", "I", false)],
  [("tokens", "LBoardLetters$Tokens;", true), ("tape", "LBoardLetters$Tape;", true), ("letters", "LBoardLetters$Alphabet;", true), ("setting", "LBoardLetters$Setting;", true)],
  [("length", "I", false), ("wanted", "I", false), ("found", "I", false)],
  [("bytes", "[I", true), ("length", "I", false)],
  [("tape", "LBoardLetters$Tape;", true), ("kind", "I", false), ("first", "I", false), ("end", "I", false), ("number", "I", false)],
  [("letters", "LBoardLetters$Alphabet;", true), ("setting", "LBoardLetters$Setting;", true), ("widths", "[I", true)],
  [("tape", "LBoardLetters$Tape;", true), ("letters", "LBoardLetters$Alphabet;", true), ("draftLetters", "LBoardLetters$Alphabet;", true), ("now", "LBoardLetters$Setting;", true), ("draft", "LBoardLetters$Setting;", true), ("setupReader", "LBoardLetters$SetupReader;", true), ("history", "LBoardLetters$History;", true), ("slots", "[LBoardLetters$Setting;", true), ("kept", "[Z", true), ("wordWidths", "LBoardLetters$WordWidths;", true), ("breaking", "LBoardLetters$Breaking;", true), ("trial", "LBoardLetters$Breaking;", true), ("rows", "LBoardLetters$Rows;", true), ("sink", "LBoardLetters$Sink;", true), ("errorAt", "I", false), ("laidOut", "Z", false)],
  [("value", "[B", true), ("coder", "B", true), ("hash", "I", false), ("hashIsZero", "Z", false)],
  [("value", "[B", false), ("coder", "B", false), ("maybeLatin1", "Z", false), ("count", "I", false)]]
def vm_fd (c f : Nat) : String × String × Bool := (vm_fdL.getD c []).getD f ("", "", false)
def vm_T (c : Nat) : u_T := fun k => (vm_cn c, (vm_fd c k).1, (vm_fd c k).2.1, (vm_fd c k).2.2)
def vm_ty (c k : Nat) : FieldType := (parseFieldDescriptor (vm_fd c k).2.1).getD .int
def vm_TS : u_T := fun k => match k with
  | 0 => ("java/lang/String", "value", "[B", true)
  | 1 => ("java/lang/String", "coder", "B", true)
  | 2 => ("java/lang/String", "hash", "I", false)
  | _ => ("java/lang/String", "hashIsZero", "Z", false)
def vm_TB : u_T := fun k => match k with
  | 0 => ("java/lang/AbstractStringBuilder", "value", "[B", false)
  | 1 => ("java/lang/AbstractStringBuilder", "coder", "B", false)
  | 2 => ("java/lang/AbstractStringBuilder", "maybeLatin1", "Z", false)
  | _ => ("java/lang/AbstractStringBuilder", "count", "I", false)
def vm_cls : List vw_C := (List.range 11).map (fun c => (vm_cn c, vm_T c, vm_nf c)) ++ [("java/lang/String", vm_TS, 4), ("java/lang/StringBuilder", vm_TB, 4)]
/-- the kind of a field: 0 int, 1 long, 2 a reference, 3 boolean -/
def vm_fkL : List (List Nat) := [[2, 2, 0, 0], [2, 2, 2, 2, 0, 0, 0, 0, 0], [2, 0, 0], [2, 2, 2, 2, 2, 2, 2, 2, 2, 2, 2], [2, 2, 2, 2, 0, 3, 0], [2, 2, 2, 2], [0, 0, 0], [2, 0], [2, 0, 0, 0, 0], [2, 2, 2], [2, 2, 2, 2, 2, 2, 2, 2, 2, 2, 2, 2, 2, 2, 0, 3], [2, 0, 0, 3], [2, 0, 3, 0]]
def vm_fk (c f : Nat) : Nat := (vm_fkL.getD c []).getD f 0
/-- where a reference field leads: (number, 0): to that object; (number, 1): so many objects on -/
def vm_rfL : List (List (Int × Nat)) := [[(1, 1), (2, 1), (0, 0), (0, 0)], [(1, 1), (2, 1), (3, 1), (4, 1), (0, 0), (0, 0), (0, 0), (0, 0), (0, 0)], [(22, 0), (0, 0), (0, 0)], [(3, 0), (9, 0), (65, 0), (67, 0), (78, 0), (79, 0), (80, 0), (81, 0), (82, 0), (83, 0), (84, 0)], [(1, 1), (2, 1), (3, 1), (4, 1), (0, 0), (0, 0), (0, 0)], [(20, 0), (1, 0), (6, 0), (14, 0)], [(0, 0), (0, 0), (0, 0)], [(2, 0), (0, 0)], [(1, 0), (0, 0), (0, 0), (0, 0), (0, 0)], [(3, 0), (9, 0), (66, 0)], [(1, 0), (3, 0), (6, 0), (9, 0), (14, 0), (19, 0), (21, 0), (63, 0), (64, 0), (65, 0), (67, 0), (72, 0), (77, 0), (85, 0), (0, 0), (0, 0)]]
def vm_rf (c f : Nat) : Int × Nat := (vm_rfL.getD c []).getD f (0, 0)
def vm_to (q : Int × Nat) (k : Nat) : Nat := bif q.2 == 0 then q.1.toNat else k + q.1.toNat
def vm_mtL : List (String × String × ByteArray × Option FieldType) := [("<init>", "()V", prog_2_method_1_code, none),
  ("copyFrom", "(LBoardLetters$Alphabet;)V", prog_2_method_2_code, none),
  ("clear", "()V", prog_2_method_3_code, none),
  ("knows", "(I)Z", prog_2_method_4_code, (some .boolean)),
  ("tell", "(II)V", prog_2_method_5_code, none),
  ("setInset", "(IZII)V", prog_2_method_6_code, none),
  ("insetOf", "(IZI)I", prog_2_method_7_code, (some .int)),
  ("sumOfInsets", "(IZ)I", prog_2_method_8_code, (some .int)),
  ("countOpen", "(I)I", prog_2_method_9_code, (some .int)),
  ("sameSide", "(IIZ)Z", ⟨#[]⟩, none),
  ("opticalGap", "(III)I", prog_2_method_11_code, (some .int)),
  ("freeDistance", "(IIII)I", prog_2_method_12_code, (some .int)),
  ("<init>", "()V", prog_3_method_1_code, none),
  ("prepare", "(LBoardLetters$Setting;LBoardLetters$WordWidths;II)V", prog_3_method_2_code, none),
  ("breakWords", "(I)V", prog_3_method_3_code, none),
  ("hasRow", "(I)Z", prog_3_method_4_code, (some .boolean)),
  ("wordsIn", "(I)I", prog_3_method_5_code, (some .int)),
  ("rowOf", "(I)I", prog_3_method_6_code, (some .int)),
  ("heightWith", "(I)I", prog_3_method_7_code, (some .int)),
  ("isFitting", "(II)Z", prog_3_method_8_code, (some .boolean)),
  ("costOfRows", "()I", prog_3_method_9_code, (some .int)),
  ("isBrokenWithin", "(II)Z", prog_3_method_10_code, (some .boolean)),
  ("costExchanged", "(III)I", prog_3_method_11_code, (some .int)),
  ("findLeastCost", "()I", prog_3_method_12_code, (some .int)),
  ("addUp", "()V", prog_3_method_13_code, none),
  ("exchange", "(II)V", prog_3_method_14_code, none),
  ("rowWidth", "(II)I", prog_3_method_15_code, (some .int)),
  ("squareOfLack", "(I)I", prog_3_method_16_code, (some .int)),
  ("hasWiderRow", "()Z", prog_3_method_17_code, (some .boolean)),
  ("breakEarly", "()V", prog_3_method_18_code, none),
  ("breakCheaply", "()V", prog_3_method_19_code, none),
  ("leastCostFrom", "(II)I", prog_3_method_20_code, (some .int)),
  ("cheapestEnd", "(II)I", prog_3_method_21_code, (some .int)),
  ("costThrough", "(III)I", prog_3_method_22_code, (some .int)),
  ("<init>", "()V", prog_4_method_1_code, none),
  ("remember", "(LBoardLetters$Setting;)V", prog_4_method_2_code, none),
  ("bringBack", "(LBoardLetters$Setting;)V", prog_4_method_3_code, none),
  ("forget", "()V", prog_4_method_4_code, none),
  ("<init>", "(LBoardLetters$Alphabet;LBoardLetters$Setting;LBoardLetters$WordWidths;LBoardLetters$Breaking;)V", prog_5_method_1_code, none),
  ("renew", "()V", prog_5_method_2_code, none),
  ("greatestGap", "(I)I", prog_5_method_3_code, (some .int)),
  ("lettersIn", "(I)I", prog_5_method_4_code, (some .int)),
  ("spaceBehind", "(II)I", prog_5_method_5_code, (some .int)),
  ("spotOf", "(II)I", prog_5_method_6_code, (some .int)),
  ("hasNext", "(I)Z", prog_5_method_7_code, (some .boolean)),
  ("gapBehind", "(II)I", prog_5_method_8_code, (some .int)),
  ("isOpenBehind", "(II)Z", ⟨#[]⟩, none),
  ("whiteBehind", "(II)I", ⟨#[]⟩, none),
  ("touchesNext", "(I)Z", ⟨#[]⟩, none),
  ("holds", "(II)Z", ⟨#[]⟩, none),
  ("widthWith", "(II)I", prog_5_method_13_code, (some .int)),
  ("measure", "(I)V", prog_5_method_14_code, none),
  ("putLetters", "(III)V", prog_5_method_15_code, none),
  ("<init>", "()V", prog_6_method_1_code, none),
  ("copyFrom", "(LBoardLetters$Setting;)V", prog_6_method_2_code, none),
  ("clear", "()V", prog_6_method_3_code, none),
  ("correctionOf", "(II)I", prog_6_method_4_code, (some .int)),
  ("corrected", "(III)I", prog_6_method_5_code, (some .int)),
  ("countCorrections", "()I", prog_6_method_6_code, (some .int)),
  ("hasWord", "(I)Z", prog_6_method_7_code, (some .boolean)),
  ("countLetters", "(II)I", prog_6_method_8_code, (some .int)),
  ("countLetter", "(I)I", prog_6_method_9_code, (some .int)),
  ("exchange", "(II)V", prog_6_method_10_code, none),
  ("readWords", "(LBoardLetters$Tape;LBoardLetters$Alphabet;)I", prog_6_method_11_code, (some .int)),
  ("addLetter", "(IZ)Z", prog_6_method_12_code, (some .boolean)),
  ("<init>", "(LBoardLetters$Tape;LBoardLetters$Alphabet;LBoardLetters$Setting;)V", prog_7_method_1_code, none),
  ("stoppedAt", "()I", prog_7_method_2_code, (some .int)),
  ("read", "()Z", prog_7_method_3_code, (some .boolean)),
  ("readBoard", "()Z", prog_7_method_4_code, (some .boolean)),
  ("readNumber", "(I)Z", prog_7_method_5_code, (some .boolean)),
  ("readCap", "()Z", prog_7_method_6_code, (some .boolean)),
  ("readLetter", "()Z", prog_7_method_7_code, (some .boolean)),
  ("readSide", "(IZ)Z", prog_7_method_8_code, (some .boolean)),
  ("readPair", "()Z", prog_7_method_9_code, (some .boolean)),
  ("passName", "(Ljava/lang/String;)Z", prog_7_method_10_code, (some .boolean)),
  ("passLetter", "(I)Z", prog_7_method_11_code, (some .boolean)),
  ("passSemicolon", "()Z", prog_7_method_12_code, (some .boolean)),
  ("<init>", "()V", prog_8_method_1_code, none),
  ("open", "(I)V", prog_8_method_2_code, none),
  ("add", "(I)V", prog_8_method_3_code, none),
  ("addText", "(Ljava/lang/String;)V", prog_8_method_4_code, none),
  ("addNumber", "(I)V", prog_8_method_5_code, none),
  ("<init>", "()V", prog_9_method_1_code, none),
  ("hasRoom", "(I)Z", prog_9_method_2_code, (some .boolean)),
  ("addFour", "(I)V", prog_9_method_3_code, none),
  ("byteAt", "(I)I", prog_9_method_4_code, (some .int)),
  ("isWhite", "(I)Z", prog_9_method_5_code, (some .boolean)),
  ("<init>", "(LBoardLetters$Tape;)V", prog_10_method_1_code, none),
  ("begin", "()V", prog_10_method_2_code, none),
  ("advance", "()V", prog_10_method_3_code, none),
  ("isName", "(Ljava/lang/String;)Z", prog_10_method_4_code, (some .boolean)),
  ("isNumber", "(II)Z", prog_10_method_5_code, (some .boolean)),
  ("asLetter", "()I", prog_10_method_6_code, (some .int)),
  ("readDigits", "()V", prog_10_method_7_code, none),
  ("kindOf", "(I)I", prog_10_method_8_code, (some .int)),
  ("<init>", "(LBoardLetters$Alphabet;LBoardLetters$Setting;)V", prog_11_method_1_code, none),
  ("of", "(II)I", prog_11_method_2_code, (some .int)),
  ("renew", "()V", prog_11_method_3_code, none),
  ("addWides", "(I)V", prog_11_method_4_code, none),
  ("addDistances", "(III)V", prog_11_method_5_code, none),
  ("<init>", "()V", prog_1_method_1_code, none),
  ("append", "(IIIII)I", prog_1_method_2_code, (some .int)),
  ("truncate", "(I)I", prog_1_method_3_code, (some .int)),
  ("load", "()I", prog_1_method_4_code, (some .int)),
  ("errorPosition", "()I", prog_1_method_5_code, (some .int)),
  ("say", "()I", prog_1_method_6_code, (some .int)),
  ("setNumber", "(II)I", prog_1_method_7_code, (some .int)),
  ("correct", "(III)I", prog_1_method_8_code, (some .int)),
  ("setBreak", "(I)I", prog_1_method_9_code, (some .int)),
  ("setFill", "(Z)I", prog_1_method_10_code, (some .int)),
  ("swap", "(II)I", prog_1_method_11_code, (some .int)),
  ("keep", "(I)I", prog_1_method_12_code, (some .int)),
  ("restore", "(I)I", prog_1_method_13_code, (some .int)),
  ("undo", "()I", prog_1_method_14_code, (some .int)),
  ("beginOperation", "()V", prog_1_method_15_code, none),
  ("value", "(I)I", prog_1_method_16_code, (some .int)),
  ("inset", "(IZI)I", ⟨#[]⟩, none),
  ("letter", "(II)I", prog_1_method_18_code, (some .int)),
  ("gapAt", "(III)I", prog_1_method_19_code, (some .int)),
  ("distance", "(III)I", prog_1_method_20_code, (some .int)),
  ("correction", "(II)I", prog_1_method_21_code, (some .int)),
  ("extreme", "(Z)I", prog_1_method_22_code, (some .int)),
  ("mirrored", "(I)Z", ⟨#[]⟩, none),
  ("alike", "(IZ)I", ⟨#[]⟩, none),
  ("pairDistance", "(III)I", prog_1_method_25_code, (some .int)),
  ("word", "(II)I", prog_1_method_26_code, (some .int)),
  ("spelled", "(II)I", prog_1_method_27_code, (some .int)),
  ("longest", "()I", ⟨#[]⟩, none),
  ("row", "(II)I", prog_1_method_29_code, (some .int)),
  ("letterAt", "(II)I", prog_1_method_30_code, (some .int)),
  ("place", "(II)I", prog_1_method_31_code, (some .int)),
  ("gap", "(II)I", prog_1_method_32_code, (some .int)),
  ("uneven", "(I)I", prog_1_method_33_code, (some .int)),
  ("white", "(III)I", ⟨#[]⟩, none),
  ("touches", "(I)I", ⟨#[]⟩, none),
  ("widest", "(Z)I", ⟨#[]⟩, none),
  ("at", "(II)I", ⟨#[]⟩, none),
  ("layOut", "()V", prog_1_method_38_code, none),
  ("fits", "()Z", prog_1_method_39_code, (some .boolean)),
  ("bestSize", "()I", prog_1_method_40_code, (some .int)),
  ("bestGap", "()I", prog_1_method_41_code, (some .int)),
  ("leastInner", "(I)I", prog_1_method_42_code, (some .int)),
  ("height", "()I", prog_1_method_43_code, (some .int)),
  ("cost", "()I", prog_1_method_44_code, (some .int)),
  ("leastCost", "()I", prog_1_method_45_code, (some .int)),
  ("fillGap", "(I)I", prog_1_method_46_code, (some .int)),
  ("bestSwap", "()I", prog_1_method_47_code, (some .int)),
  ("bestCorrection", "(II)I", prog_1_method_48_code, (some .int)),
  ("fitsWith", "(II)Z", prog_1_method_49_code, (some .boolean)),
  ("prepareTrial", "()V", prog_1_method_50_code, none),
  ("full", "(I)F", prog_1_method_51_code, (some .float)),
  ("meanGap", "()D", prog_1_method_52_code, (some .double)),
  ("viewLength", "()I", prog_1_method_53_code, (some .int)),
  ("viewByte", "(I)I", prog_1_method_54_code, (some .int)),
  ("setupLength", "()I", prog_1_method_55_code, (some .int)),
  ("setupByte", "(I)I", prog_1_method_56_code, (some .int)),
  ("tapeLength", "()I", prog_1_method_57_code, (some .int)),
  ("writeView", "()V", prog_1_method_58_code, none),
  ("writeSetup", "()V", prog_1_method_59_code, none),
  ("writeNumber", "(Ljava/lang/String;I)V", prog_1_method_60_code, none),
  ("writeLetter", "(I)V", prog_1_method_61_code, none),
  ("writeSide", "(IZ)V", prog_1_method_62_code, none),
  ("writePair", "(III)V", prog_1_method_63_code, none)]
def vm_mt (f : Nat) : String × String × ByteArray × Option FieldType := vm_mtL.getD f ("", "", ⟨#[]⟩, none)
def vm_mn (f : Nat) : MethodName := ⟨vm_cn (vm_mo f), (vm_mt f).1, (vm_mt f).2.1⟩
def vm_cb (f : Nat) : ByteArray := (vm_mt f).2.2.1
def vm_ret (f : Nat) : Option FieldType := (vm_mt f).2.2.2
/-- of each method: the places of its words: code, instanceMethod or static, selects (or 0), initialized -/
def vm_mpL : List (Nat × Nat × Nat × Nat) := [(90, 89, 0, 40), (591, 589, 590, 40), (482, 480, 481, 40), (562, 560, 561, 40), (343, 341, 342, 40), (347, 345, 346, 40), (639, 637, 638, 40), (1124, 1122, 1123, 40), (1128, 1126, 1127, 40), (0, 0, 0, 0), (635, 633, 634, 40), (631, 629, 630, 40), (244, 243, 0, 46), (659, 657, 658, 46), (671, 669, 670, 46), (1143, 1141, 1142, 46), (715, 713, 714, 46), (1176, 1174, 1175, 46), (1208, 1206, 1207, 46), (1216, 1214, 1215, 46), (1229, 1227, 1228, 46), (1351, 1349, 1350, 46), (1359, 1357, 1358, 46), (683, 681, 682, 46), (667, 666, 13, 46), (1363, 1362, 36, 46), (679, 678, 15, 46), (695, 694, 18, 46), (1220, 1219, 27, 46), (675, 674, 14, 46), (699, 698, 19, 46), (687, 686, 16, 46), (703, 702, 20, 46), (691, 690, 17, 46), (207, 206, 0, 44), (770, 768, 769, 44), (1116, 1114, 1115, 44), (603, 601, 602, 44), (282, 281, 0, 47), (707, 705, 706, 47), (719, 717, 718, 47), (1148, 1146, 1147, 47), (735, 733, 734, 47), (1158, 1156, 1157, 47), (1194, 1192, 1193, 47), (1189, 1187, 1188, 47), (0, 0, 0, 0), (0, 0, 0, 0), (0, 0, 0, 0), (0, 0, 0, 0), (723, 722, 22, 47), (711, 710, 21, 47), (729, 728, 23, 47), (117, 116, 0, 41), (598, 596, 597, 41), (486, 484, 485, 41), (653, 651, 652, 41), (649, 647, 648, 41), (611, 609, 610, 41), (1068, 1066, 1067, 41), (739, 737, 738, 41), (1132, 1130, 1131, 41), (1072, 1070, 1071, 41), (755, 753, 754, 41), (762, 761, 24, 41), (163, 162, 0, 42), (587, 585, 586, 42), (478, 476, 477, 42), (512, 511, 1, 42), (528, 527, 3, 42), (542, 541, 4, 42), (553, 552, 6, 42), (569, 568, 7, 42), (576, 575, 8, 42), (517, 516, 2, 42), (581, 580, 9, 42), (549, 548, 5, 42), (326, 325, 0, 48), (1259, 1257, 1258, 48), (1271, 1269, 1270, 48), (1289, 1287, 1288, 48), (1267, 1265, 1266, 48), (72, 71, 0, 39), (466, 464, 465, 39), (470, 468, 469, 39), (498, 496, 497, 39), (501, 500, 0, 39), (169, 168, 0, 43), (490, 488, 489, 43), (494, 492, 493, 43), (521, 519, 520, 43), (536, 534, 535, 43), (558, 556, 557, 43), (508, 507, 0, 43), (504, 503, 0, 43), (227, 226, 0, 45), (663, 661, 662, 45), (619, 617, 618, 45), (623, 622, 11, 45), (627, 626, 12, 45), (64, 63, 0, 38), (462, 460, 461, 38), (410, 408, 409, 38), (474, 472, 473, 38), (743, 741, 742, 38), (751, 749, 750, 38), (1044, 1042, 1043, 38), (1050, 1048, 1049, 38), (1056, 1054, 1055, 38), (1060, 1058, 1059, 38), (1064, 1062, 1063, 38), (1380, 1378, 1379, 38), (1384, 1382, 1383, 38), (1112, 1110, 1111, 38), (766, 765, 25, 38), (607, 605, 606, 38), (0, 0, 0, 0), (1120, 1118, 1119, 38), (1083, 1081, 1082, 38), (1088, 1086, 1087, 38), (1079, 1077, 1078, 38), (1098, 1096, 1097, 38), (0, 0, 0, 0), (0, 0, 0, 0), (1092, 1091, 26, 38), (1172, 1170, 1171, 38), (1331, 1329, 1330, 38), (0, 0, 0, 0), (1139, 1137, 1138, 38), (1181, 1179, 1180, 38), (1154, 1152, 1153, 38), (1185, 1183, 1184, 38), (1199, 1197, 1198, 38), (0, 0, 0, 0), (0, 0, 0, 0), (0, 0, 0, 0), (0, 0, 0, 0), (615, 614, 10, 38), (1212, 1210, 1211, 38), (1335, 1333, 1334, 38), (1343, 1341, 1342, 38), (1347, 1345, 1346, 38), (1204, 1202, 1203, 38), (1225, 1223, 1224, 38), (1237, 1235, 1236, 38), (1167, 1165, 1166, 38), (1355, 1353, 1354, 38), (1102, 1100, 1101, 38), (1339, 1338, 35, 38), (1241, 1240, 28, 38), (1162, 1160, 1161, 38), (1233, 1231, 1232, 38), (1255, 1253, 1254, 38), (1322, 1320, 1321, 38), (1276, 1274, 1275, 38), (1326, 1324, 1325, 38), (406, 404, 405, 38), (1263, 1262, 29, 38), (1280, 1279, 30, 38), (1285, 1284, 31, 38), (1301, 1300, 32, 38), (1308, 1307, 33, 38), (1315, 1314, 34, 38)]
/-- of each class: the places of its fields' words; of instantiable, initialized -/
def vm_cpL : List (List Nat × Nat × Nat) := [([104, 106, 108, 110], 87, 40), ([259, 261, 263, 265, 267, 269, 271, 273, 275], 241, 46), ([216, 218, 220], 204, 44), ([299, 301, 303, 305, 307, 309, 311, 313, 315, 317, 319], 279, 47), ([144, 146, 148, 150, 152, 154, 156], 114, 41), ([194, 196, 198, 200], 160, 42), ([333, 335, 337], 323, 48), ([80, 82], 69, 39), ([179, 181, 183, 185, 187], 166, 43), ([232, 234, 236], 224, 45), ([364, 366, 368, 370, 372, 374, 376, 378, 380, 382, 384, 386, 388, 390, 392, 394], 61, 38), ([1019, 1021, 1023, 1025], 976, 51), ([904, 906, 908, 910], 781, 50)]
/-- methods that this claim does not reach -/
def vm_abL : List Nat := [9, 46, 47, 48, 49, 116, 122, 123, 127, 133, 134, 135, 136]
def vm_pr (g : Nat) : Bool := Nat.blt g 163 && !vm_abL.contains g
/-- fields: the pool's class, the entry, the class, the field -/
def vm_flL : List (Nat × Nat × Nat × Nat × Nat) := [(0, 9, 0, 0, 92), (0, 15, 0, 1, 96), (0, 18, 0, 2, 97), (0, 22, 0, 3, 102), (1, 9, 1, 0, 246), (1, 15, 1, 1, 247), (1, 18, 1, 2, 248), (1, 21, 1, 3, 251), (1, 24, 1, 4, 252), (1, 28, 1, 5, 253), (1, 31, 1, 6, 254), (1, 34, 1, 7, 255), (1, 37, 1, 8, 256), (1, 40, 4, 6, 141), (1, 43, 4, 0, 121), (2, 11, 2, 0, 212), (2, 15, 2, 1, 213), (2, 19, 2, 2, 214), (3, 9, 3, 4, 288), (3, 15, 3, 5, 290), (3, 18, 3, 6, 292), (3, 21, 3, 7, 294), (3, 24, 3, 8, 295), (3, 27, 3, 9, 296), (3, 30, 3, 10, 298), (3, 33, 3, 0, 284), (3, 37, 3, 1, 285), (3, 41, 3, 2, 286), (3, 45, 3, 3, 287), (3, 49, 1, 8, 257), (3, 59, 1, 2, 249), (3, 72, 4, 0, 122), (3, 80, 0, 2, 99), (3, 91, 4, 2, 129), (3, 101, 4, 3, 133), (3, 119, 0, 0, 94), (3, 126, 4, 5, 139), (4, 9, 4, 0, 119), (4, 15, 4, 1, 124), (4, 18, 4, 2, 127), (4, 21, 4, 3, 131), (4, 24, 4, 4, 135), (4, 28, 4, 5, 137), (4, 32, 4, 6, 140), (4, 50, 7, 1, 79), (5, 14, 5, 0, 190), (5, 20, 5, 1, 191), (5, 24, 5, 2, 192), (5, 28, 5, 3, 193), (5, 32, 8, 2, 175), (5, 60, 7, 1, 78), (5, 65, 8, 1, 173), (5, 96, 0, 2, 101), (5, 109, 4, 0, 123), (5, 112, 8, 4, 178), (5, 154, 4, 1, 126), (6, 9, 6, 0, 328), (6, 15, 6, 1, 330), (6, 18, 6, 2, 331), (7, 11, 7, 0, 74), (7, 15, 7, 1, 75), (8, 11, 8, 1, 172), (8, 15, 8, 2, 174), (8, 18, 8, 3, 176), (8, 21, 8, 4, 177), (8, 24, 8, 0, 171), (8, 31, 7, 1, 77), (9, 9, 9, 2, 231), (9, 15, 9, 0, 229), (9, 19, 9, 1, 230), (9, 23, 4, 6, 142), (9, 33, 4, 2, 128), (9, 36, 4, 3, 132), (9, 43, 0, 2, 100), (9, 54, 0, 0, 93), (10, 10, 10, 0, 348), (10, 19, 10, 1, 349), (10, 23, 10, 2, 350), (10, 29, 10, 3, 351), (10, 33, 10, 4, 352), (10, 41, 10, 5, 353), (10, 48, 10, 6, 354), (10, 52, 10, 7, 355), (10, 56, 10, 8, 356), (10, 65, 10, 9, 357), (10, 72, 10, 10, 358), (10, 76, 10, 11, 359), (10, 84, 10, 12, 360), (10, 91, 10, 13, 361), (10, 95, 10, 14, 362), (10, 99, 10, 15, 363), (10, 103, 0, 2, 98), (10, 114, 4, 0, 120), (10, 126, 7, 1, 76), (10, 147, 0, 3, 103), (10, 157, 4, 6, 143), (10, 173, 4, 1, 125), (10, 176, 4, 4, 136), (10, 179, 4, 5, 138), (10, 191, 1, 8, 258), (10, 193, 2, 2, 215), (10, 212, 0, 0, 95), (10, 247, 4, 2, 130), (10, 253, 1, 2, 250), (10, 256, 4, 3, 134), (10, 268, 3, 4, 289), (10, 271, 3, 5, 291), (10, 274, 3, 6, 293), (10, 288, 3, 9, 297), (10, 361, 6, 0, 329), (10, 362, 6, 2, 332)]
/-- methods: the pool's class, the entry, the method -/
def vm_mlL : List (Nat × Nat × Nat × Nat) := [(0, 31, 6, 636), (0, 44, 10, 632), (1, 46, 96, 660), (1, 52, 24, 664), (1, 55, 29, 672), (1, 58, 23, 680), (1, 62, 30, 696), (1, 65, 28, 1217), (1, 69, 18, 1221), (1, 73, 26, 676), (1, 76, 27, 692), (1, 79, 25, 1360), (1, 83, 14, 1364), (1, 87, 20, 1365), (1, 90, 31, 684), (1, 93, 32, 700), (1, 96, 33, 688), (2, 23, 54, 771), (3, 55, 51, 708), (3, 62, 52, 726), (3, 66, 96, 724), (3, 77, 42, 732), (3, 85, 50, 720), (3, 88, 60, 1149), (3, 94, 43, 1190), (3, 97, 44, 1191), (3, 104, 10, 1195), (3, 122, 16, 712), (3, 130, 40, 716), (3, 138, 11, 730), (3, 142, 57, 731), (4, 41, 56, 650), (4, 55, 85, 756), (4, 59, 86, 757), (4, 63, 3, 758), (4, 68, 64, 759), (5, 11, 87, 167), (5, 36, 2, 479), (5, 41, 55, 483), (5, 44, 88, 487), (5, 47, 68, 509), (5, 51, 71, 550), (5, 56, 90, 518), (5, 68, 73, 573), (5, 73, 74, 514), (5, 76, 69, 525), (5, 84, 70, 539), (5, 93, 76, 546), (5, 105, 91, 533), (5, 115, 89, 524), (5, 118, 92, 555), (5, 122, 3, 559), (5, 127, 4, 564), (5, 133, 72, 566), (5, 141, 5, 571), (5, 147, 75, 578), (6, 30, 79, 1268), (8, 28, 89, 491), (8, 36, 85, 495), (8, 40, 86, 499), (8, 44, 94, 502), (8, 47, 93, 505), (9, 29, 98, 620), (9, 39, 99, 624), (9, 57, 11, 628), (9, 61, 57, 646), (10, 38, 65, 161), (10, 47, 34, 205), (10, 62, 95, 225), (10, 81, 38, 280), (10, 106, 4, 340), (10, 110, 5, 344), (10, 118, 83, 463), (10, 122, 84, 467), (10, 129, 67, 475), (10, 133, 66, 584), (10, 137, 1, 588), (10, 141, 54, 595), (10, 144, 37, 600), (10, 150, 63, 752), (10, 154, 114, 763), (10, 166, 3, 1051), (10, 169, 56, 1052), (10, 182, 59, 1065), (10, 185, 62, 1069), (10, 188, 137, 612), (10, 196, 36, 1113), (10, 199, 35, 767), (10, 202, 58, 608), (10, 205, 60, 736), (10, 208, 6, 1309), (10, 215, 7, 1121), (10, 219, 8, 1125), (10, 223, 61, 1129), (10, 226, 10, 1084), (10, 230, 124, 1089), (10, 237, 11, 1093), (10, 241, 57, 1094), (10, 244, 17, 1173), (10, 250, 96, 1177), (10, 259, 15, 1140), (10, 262, 16, 1144), (10, 265, 41, 1145), (10, 282, 42, 1150), (10, 285, 43, 1155), (10, 291, 45, 1186), (10, 313, 97, 616), (10, 316, 13, 656), (10, 320, 14, 668), (10, 323, 39, 704), (10, 324, 19, 1213), (10, 327, 148, 1336), (10, 330, 149, 1238), (10, 333, 21, 1348), (10, 336, 18, 1205), (10, 339, 20, 1226), (10, 342, 23, 1242), (10, 345, 40, 1168), (10, 348, 22, 1356), (10, 355, 78, 1256), (10, 358, 157, 1260), (10, 365, 158, 1277), (10, 368, 81, 1264), (10, 371, 79, 1272), (10, 376, 159, 1282), (10, 392, 160, 1298), (10, 395, 162, 1312), (10, 399, 80, 1286), (10, 409, 161, 1305)]
/-- constructors of nest mates -/
def vm_nlL : List (Nat × Nat × Nat × Nat) := [(2, 22, 53, 211), (10, 9, 82, 70), (10, 18, 0, 88), (10, 28, 53, 115), (10, 71, 12, 242), (10, 90, 77, 324)]
/-- classes -/
def vm_clkL : List (Nat × Nat × Nat × Nat) := [(2, 9, 4, 209), (5, 9, 8, 165), (10, 7, 7, 68), (10, 16, 0, 86), (10, 26, 4, 113), (10, 36, 5, 159), (10, 45, 2, 203), (10, 60, 9, 223), (10, 69, 1, 240), (10, 79, 3, 278), (10, 88, 6, 322)]
/-- texts -/
def vm_slL : List (Nat × Nat × Nat) := [(5, 54, 0), (5, 71, 1), (5, 80, 2), (5, 82, 3), (5, 87, 4), (5, 89, 5), (5, 91, 6), (5, 125, 7), (5, 131, 8), (5, 137, 9), (5, 139, 10), (5, 145, 11), (5, 150, 12), (5, 152, 13), (10, 374, 14), (10, 380, 15), (10, 382, 16), (10, 384, 17), (10, 386, 18), (10, 388, 19), (10, 390, 20), (10, 403, 21), (10, 405, 22), (10, 407, 23), (10, 413, 24), (10, 415, 25), (10, 417, 26), (10, 419, 27), (10, 421, 28), (13, 58, 29), (13, 61, 30), (13, 73, 31), (13, 78, 32), (13, 80, 33), (13, 82, 34), (13, 84, 35), (13, 86, 36), (13, 88, 37), (13, 90, 38), (13, 92, 39), (13, 94, 40), (13, 100, 41), (13, 102, 42), (13, 104, 43), (13, 106, 44), (13, 108, 45), (13, 110, 46), (13, 220, 47)]
/-- longs -/
def vm_llL : List (Nat × Nat × Int × Nat) := []
/-- floats (all -1) -/
def vm_ffL : List (Nat × Nat × Nat) := [(10, 354, 1163)]
/-- static arrays -/
def vm_stL : List (Nat × Nat × Nat × Nat) := [(5, 98, 901, 529), (5, 102, 900, 531), (10, 160, 901, 1045), (10, 163, 900, 1046)]
/-- the library's methods -/
def vm_blL : List (Nat × Nat × Nat × Nat) := [(0, 3, 1006, 91), (0, 25, 1003, 592), (0, 35, 1000, 640), (0, 41, 1001, 643), (1, 3, 1006, 245), (2, 1, 1006, 208), (2, 27, 1001, 772), (3, 3, 1006, 283), (3, 133, 1000, 725), (4, 3, 1006, 118), (4, 35, 1003, 599), (4, 45, 1000, 654), (5, 3, 1006, 164), (6, 3, 1006, 327), (6, 21, 1004, 1290), (6, 26, 1005, 1291), (7, 3, 1006, 73), (8, 3, 1006, 170), (8, 50, 1004, 522), (8, 55, 1005, 523), (9, 3, 1006, 228), (9, 48, 1000, 655), (10, 1, 1006, 65), (10, 277, 1000, 1106), (10, 294, 1001, 1200), (10, 351, 1002, 1103)]
def vm_txL : List String := ["letter", "board", "lead", "cap", "gap", "word", "size", "wide", "left", "right", "open", "pair", "closer", "wider", "board ", " ", " lead ", " cap ", " gap ", " word ", " size ", "letter ", " wide ", " left", " right", " open", "pair ", " closer ", " wider ", "open", "", "board ", " lead ", " cap ", " gap ", " word ", " size ", ";", "letter ", " wide ", " left", " right", "pair ", " closer ", " wider ", "\n", "  ", " "]
