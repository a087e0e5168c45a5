theorem q1_0 : (Cond.initialized "FlashFilesLaw" : Cond) ∈ TT := tt1 (List.mem_of_getElem? (i := 0) rfl) rfl
theorem q2_89 : (Cond.methodLink "FlashFilesLaw" (109) ⟨"FlashFiles", "tape", "(I)I"⟩ : Cond) ∈ TT := tt2 (List.mem_of_getElem? (i := 89) rfl) rfl
theorem q2_90 : (Cond.instanceMethod ⟨"FlashFiles", "tape", "(I)I"⟩ : Cond) ∈ TT := tt2 (List.mem_of_getElem? (i := 90) rfl) rfl
theorem q2_91 : (Cond.selects "FlashFiles" ⟨"FlashFiles", "tape", "(I)I"⟩ ⟨"FlashFiles", "tape", "(I)I"⟩ : Cond) ∈ TT := tt2 (List.mem_of_getElem? (i := 91) rfl) rfl
theorem q2_92 : (Cond.code ⟨"FlashFiles", "tape", "(I)I"⟩ prog_1_method_4_code (2) (some .int) : Cond) ∈ TT := tt2 (List.mem_of_getElem? (i := 92) rfl) rfl
theorem q2_101 : (Cond.methodLink "FlashFilesLaw" (96) ⟨"FlashFilesLaw", "format", "(LFlashFiles;II)I"⟩ : Cond) ∈ TT := tt2 (List.mem_of_getElem? (i := 101) rfl) rfl
theorem q2_102 : (Cond.static ⟨"FlashFilesLaw", "format", "(LFlashFiles;II)I"⟩ : Cond) ∈ TT := tt2 (List.mem_of_getElem? (i := 102) rfl) rfl
theorem q2_103 : (Cond.codeWith ⟨"FlashFilesLaw", "format", "(LFlashFiles;II)I"⟩ method_3_code (4) (some .int) [((0), (6), (9), (13))] : Cond) ∈ TT := tt2 (List.mem_of_getElem? (i := 103) rfl) rfl
theorem q4_192 : (Cond.methodLink "FlashFilesLaw" (105) ⟨"FlashFilesLaw", "feed", "(LFlashFiles;IIIII[J)I"⟩ : Cond) ∈ TT := tt4 (List.mem_of_getElem? (i := 192) rfl) rfl
theorem q4_193 : (Cond.static ⟨"FlashFilesLaw", "feed", "(LFlashFiles;IIIII[J)I"⟩ : Cond) ∈ TT := tt4 (List.mem_of_getElem? (i := 193) rfl) rfl
theorem q4_194 : (Cond.codeWith ⟨"FlashFilesLaw", "feed", "(LFlashFiles;IIIII[J)I"⟩ method_4_code (8) (some .int) [((0), (16), (19), (19))] : Cond) ∈ TT := tt4 (List.mem_of_getElem? (i := 194) rfl) rfl
theorem q4_224 : (Cond.methodLink "FlashFilesLaw" (113) ⟨"FlashFilesLaw", "make", "(LFlashFiles;II[J)I"⟩ : Cond) ∈ TT := tt4 (List.mem_of_getElem? (i := 224) rfl) rfl
theorem q4_225 : (Cond.static ⟨"FlashFilesLaw", "make", "(LFlashFiles;II[J)I"⟩ : Cond) ∈ TT := tt4 (List.mem_of_getElem? (i := 225) rfl) rfl
theorem q4_226 : (Cond.codeWith ⟨"FlashFilesLaw", "make", "(LFlashFiles;II[J)I"⟩ method_5_code (5) (some .int) [((0), (10), (13), (13)), ((0), (10), (17), (19)), ((0), (10), (21), (25))] : Cond) ∈ TT := tt4 (List.mem_of_getElem? (i := 226) rfl) rfl
theorem q5_111 : (Cond.methodLink "FlashFilesLaw" (117) ⟨"FlashFilesLaw", "makeDirectory", "(LFlashFiles;II[J)I"⟩ : Cond) ∈ TT := tt5 (List.mem_of_getElem? (i := 111) rfl) rfl
theorem q5_112 : (Cond.static ⟨"FlashFilesLaw", "makeDirectory", "(LFlashFiles;II[J)I"⟩ : Cond) ∈ TT := tt5 (List.mem_of_getElem? (i := 112) rfl) rfl
theorem q5_113 : (Cond.codeWith ⟨"FlashFilesLaw", "makeDirectory", "(LFlashFiles;II[J)I"⟩ method_6_code (5) (some .int) [((0), (10), (13), (13)), ((0), (10), (17), (19)), ((0), (10), (21), (25))] : Cond) ∈ TT := tt5 (List.mem_of_getElem? (i := 113) rfl) rfl
theorem q5_118 : (Cond.methodLink "FlashFilesLaw" (120) ⟨"FlashFilesLaw", "link", "(LFlashFiles;III[J)I"⟩ : Cond) ∈ TT := tt5 (List.mem_of_getElem? (i := 118) rfl) rfl
theorem q5_119 : (Cond.static ⟨"FlashFilesLaw", "link", "(LFlashFiles;III[J)I"⟩ : Cond) ∈ TT := tt5 (List.mem_of_getElem? (i := 119) rfl) rfl
theorem q5_120 : (Cond.codeWith ⟨"FlashFilesLaw", "link", "(LFlashFiles;III[J)I"⟩ method_7_code (6) (some .int) [((0), (12), (15), (13)), ((0), (12), (19), (19)), ((0), (12), (23), (25))] : Cond) ∈ TT := tt5 (List.mem_of_getElem? (i := 120) rfl) rfl
theorem q5_139 : (Cond.methodLink "FlashFilesLaw" (124) ⟨"FlashFilesLaw", "unlink", "(LFlashFiles;II[J)I"⟩ : Cond) ∈ TT := tt5 (List.mem_of_getElem? (i := 139) rfl) rfl
theorem q5_140 : (Cond.static ⟨"FlashFilesLaw", "unlink", "(LFlashFiles;II[J)I"⟩ : Cond) ∈ TT := tt5 (List.mem_of_getElem? (i := 140) rfl) rfl
theorem q5_141 : (Cond.codeWith ⟨"FlashFilesLaw", "unlink", "(LFlashFiles;II[J)I"⟩ method_8_code (5) (some .int) [((0), (10), (13), (13)), ((0), (10), (17), (19)), ((0), (10), (21), (25))] : Cond) ∈ TT := tt5 (List.mem_of_getElem? (i := 141) rfl) rfl
theorem q5_182 : (Cond.methodLink "FlashFilesLaw" (127) ⟨"FlashFilesLaw", "removeDirectory", "(LFlashFiles;II)I"⟩ : Cond) ∈ TT := tt5 (List.mem_of_getElem? (i := 182) rfl) rfl
theorem q5_183 : (Cond.static ⟨"FlashFilesLaw", "removeDirectory", "(LFlashFiles;II)I"⟩ : Cond) ∈ TT := tt5 (List.mem_of_getElem? (i := 183) rfl) rfl
theorem q5_184 : (Cond.codeWith ⟨"FlashFilesLaw", "removeDirectory", "(LFlashFiles;II)I"⟩ method_9_code (4) (some .int) [((0), (6), (9), (13)), ((0), (6), (12), (19)), ((0), (6), (15), (25))] : Cond) ∈ TT := tt5 (List.mem_of_getElem? (i := 184) rfl) rfl
theorem q5_191 : (Cond.methodLink "FlashFilesLaw" (130) ⟨"FlashFilesLaw", "rename", "(LFlashFiles;IIII)I"⟩ : Cond) ∈ TT := tt5 (List.mem_of_getElem? (i := 191) rfl) rfl
theorem q5_192 : (Cond.static ⟨"FlashFilesLaw", "rename", "(LFlashFiles;IIII)I"⟩ : Cond) ∈ TT := tt5 (List.mem_of_getElem? (i := 192) rfl) rfl
theorem q5_193 : (Cond.codeWith ⟨"FlashFilesLaw", "rename", "(LFlashFiles;IIII)I"⟩ method_10_code (6) (some .int) [((0), (9), (12), (13)), ((0), (9), (16), (19)), ((0), (9), (20), (25))] : Cond) ∈ TT := tt5 (List.mem_of_getElem? (i := 193) rfl) rfl
theorem q5_227 : (Cond.methodLink "FlashFilesLaw" (134) ⟨"FlashFilesLaw", "find", "(LFlashFiles;II[J)I"⟩ : Cond) ∈ TT := tt5 (List.mem_of_getElem? (i := 227) rfl) rfl
theorem q5_228 : (Cond.static ⟨"FlashFilesLaw", "find", "(LFlashFiles;II[J)I"⟩ : Cond) ∈ TT := tt5 (List.mem_of_getElem? (i := 228) rfl) rfl
theorem q5_229 : (Cond.codeWith ⟨"FlashFilesLaw", "find", "(LFlashFiles;II[J)I"⟩ method_11_code (5) (some .int) [((0), (10), (13), (13)), ((0), (10), (17), (19))] : Cond) ∈ TT := tt5 (List.mem_of_getElem? (i := 229) rfl) rfl
theorem q5_234 : (Cond.methodLink "FlashFilesLaw" (137) ⟨"FlashFilesLaw", "write", "(LFlashFiles;III[J)I"⟩ : Cond) ∈ TT := tt5 (List.mem_of_getElem? (i := 234) rfl) rfl
theorem q5_235 : (Cond.static ⟨"FlashFilesLaw", "write", "(LFlashFiles;III[J)I"⟩ : Cond) ∈ TT := tt5 (List.mem_of_getElem? (i := 235) rfl) rfl
theorem q5_236 : (Cond.codeWith ⟨"FlashFilesLaw", "write", "(LFlashFiles;III[J)I"⟩ method_12_code (6) (some .int) [((0), (12), (15), (13)), ((0), (12), (19), (19)), ((0), (12), (23), (25))] : Cond) ∈ TT := tt5 (List.mem_of_getElem? (i := 236) rfl) rfl
theorem q6_80 : (Cond.methodLink "FlashFilesLaw" (140) ⟨"FlashFilesLaw", "read", "(LFlashFiles;III[J)I"⟩ : Cond) ∈ TT := tt6 (List.mem_of_getElem? (i := 80) rfl) rfl
theorem q6_81 : (Cond.static ⟨"FlashFilesLaw", "read", "(LFlashFiles;III[J)I"⟩ : Cond) ∈ TT := tt6 (List.mem_of_getElem? (i := 81) rfl) rfl
theorem q6_82 : (Cond.codeWith ⟨"FlashFilesLaw", "read", "(LFlashFiles;III[J)I"⟩ method_13_code (6) (some .int) [((0), (12), (15), (13)), ((0), (12), (19), (19))] : Cond) ∈ TT := tt6 (List.mem_of_getElem? (i := 82) rfl) rfl
theorem q6_97 : (Cond.methodLink "FlashFilesLaw" (143) ⟨"FlashFilesLaw", "byteAt", "(LFlashFiles;I[J)I"⟩ : Cond) ∈ TT := tt6 (List.mem_of_getElem? (i := 97) rfl) rfl
theorem q6_98 : (Cond.static ⟨"FlashFilesLaw", "byteAt", "(LFlashFiles;I[J)I"⟩ : Cond) ∈ TT := tt6 (List.mem_of_getElem? (i := 98) rfl) rfl
theorem q6_99 : (Cond.codeWith ⟨"FlashFilesLaw", "byteAt", "(LFlashFiles;I[J)I"⟩ method_14_code (4) (some .int) [((0), (9), (12), (13))] : Cond) ∈ TT := tt6 (List.mem_of_getElem? (i := 99) rfl) rfl
theorem q6_106 : (Cond.methodLink "FlashFilesLaw" (147) ⟨"FlashFilesLaw", "truncate", "(LFlashFiles;II)I"⟩ : Cond) ∈ TT := tt6 (List.mem_of_getElem? (i := 106) rfl) rfl
theorem q6_107 : (Cond.static ⟨"FlashFilesLaw", "truncate", "(LFlashFiles;II)I"⟩ : Cond) ∈ TT := tt6 (List.mem_of_getElem? (i := 107) rfl) rfl
theorem q6_108 : (Cond.codeWith ⟨"FlashFilesLaw", "truncate", "(LFlashFiles;II)I"⟩ method_15_code (4) (some .int) [((0), (6), (9), (13)), ((0), (6), (12), (19)), ((0), (6), (15), (25))] : Cond) ∈ TT := tt6 (List.mem_of_getElem? (i := 108) rfl) rfl
theorem q6_127 : (Cond.methodLink "FlashFilesLaw" (150) ⟨"FlashFilesLaw", "fsync", "(LFlashFiles;I[J)I"⟩ : Cond) ∈ TT := tt6 (List.mem_of_getElem? (i := 127) rfl) rfl
theorem q6_128 : (Cond.static ⟨"FlashFilesLaw", "fsync", "(LFlashFiles;I[J)I"⟩ : Cond) ∈ TT := tt6 (List.mem_of_getElem? (i := 128) rfl) rfl
theorem q6_129 : (Cond.codeWith ⟨"FlashFilesLaw", "fsync", "(LFlashFiles;I[J)I"⟩ method_16_code (4) (some .int) [((0), (9), (12), (13)), ((0), (9), (15), (19)), ((0), (9), (18), (25))] : Cond) ∈ TT := tt6 (List.mem_of_getElem? (i := 129) rfl) rfl
theorem q6_142 : (Cond.methodLink "FlashFilesLaw" (153) ⟨"FlashFilesLaw", "sync", "(LFlashFiles;[J)I"⟩ : Cond) ∈ TT := tt6 (List.mem_of_getElem? (i := 142) rfl) rfl
theorem q6_143 : (Cond.static ⟨"FlashFilesLaw", "sync", "(LFlashFiles;[J)I"⟩ : Cond) ∈ TT := tt6 (List.mem_of_getElem? (i := 143) rfl) rfl
theorem q6_144 : (Cond.codeWith ⟨"FlashFilesLaw", "sync", "(LFlashFiles;[J)I"⟩ method_17_code (3) (some .int) [((0), (8), (11), (19)), ((0), (8), (14), (25))] : Cond) ∈ TT := tt6 (List.mem_of_getElem? (i := 144) rfl) rfl
theorem q6_153 : (Cond.methodLink "FlashFilesLaw" (157) ⟨"FlashFilesLaw", "name", "(LFlashFiles;II[J)I"⟩ : Cond) ∈ TT := tt6 (List.mem_of_getElem? (i := 153) rfl) rfl
theorem q6_154 : (Cond.static ⟨"FlashFilesLaw", "name", "(LFlashFiles;II[J)I"⟩ : Cond) ∈ TT := tt6 (List.mem_of_getElem? (i := 154) rfl) rfl
theorem q6_155 : (Cond.codeWith ⟨"FlashFilesLaw", "name", "(LFlashFiles;II[J)I"⟩ method_18_code (5) (some .int) [((0), (10), (13), (13)), ((0), (10), (17), (19))] : Cond) ∈ TT := tt6 (List.mem_of_getElem? (i := 155) rfl) rfl
theorem q6_179 : (Cond.methodLink "FlashFilesLaw" (160) ⟨"FlashFilesLaw", "look", "(LFlashFiles;II[J)I"⟩ : Cond) ∈ TT := tt6 (List.mem_of_getElem? (i := 179) rfl) rfl
theorem q6_180 : (Cond.static ⟨"FlashFilesLaw", "look", "(LFlashFiles;II[J)I"⟩ : Cond) ∈ TT := tt6 (List.mem_of_getElem? (i := 180) rfl) rfl
theorem q6_181 : (Cond.codeWith ⟨"FlashFilesLaw", "look", "(LFlashFiles;II[J)I"⟩ method_19_code (5) (some .int) [((0), (10), (13), (13)), ((0), (10), (17), (19))] : Cond) ∈ TT := tt6 (List.mem_of_getElem? (i := 181) rfl) rfl
theorem q6_188 : (Cond.methodLink "FlashFilesLaw" (163) ⟨"FlashFilesLaw", "count", "(LFlashFiles;I[J)I"⟩ : Cond) ∈ TT := tt6 (List.mem_of_getElem? (i := 188) rfl) rfl
theorem q6_189 : (Cond.static ⟨"FlashFilesLaw", "count", "(LFlashFiles;I[J)I"⟩ : Cond) ∈ TT := tt6 (List.mem_of_getElem? (i := 189) rfl) rfl
theorem q6_190 : (Cond.codeWith ⟨"FlashFilesLaw", "count", "(LFlashFiles;I[J)I"⟩ method_20_code (4) (some .int) [((0), (9), (12), (13)), ((0), (9), (15), (19))] : Cond) ∈ TT := tt6 (List.mem_of_getElem? (i := 190) rfl) rfl
theorem q6_208 : (Cond.methodLink "FlashFilesLaw" (166) ⟨"FlashFilesLaw", "power", "(LFlashFiles;)I"⟩ : Cond) ∈ TT := tt6 (List.mem_of_getElem? (i := 208) rfl) rfl
theorem q6_209 : (Cond.static ⟨"FlashFilesLaw", "power", "(LFlashFiles;)I"⟩ : Cond) ∈ TT := tt6 (List.mem_of_getElem? (i := 209) rfl) rfl
theorem q6_210 : (Cond.codeWith ⟨"FlashFilesLaw", "power", "(LFlashFiles;)I"⟩ method_21_code (2) (some .int) [((0), (4), (7), (19))] : Cond) ∈ TT := tt6 (List.mem_of_getElem? (i := 210) rfl) rfl
theorem q6_215 : (Cond.methodLink "FlashFilesLaw" (170) ⟨"FlashFilesLaw", "cut", "(LFlashFiles;I)I"⟩ : Cond) ∈ TT := tt6 (List.mem_of_getElem? (i := 215) rfl) rfl
theorem q6_216 : (Cond.static ⟨"FlashFilesLaw", "cut", "(LFlashFiles;I)I"⟩ : Cond) ∈ TT := tt6 (List.mem_of_getElem? (i := 216) rfl) rfl
theorem q6_217 : (Cond.codeWith ⟨"FlashFilesLaw", "cut", "(LFlashFiles;I)I"⟩ method_22_code (3) (some .int) [((0), (5), (8), (19))] : Cond) ∈ TT := tt6 (List.mem_of_getElem? (i := 217) rfl) rfl
theorem q6_222 : (Cond.methodLink "FlashFilesLaw" (174) ⟨"FlashFilesLaw", "mount", "(LFlashFiles;[J)I"⟩ : Cond) ∈ TT := tt6 (List.mem_of_getElem? (i := 222) rfl) rfl
theorem q6_223 : (Cond.static ⟨"FlashFilesLaw", "mount", "(LFlashFiles;[J)I"⟩ : Cond) ∈ TT := tt6 (List.mem_of_getElem? (i := 223) rfl) rfl
theorem q6_224 : (Cond.codeWith ⟨"FlashFilesLaw", "mount", "(LFlashFiles;[J)I"⟩ method_23_code (3) (some .int) [((0), (8), (11), (19))] : Cond) ∈ TT := tt6 (List.mem_of_getElem? (i := 224) rfl) rfl
theorem q7_34 : (Cond.methodLink "FlashFilesLaw" (177) ⟨"FlashFilesLaw", "clean", "(LFlashFiles;)I"⟩ : Cond) ∈ TT := tt7 (List.mem_of_getElem? (i := 34) rfl) rfl
theorem q7_35 : (Cond.static ⟨"FlashFilesLaw", "clean", "(LFlashFiles;)I"⟩ : Cond) ∈ TT := tt7 (List.mem_of_getElem? (i := 35) rfl) rfl
theorem q7_36 : (Cond.codeWith ⟨"FlashFilesLaw", "clean", "(LFlashFiles;)I"⟩ method_24_code (2) (some .int) [((0), (4), (7), (19))] : Cond) ∈ TT := tt7 (List.mem_of_getElem? (i := 36) rfl) rfl
theorem q7_45 : (Cond.methodLink "FlashFilesLaw" (180) ⟨"FlashFilesLaw", "faults", "(LFlashFiles;[J)I"⟩ : Cond) ∈ TT := tt7 (List.mem_of_getElem? (i := 45) rfl) rfl
theorem q7_46 : (Cond.static ⟨"FlashFilesLaw", "faults", "(LFlashFiles;[J)I"⟩ : Cond) ∈ TT := tt7 (List.mem_of_getElem? (i := 46) rfl) rfl
theorem q7_47 : (Cond.codeWith ⟨"FlashFilesLaw", "faults", "(LFlashFiles;[J)I"⟩ method_25_code (3) (some .int) [((0), (8), (11), (19))] : Cond) ∈ TT := tt7 (List.mem_of_getElem? (i := 47) rfl) rfl
theorem q8_3 : (Cond.methodLink "FlashFilesLaw" (102) ⟨"FlashFilesModel", "thrown", "()I"⟩ : Cond) ∈ TT := tt8 (List.mem_of_getElem? (i := 3) rfl) rfl
theorem q8_4 : (Cond.instanceMethod ⟨"FlashFilesModel", "thrown", "()I"⟩ : Cond) ∈ TT := tt8 (List.mem_of_getElem? (i := 4) rfl) rfl
theorem q8_5 : (Cond.selects "FlashFilesModel" ⟨"FlashFilesModel", "thrown", "()I"⟩ ⟨"FlashFilesModel", "thrown", "()I"⟩ : Cond) ∈ TT := tt8 (List.mem_of_getElem? (i := 5) rfl) rfl
theorem q8_6 : (Cond.code ⟨"FlashFilesModel", "thrown", "()I"⟩ prog_12_method_2_code (1) (some .int) : Cond) ∈ TT := tt8 (List.mem_of_getElem? (i := 6) rfl) rfl
theorem q8_7 : (Cond.methodLink "FlashFilesLaw" (101) ⟨"FlashFilesModel", "format", "(II)V"⟩ : Cond) ∈ TT := tt8 (List.mem_of_getElem? (i := 7) rfl) rfl
theorem q8_8 : (Cond.instanceMethod ⟨"FlashFilesModel", "format", "(II)V"⟩ : Cond) ∈ TT := tt8 (List.mem_of_getElem? (i := 8) rfl) rfl
theorem q8_9 : (Cond.selects "FlashFilesModel" ⟨"FlashFilesModel", "format", "(II)V"⟩ ⟨"FlashFilesModel", "format", "(II)V"⟩ : Cond) ∈ TT := tt8 (List.mem_of_getElem? (i := 9) rfl) rfl
theorem q8_10 : (Cond.code ⟨"FlashFilesModel", "format", "(II)V"⟩ prog_12_method_18_code (4) none : Cond) ∈ TT := tt8 (List.mem_of_getElem? (i := 10) rfl) rfl
theorem q8_56 : (Cond.methodLink "FlashFilesLaw" (108) ⟨"FlashFilesModel", "feed", "(IIIII)I"⟩ : Cond) ∈ TT := tt8 (List.mem_of_getElem? (i := 56) rfl) rfl
theorem q8_57 : (Cond.instanceMethod ⟨"FlashFilesModel", "feed", "(IIIII)I"⟩ : Cond) ∈ TT := tt8 (List.mem_of_getElem? (i := 57) rfl) rfl
theorem q8_58 : (Cond.selects "FlashFilesModel" ⟨"FlashFilesModel", "feed", "(IIIII)I"⟩ ⟨"FlashFilesModel", "feed", "(IIIII)I"⟩ : Cond) ∈ TT := tt8 (List.mem_of_getElem? (i := 58) rfl) rfl
theorem q8_59 : (Cond.code ⟨"FlashFilesModel", "feed", "(IIIII)I"⟩ prog_12_method_19_code (9) (some .int) : Cond) ∈ TT := tt8 (List.mem_of_getElem? (i := 59) rfl) rfl
theorem q8_60 : (Cond.methodLink "FlashFilesLaw" (112) ⟨"FlashFilesModel", "tape", "(I)I"⟩ : Cond) ∈ TT := tt8 (List.mem_of_getElem? (i := 60) rfl) rfl
theorem q8_61 : (Cond.instanceMethod ⟨"FlashFilesModel", "tape", "(I)I"⟩ : Cond) ∈ TT := tt8 (List.mem_of_getElem? (i := 61) rfl) rfl
theorem q8_62 : (Cond.selects "FlashFilesModel" ⟨"FlashFilesModel", "tape", "(I)I"⟩ ⟨"FlashFilesModel", "tape", "(I)I"⟩ : Cond) ∈ TT := tt8 (List.mem_of_getElem? (i := 62) rfl) rfl
theorem q8_63 : (Cond.code ⟨"FlashFilesModel", "tape", "(I)I"⟩ prog_12_method_20_code (2) (some .int) : Cond) ∈ TT := tt8 (List.mem_of_getElem? (i := 63) rfl) rfl
theorem q8_64 : (Cond.methodLink "FlashFilesLaw" (116) ⟨"FlashFilesModel", "make", "(II)I"⟩ : Cond) ∈ TT := tt8 (List.mem_of_getElem? (i := 64) rfl) rfl
theorem q8_65 : (Cond.instanceMethod ⟨"FlashFilesModel", "make", "(II)I"⟩ : Cond) ∈ TT := tt8 (List.mem_of_getElem? (i := 65) rfl) rfl
theorem q8_66 : (Cond.selects "FlashFilesModel" ⟨"FlashFilesModel", "make", "(II)I"⟩ ⟨"FlashFilesModel", "make", "(II)I"⟩ : Cond) ∈ TT := tt8 (List.mem_of_getElem? (i := 66) rfl) rfl
theorem q8_67 : (Cond.code ⟨"FlashFilesModel", "make", "(II)I"⟩ prog_12_method_32_code (3) (some .int) : Cond) ∈ TT := tt8 (List.mem_of_getElem? (i := 67) rfl) rfl
theorem q8_111 : (Cond.methodLink "FlashFilesLaw" (119) ⟨"FlashFilesModel", "makeDirectory", "(II)I"⟩ : Cond) ∈ TT := tt8 (List.mem_of_getElem? (i := 111) rfl) rfl
theorem q8_112 : (Cond.instanceMethod ⟨"FlashFilesModel", "makeDirectory", "(II)I"⟩ : Cond) ∈ TT := tt8 (List.mem_of_getElem? (i := 112) rfl) rfl
theorem q8_113 : (Cond.selects "FlashFilesModel" ⟨"FlashFilesModel", "makeDirectory", "(II)I"⟩ ⟨"FlashFilesModel", "makeDirectory", "(II)I"⟩ : Cond) ∈ TT := tt8 (List.mem_of_getElem? (i := 113) rfl) rfl
theorem q8_114 : (Cond.code ⟨"FlashFilesModel", "makeDirectory", "(II)I"⟩ prog_12_method_33_code (3) (some .int) : Cond) ∈ TT := tt8 (List.mem_of_getElem? (i := 114) rfl) rfl
theorem q8_115 : (Cond.methodLink "FlashFilesLaw" (123) ⟨"FlashFilesModel", "link", "(III)I"⟩ : Cond) ∈ TT := tt8 (List.mem_of_getElem? (i := 115) rfl) rfl
theorem q8_116 : (Cond.instanceMethod ⟨"FlashFilesModel", "link", "(III)I"⟩ : Cond) ∈ TT := tt8 (List.mem_of_getElem? (i := 116) rfl) rfl
theorem q8_117 : (Cond.selects "FlashFilesModel" ⟨"FlashFilesModel", "link", "(III)I"⟩ ⟨"FlashFilesModel", "link", "(III)I"⟩ : Cond) ∈ TT := tt8 (List.mem_of_getElem? (i := 117) rfl) rfl
theorem q8_118 : (Cond.code ⟨"FlashFilesModel", "link", "(III)I"⟩ prog_12_method_34_code (6) (some .int) : Cond) ∈ TT := tt8 (List.mem_of_getElem? (i := 118) rfl) rfl
theorem q8_119 : (Cond.methodLink "FlashFilesLaw" (126) ⟨"FlashFilesModel", "unlink", "(II)I"⟩ : Cond) ∈ TT := tt8 (List.mem_of_getElem? (i := 119) rfl) rfl
theorem q8_120 : (Cond.instanceMethod ⟨"FlashFilesModel", "unlink", "(II)I"⟩ : Cond) ∈ TT := tt8 (List.mem_of_getElem? (i := 120) rfl) rfl
theorem q8_121 : (Cond.selects "FlashFilesModel" ⟨"FlashFilesModel", "unlink", "(II)I"⟩ ⟨"FlashFilesModel", "unlink", "(II)I"⟩ : Cond) ∈ TT := tt8 (List.mem_of_getElem? (i := 121) rfl) rfl
theorem q8_122 : (Cond.code ⟨"FlashFilesModel", "unlink", "(II)I"⟩ prog_12_method_36_code (6) (some .int) : Cond) ∈ TT := tt8 (List.mem_of_getElem? (i := 122) rfl) rfl
theorem q8_131 : (Cond.methodLink "FlashFilesLaw" (129) ⟨"FlashFilesModel", "removeDirectory", "(II)V"⟩ : Cond) ∈ TT := tt8 (List.mem_of_getElem? (i := 131) rfl) rfl
theorem q8_132 : (Cond.instanceMethod ⟨"FlashFilesModel", "removeDirectory", "(II)V"⟩ : Cond) ∈ TT := tt8 (List.mem_of_getElem? (i := 132) rfl) rfl
theorem q8_133 : (Cond.selects "FlashFilesModel" ⟨"FlashFilesModel", "removeDirectory", "(II)V"⟩ ⟨"FlashFilesModel", "removeDirectory", "(II)V"⟩ : Cond) ∈ TT := tt8 (List.mem_of_getElem? (i := 133) rfl) rfl
theorem q8_134 : (Cond.code ⟨"FlashFilesModel", "removeDirectory", "(II)V"⟩ prog_12_method_37_code (5) none : Cond) ∈ TT := tt8 (List.mem_of_getElem? (i := 134) rfl) rfl
theorem q8_135 : (Cond.methodLink "FlashFilesLaw" (133) ⟨"FlashFilesModel", "rename", "(IIII)V"⟩ : Cond) ∈ TT := tt8 (List.mem_of_getElem? (i := 135) rfl) rfl
theorem q8_136 : (Cond.instanceMethod ⟨"FlashFilesModel", "rename", "(IIII)V"⟩ : Cond) ∈ TT := tt8 (List.mem_of_getElem? (i := 136) rfl) rfl
theorem q8_137 : (Cond.selects "FlashFilesModel" ⟨"FlashFilesModel", "rename", "(IIII)V"⟩ ⟨"FlashFilesModel", "rename", "(IIII)V"⟩ : Cond) ∈ TT := tt8 (List.mem_of_getElem? (i := 137) rfl) rfl
theorem q8_138 : (Cond.code ⟨"FlashFilesModel", "rename", "(IIII)V"⟩ prog_12_method_40_code (11) none : Cond) ∈ TT := tt8 (List.mem_of_getElem? (i := 138) rfl) rfl
theorem q8_147 : (Cond.methodLink "FlashFilesLaw" (136) ⟨"FlashFilesModel", "find", "(II)I"⟩ : Cond) ∈ TT := tt8 (List.mem_of_getElem? (i := 147) rfl) rfl
theorem q8_148 : (Cond.instanceMethod ⟨"FlashFilesModel", "find", "(II)I"⟩ : Cond) ∈ TT := tt8 (List.mem_of_getElem? (i := 148) rfl) rfl
theorem q8_149 : (Cond.selects "FlashFilesModel" ⟨"FlashFilesModel", "find", "(II)I"⟩ ⟨"FlashFilesModel", "find", "(II)I"⟩ : Cond) ∈ TT := tt8 (List.mem_of_getElem? (i := 149) rfl) rfl
theorem q8_150 : (Cond.code ⟨"FlashFilesModel", "find", "(II)I"⟩ prog_12_method_41_code (5) (some .int) : Cond) ∈ TT := tt8 (List.mem_of_getElem? (i := 150) rfl) rfl
theorem q8_151 : (Cond.methodLink "FlashFilesLaw" (159) ⟨"FlashFilesModel", "name", "(II)I"⟩ : Cond) ∈ TT := tt8 (List.mem_of_getElem? (i := 151) rfl) rfl
theorem q8_152 : (Cond.instanceMethod ⟨"FlashFilesModel", "name", "(II)I"⟩ : Cond) ∈ TT := tt8 (List.mem_of_getElem? (i := 152) rfl) rfl
theorem q8_153 : (Cond.selects "FlashFilesModel" ⟨"FlashFilesModel", "name", "(II)I"⟩ ⟨"FlashFilesModel", "name", "(II)I"⟩ : Cond) ∈ TT := tt8 (List.mem_of_getElem? (i := 153) rfl) rfl
theorem q8_154 : (Cond.code ⟨"FlashFilesModel", "name", "(II)I"⟩ prog_12_method_43_code (6) (some .int) : Cond) ∈ TT := tt8 (List.mem_of_getElem? (i := 154) rfl) rfl
theorem q8_159 : (Cond.methodLink "FlashFilesLaw" (139) ⟨"FlashFilesModel", "write", "(III)I"⟩ : Cond) ∈ TT := tt8 (List.mem_of_getElem? (i := 159) rfl) rfl
theorem q8_160 : (Cond.instanceMethod ⟨"FlashFilesModel", "write", "(III)I"⟩ : Cond) ∈ TT := tt8 (List.mem_of_getElem? (i := 160) rfl) rfl
theorem q8_161 : (Cond.selects "FlashFilesModel" ⟨"FlashFilesModel", "write", "(III)I"⟩ ⟨"FlashFilesModel", "write", "(III)I"⟩ : Cond) ∈ TT := tt8 (List.mem_of_getElem? (i := 161) rfl) rfl
theorem q8_162 : (Cond.code ⟨"FlashFilesModel", "write", "(III)I"⟩ prog_12_method_45_code (7) (some .int) : Cond) ∈ TT := tt8 (List.mem_of_getElem? (i := 162) rfl) rfl
theorem q8_176 : (Cond.methodLink "FlashFilesLaw" (142) ⟨"FlashFilesModel", "read", "(III)I"⟩ : Cond) ∈ TT := tt8 (List.mem_of_getElem? (i := 176) rfl) rfl
theorem q8_177 : (Cond.instanceMethod ⟨"FlashFilesModel", "read", "(III)I"⟩ : Cond) ∈ TT := tt8 (List.mem_of_getElem? (i := 177) rfl) rfl
theorem q8_178 : (Cond.selects "FlashFilesModel" ⟨"FlashFilesModel", "read", "(III)I"⟩ ⟨"FlashFilesModel", "read", "(III)I"⟩ : Cond) ∈ TT := tt8 (List.mem_of_getElem? (i := 178) rfl) rfl
theorem q8_179 : (Cond.code ⟨"FlashFilesModel", "read", "(III)I"⟩ prog_12_method_46_code (6) (some .int) : Cond) ∈ TT := tt8 (List.mem_of_getElem? (i := 179) rfl) rfl
theorem q8_180 : (Cond.methodLink "FlashFilesLaw" (146) ⟨"FlashFilesModel", "byteAt", "(I)I"⟩ : Cond) ∈ TT := tt8 (List.mem_of_getElem? (i := 180) rfl) rfl
theorem q8_181 : (Cond.instanceMethod ⟨"FlashFilesModel", "byteAt", "(I)I"⟩ : Cond) ∈ TT := tt8 (List.mem_of_getElem? (i := 181) rfl) rfl
theorem q8_182 : (Cond.selects "FlashFilesModel" ⟨"FlashFilesModel", "byteAt", "(I)I"⟩ ⟨"FlashFilesModel", "byteAt", "(I)I"⟩ : Cond) ∈ TT := tt8 (List.mem_of_getElem? (i := 182) rfl) rfl
theorem q8_183 : (Cond.code ⟨"FlashFilesModel", "byteAt", "(I)I"⟩ prog_12_method_47_code (2) (some .int) : Cond) ∈ TT := tt8 (List.mem_of_getElem? (i := 183) rfl) rfl
theorem q8_184 : (Cond.methodLink "FlashFilesLaw" (149) ⟨"FlashFilesModel", "truncate", "(II)V"⟩ : Cond) ∈ TT := tt8 (List.mem_of_getElem? (i := 184) rfl) rfl
theorem q8_185 : (Cond.instanceMethod ⟨"FlashFilesModel", "truncate", "(II)V"⟩ : Cond) ∈ TT := tt8 (List.mem_of_getElem? (i := 185) rfl) rfl
theorem q8_186 : (Cond.selects "FlashFilesModel" ⟨"FlashFilesModel", "truncate", "(II)V"⟩ ⟨"FlashFilesModel", "truncate", "(II)V"⟩ : Cond) ∈ TT := tt8 (List.mem_of_getElem? (i := 186) rfl) rfl
theorem q8_187 : (Cond.code ⟨"FlashFilesModel", "truncate", "(II)V"⟩ prog_12_method_48_code (6) none : Cond) ∈ TT := tt8 (List.mem_of_getElem? (i := 187) rfl) rfl
theorem q8_188 : (Cond.methodLink "FlashFilesLaw" (152) ⟨"FlashFilesModel", "fsync", "(I)I"⟩ : Cond) ∈ TT := tt8 (List.mem_of_getElem? (i := 188) rfl) rfl
theorem q8_189 : (Cond.instanceMethod ⟨"FlashFilesModel", "fsync", "(I)I"⟩ : Cond) ∈ TT := tt8 (List.mem_of_getElem? (i := 189) rfl) rfl
theorem q8_190 : (Cond.selects "FlashFilesModel" ⟨"FlashFilesModel", "fsync", "(I)I"⟩ ⟨"FlashFilesModel", "fsync", "(I)I"⟩ : Cond) ∈ TT := tt8 (List.mem_of_getElem? (i := 190) rfl) rfl
theorem q8_191 : (Cond.code ⟨"FlashFilesModel", "fsync", "(I)I"⟩ prog_12_method_49_code (2) (some .int) : Cond) ∈ TT := tt8 (List.mem_of_getElem? (i := 191) rfl) rfl
theorem q8_192 : (Cond.methodLink "FlashFilesLaw" (156) ⟨"FlashFilesModel", "sync", "()I"⟩ : Cond) ∈ TT := tt8 (List.mem_of_getElem? (i := 192) rfl) rfl
theorem q8_193 : (Cond.instanceMethod ⟨"FlashFilesModel", "sync", "()I"⟩ : Cond) ∈ TT := tt8 (List.mem_of_getElem? (i := 193) rfl) rfl
theorem q8_194 : (Cond.selects "FlashFilesModel" ⟨"FlashFilesModel", "sync", "()I"⟩ ⟨"FlashFilesModel", "sync", "()I"⟩ : Cond) ∈ TT := tt8 (List.mem_of_getElem? (i := 194) rfl) rfl
theorem q8_195 : (Cond.code ⟨"FlashFilesModel", "sync", "()I"⟩ prog_12_method_50_code (1) (some .int) : Cond) ∈ TT := tt8 (List.mem_of_getElem? (i := 195) rfl) rfl
theorem q8_196 : (Cond.methodLink "FlashFilesLaw" (162) ⟨"FlashFilesModel", "look", "(II)I"⟩ : Cond) ∈ TT := tt8 (List.mem_of_getElem? (i := 196) rfl) rfl
theorem q8_197 : (Cond.instanceMethod ⟨"FlashFilesModel", "look", "(II)I"⟩ : Cond) ∈ TT := tt8 (List.mem_of_getElem? (i := 197) rfl) rfl
theorem q8_198 : (Cond.selects "FlashFilesModel" ⟨"FlashFilesModel", "look", "(II)I"⟩ ⟨"FlashFilesModel", "look", "(II)I"⟩ : Cond) ∈ TT := tt8 (List.mem_of_getElem? (i := 198) rfl) rfl
theorem q8_199 : (Cond.code ⟨"FlashFilesModel", "look", "(II)I"⟩ prog_12_method_51_code (4) (some .int) : Cond) ∈ TT := tt8 (List.mem_of_getElem? (i := 199) rfl) rfl
theorem q8_200 : (Cond.methodLink "FlashFilesLaw" (165) ⟨"FlashFilesModel", "count", "(I)I"⟩ : Cond) ∈ TT := tt8 (List.mem_of_getElem? (i := 200) rfl) rfl
theorem q8_201 : (Cond.instanceMethod ⟨"FlashFilesModel", "count", "(I)I"⟩ : Cond) ∈ TT := tt8 (List.mem_of_getElem? (i := 201) rfl) rfl
theorem q8_202 : (Cond.selects "FlashFilesModel" ⟨"FlashFilesModel", "count", "(I)I"⟩ ⟨"FlashFilesModel", "count", "(I)I"⟩ : Cond) ∈ TT := tt8 (List.mem_of_getElem? (i := 202) rfl) rfl
theorem q8_203 : (Cond.code ⟨"FlashFilesModel", "count", "(I)I"⟩ prog_12_method_53_code (2) (some .int) : Cond) ∈ TT := tt8 (List.mem_of_getElem? (i := 203) rfl) rfl
theorem q8_208 : (Cond.methodLink "FlashFilesLaw" (169) ⟨"FlashFilesModel", "power", "()V"⟩ : Cond) ∈ TT := tt8 (List.mem_of_getElem? (i := 208) rfl) rfl
theorem q8_209 : (Cond.instanceMethod ⟨"FlashFilesModel", "power", "()V"⟩ : Cond) ∈ TT := tt8 (List.mem_of_getElem? (i := 209) rfl) rfl
theorem q8_210 : (Cond.selects "FlashFilesModel" ⟨"FlashFilesModel", "power", "()V"⟩ ⟨"FlashFilesModel", "power", "()V"⟩ : Cond) ∈ TT := tt8 (List.mem_of_getElem? (i := 210) rfl) rfl
theorem q8_211 : (Cond.code ⟨"FlashFilesModel", "power", "()V"⟩ prog_12_method_54_code (1) none : Cond) ∈ TT := tt8 (List.mem_of_getElem? (i := 211) rfl) rfl
theorem q8_212 : (Cond.methodLink "FlashFilesLaw" (173) ⟨"FlashFilesModel", "cut", "(I)V"⟩ : Cond) ∈ TT := tt8 (List.mem_of_getElem? (i := 212) rfl) rfl
theorem q8_213 : (Cond.instanceMethod ⟨"FlashFilesModel", "cut", "(I)V"⟩ : Cond) ∈ TT := tt8 (List.mem_of_getElem? (i := 213) rfl) rfl
theorem q8_214 : (Cond.selects "FlashFilesModel" ⟨"FlashFilesModel", "cut", "(I)V"⟩ ⟨"FlashFilesModel", "cut", "(I)V"⟩ : Cond) ∈ TT := tt8 (List.mem_of_getElem? (i := 214) rfl) rfl
theorem q8_215 : (Cond.code ⟨"FlashFilesModel", "cut", "(I)V"⟩ prog_12_method_55_code (2) none : Cond) ∈ TT := tt8 (List.mem_of_getElem? (i := 215) rfl) rfl
theorem q8_216 : (Cond.methodLink "FlashFilesLaw" (176) ⟨"FlashFilesModel", "mount", "()I"⟩ : Cond) ∈ TT := tt8 (List.mem_of_getElem? (i := 216) rfl) rfl
theorem q8_217 : (Cond.instanceMethod ⟨"FlashFilesModel", "mount", "()I"⟩ : Cond) ∈ TT := tt8 (List.mem_of_getElem? (i := 217) rfl) rfl
theorem q8_218 : (Cond.selects "FlashFilesModel" ⟨"FlashFilesModel", "mount", "()I"⟩ ⟨"FlashFilesModel", "mount", "()I"⟩ : Cond) ∈ TT := tt8 (List.mem_of_getElem? (i := 218) rfl) rfl
theorem q8_219 : (Cond.code ⟨"FlashFilesModel", "mount", "()I"⟩ prog_12_method_56_code (3) (some .int) : Cond) ∈ TT := tt8 (List.mem_of_getElem? (i := 219) rfl) rfl
theorem q8_220 : (Cond.methodLink "FlashFilesLaw" (179) ⟨"FlashFilesModel", "clean", "()V"⟩ : Cond) ∈ TT := tt8 (List.mem_of_getElem? (i := 220) rfl) rfl
theorem q8_221 : (Cond.instanceMethod ⟨"FlashFilesModel", "clean", "()V"⟩ : Cond) ∈ TT := tt8 (List.mem_of_getElem? (i := 221) rfl) rfl
theorem q8_222 : (Cond.selects "FlashFilesModel" ⟨"FlashFilesModel", "clean", "()V"⟩ ⟨"FlashFilesModel", "clean", "()V"⟩ : Cond) ∈ TT := tt8 (List.mem_of_getElem? (i := 222) rfl) rfl
theorem q8_223 : (Cond.code ⟨"FlashFilesModel", "clean", "()V"⟩ prog_12_method_57_code (1) none : Cond) ∈ TT := tt8 (List.mem_of_getElem? (i := 223) rfl) rfl
theorem q8_224 : (Cond.methodLink "FlashFilesLaw" (182) ⟨"FlashFilesModel", "faults", "()I"⟩ : Cond) ∈ TT := tt8 (List.mem_of_getElem? (i := 224) rfl) rfl
theorem q8_225 : (Cond.instanceMethod ⟨"FlashFilesModel", "faults", "()I"⟩ : Cond) ∈ TT := tt8 (List.mem_of_getElem? (i := 225) rfl) rfl
theorem q8_226 : (Cond.selects "FlashFilesModel" ⟨"FlashFilesModel", "faults", "()I"⟩ ⟨"FlashFilesModel", "faults", "()I"⟩ : Cond) ∈ TT := tt8 (List.mem_of_getElem? (i := 226) rfl) rfl
theorem q8_227 : (Cond.code ⟨"FlashFilesModel", "faults", "()I"⟩ prog_12_method_58_code (1) (some .int) : Cond) ∈ TT := tt8 (List.mem_of_getElem? (i := 227) rfl) rfl
theorem d_law_0 : decode code 0 = .ok (.new 8, 3) := by decide +kernel
theorem d_law_3 : decode code 3 = .ok (.dup, 1) := by decide +kernel
theorem d_law_4 : decode code 4 = .ok (.invokespecial 92, 3) := by decide +kernel
theorem d_law_7 : decode code 7 = .ok (.astore_n 1, 1) := by decide +kernel
theorem d_law_8 : decode code 8 = .ok (.new 93, 3) := by decide +kernel
theorem d_law_11 : decode code 11 = .ok (.dup, 1) := by decide +kernel
theorem d_law_12 : decode code 12 = .ok (.invokespecial 95, 3) := by decide +kernel
theorem d_law_15 : decode code 15 = .ok (.astore_n 2, 1) := by decide +kernel
theorem d_law_16 : decode code 16 = .ok (.iconst 1, 1) := by decide +kernel
theorem d_law_17 : decode code 17 = .ok (.newarray .long, 2) := by decide +kernel
theorem d_law_19 : decode code 19 = .ok (.astore_n 3, 1) := by decide +kernel
theorem d_law_20 : decode code 20 = .ok (.iconst 0, 1) := by decide +kernel
theorem d_law_21 : decode code 21 = .ok (.istore 4, 2) := by decide +kernel
theorem d_law_23 : decode code 23 = .ok (.iload 4, 2) := by decide +kernel
theorem d_law_25 : decode code 25 = .ok (.aload_n 0, 1) := by decide +kernel
theorem d_law_26 : decode code 26 = .ok (.arraylength, 1) := by decide +kernel
theorem d_law_27 : decode code 27 = .ok (.bipush 6, 2) := by decide +kernel
theorem d_law_29 : decode code 29 = .ok (.isub, 1) := by decide +kernel
theorem d_law_30 : decode code 30 = .ok (.if_icmp .gt 1505, 3) := by decide +kernel
theorem d_law_33 : decode code 33 = .ok (.aload_n 0, 1) := by decide +kernel
theorem d_law_34 : decode code 34 = .ok (.iload 4, 2) := by decide +kernel
theorem d_law_36 : decode code 36 = .ok (.iaload, 1) := by decide +kernel
theorem d_law_37 : decode code 37 = .ok (.bipush 31, 2) := by decide +kernel
theorem d_law_39 : decode code 39 = .ok (.iand, 1) := by decide +kernel
theorem d_law_40 : decode code 40 = .ok (.tableswitch 1489 0 23 #[112, 160, 264, 289, 357, 425, 505, 573, 621, 693, 761, 841, 921, 977, 1025, 1081, 1125, 1193, 1261, 1317, 1341, 1377, 1421, 1445], 112) := by decide +kernel
theorem d_law_152 : decode code 152 = .ok (.aload_n 1, 1) := by decide +kernel
theorem d_law_153 : decode code 153 = .ok (.aload_n 0, 1) := by decide +kernel
theorem d_law_154 : decode code 154 = .ok (.iload 4, 2) := by decide +kernel
theorem d_law_156 : decode code 156 = .ok (.iconst 1, 1) := by decide +kernel
theorem d_law_157 : decode code 157 = .ok (.iadd, 1) := by decide +kernel
theorem d_law_158 : decode code 158 = .ok (.iaload, 1) := by decide +kernel
theorem d_law_159 : decode code 159 = .ok (.aload_n 0, 1) := by decide +kernel
theorem d_law_160 : decode code 160 = .ok (.iload 4, 2) := by decide +kernel
theorem d_law_162 : decode code 162 = .ok (.iconst 2, 1) := by decide +kernel
theorem d_law_163 : decode code 163 = .ok (.iadd, 1) := by decide +kernel
theorem d_law_164 : decode code 164 = .ok (.iaload, 1) := by decide +kernel
theorem d_law_165 : decode code 165 = .ok (.invokestatic 96, 3) := by decide +kernel
theorem d_law_168 : decode code 168 = .ok (.istore 5, 2) := by decide +kernel
theorem d_law_170 : decode code 170 = .ok (.aload_n 2, 1) := by decide +kernel
theorem d_law_171 : decode code 171 = .ok (.aload_n 0, 1) := by decide +kernel
theorem d_law_172 : decode code 172 = .ok (.iload 4, 2) := by decide +kernel
theorem d_law_174 : decode code 174 = .ok (.iconst 1, 1) := by decide +kernel
theorem d_law_175 : decode code 175 = .ok (.iadd, 1) := by decide +kernel
theorem d_law_176 : decode code 176 = .ok (.iaload, 1) := by decide +kernel
theorem d_law_177 : decode code 177 = .ok (.aload_n 0, 1) := by decide +kernel
theorem d_law_178 : decode code 178 = .ok (.iload 4, 2) := by decide +kernel
theorem d_law_180 : decode code 180 = .ok (.iconst 2, 1) := by decide +kernel
theorem d_law_181 : decode code 181 = .ok (.iadd, 1) := by decide +kernel
theorem d_law_182 : decode code 182 = .ok (.iaload, 1) := by decide +kernel
theorem d_law_183 : decode code 183 = .ok (.invokevirtual 101, 3) := by decide +kernel
theorem d_law_186 : decode code 186 = .ok (.aload_n 2, 1) := by decide +kernel
theorem d_law_187 : decode code 187 = .ok (.invokevirtual 102, 3) := by decide +kernel
theorem d_law_190 : decode code 190 = .ok (.iload 5, 2) := by decide +kernel
theorem d_law_192 : decode code 192 = .ok (.if_icmp .eq 5, 3) := by decide +kernel
theorem d_law_195 : decode code 195 = .ok (.iconst 0, 1) := by decide +kernel
theorem d_law_196 : decode code 196 = .ok (.ireturn, 1) := by decide +kernel
theorem d_law_197 : decode code 197 = .ok (.goto 1332, 3) := by decide +kernel
theorem d_law_200 : decode code 200 = .ok (.aload_n 1, 1) := by decide +kernel
theorem d_law_201 : decode code 201 = .ok (.aload_n 0, 1) := by decide +kernel
theorem d_law_202 : decode code 202 = .ok (.iload 4, 2) := by decide +kernel
theorem d_law_204 : decode code 204 = .ok (.iconst 1, 1) := by decide +kernel
theorem d_law_205 : decode code 205 = .ok (.iadd, 1) := by decide +kernel
theorem d_law_206 : decode code 206 = .ok (.iaload, 1) := by decide +kernel
theorem d_law_207 : decode code 207 = .ok (.aload_n 0, 1) := by decide +kernel
theorem d_law_208 : decode code 208 = .ok (.iload 4, 2) := by decide +kernel
theorem d_law_210 : decode code 210 = .ok (.iconst 2, 1) := by decide +kernel
theorem d_law_211 : decode code 211 = .ok (.iadd, 1) := by decide +kernel
theorem d_law_212 : decode code 212 = .ok (.iaload, 1) := by decide +kernel
theorem d_law_213 : decode code 213 = .ok (.aload_n 0, 1) := by decide +kernel
theorem d_law_214 : decode code 214 = .ok (.iload 4, 2) := by decide +kernel
theorem d_law_216 : decode code 216 = .ok (.iconst 3, 1) := by decide +kernel
theorem d_law_217 : decode code 217 = .ok (.iadd, 1) := by decide +kernel
theorem d_law_218 : decode code 218 = .ok (.iaload, 1) := by decide +kernel
theorem d_law_219 : decode code 219 = .ok (.aload_n 0, 1) := by decide +kernel
theorem d_law_220 : decode code 220 = .ok (.iload 4, 2) := by decide +kernel
theorem d_law_222 : decode code 222 = .ok (.iconst 4, 1) := by decide +kernel
theorem d_law_223 : decode code 223 = .ok (.iadd, 1) := by decide +kernel
theorem d_law_224 : decode code 224 = .ok (.iaload, 1) := by decide +kernel
theorem d_law_225 : decode code 225 = .ok (.aload_n 0, 1) := by decide +kernel
theorem d_law_226 : decode code 226 = .ok (.iload 4, 2) := by decide +kernel
theorem d_law_228 : decode code 228 = .ok (.iconst 5, 1) := by decide +kernel
theorem d_law_229 : decode code 229 = .ok (.iadd, 1) := by decide +kernel
theorem d_law_230 : decode code 230 = .ok (.iaload, 1) := by decide +kernel
theorem d_law_231 : decode code 231 = .ok (.aload_n 3, 1) := by decide +kernel
theorem d_law_232 : decode code 232 = .ok (.invokestatic 105, 3) := by decide +kernel
theorem d_law_235 : decode code 235 = .ok (.istore 5, 2) := by decide +kernel
theorem d_law_237 : decode code 237 = .ok (.aload_n 2, 1) := by decide +kernel
theorem d_law_238 : decode code 238 = .ok (.aload_n 0, 1) := by decide +kernel
theorem d_law_239 : decode code 239 = .ok (.iload 4, 2) := by decide +kernel
theorem d_law_241 : decode code 241 = .ok (.iconst 1, 1) := by decide +kernel
theorem d_law_242 : decode code 242 = .ok (.iadd, 1) := by decide +kernel
theorem d_law_243 : decode code 243 = .ok (.iaload, 1) := by decide +kernel
theorem d_law_244 : decode code 244 = .ok (.aload_n 0, 1) := by decide +kernel
theorem d_law_245 : decode code 245 = .ok (.iload 4, 2) := by decide +kernel
theorem d_law_247 : decode code 247 = .ok (.iconst 2, 1) := by decide +kernel
theorem d_law_248 : decode code 248 = .ok (.iadd, 1) := by decide +kernel
theorem d_law_249 : decode code 249 = .ok (.iaload, 1) := by decide +kernel
theorem d_law_250 : decode code 250 = .ok (.aload_n 0, 1) := by decide +kernel
theorem d_law_251 : decode code 251 = .ok (.iload 4, 2) := by decide +kernel
theorem d_law_253 : decode code 253 = .ok (.iconst 3, 1) := by decide +kernel
theorem d_law_254 : decode code 254 = .ok (.iadd, 1) := by decide +kernel
theorem d_law_255 : decode code 255 = .ok (.iaload, 1) := by decide +kernel
theorem d_law_256 : decode code 256 = .ok (.aload_n 0, 1) := by decide +kernel
theorem d_law_257 : decode code 257 = .ok (.iload 4, 2) := by decide +kernel
theorem d_law_259 : decode code 259 = .ok (.iconst 4, 1) := by decide +kernel
theorem d_law_260 : decode code 260 = .ok (.iadd, 1) := by decide +kernel
theorem d_law_261 : decode code 261 = .ok (.iaload, 1) := by decide +kernel
theorem d_law_262 : decode code 262 = .ok (.aload_n 0, 1) := by decide +kernel
theorem d_law_263 : decode code 263 = .ok (.iload 4, 2) := by decide +kernel
theorem d_law_265 : decode code 265 = .ok (.iconst 5, 1) := by decide +kernel
theorem d_law_266 : decode code 266 = .ok (.iadd, 1) := by decide +kernel
theorem d_law_267 : decode code 267 = .ok (.iaload, 1) := by decide +kernel
theorem d_law_268 : decode code 268 = .ok (.invokevirtual 108, 3) := by decide +kernel
theorem d_law_271 : decode code 271 = .ok (.istore 6, 2) := by decide +kernel
theorem d_law_273 : decode code 273 = .ok (.aload_n 2, 1) := by decide +kernel
theorem d_law_274 : decode code 274 = .ok (.invokevirtual 102, 3) := by decide +kernel
theorem d_law_277 : decode code 277 = .ok (.iload 5, 2) := by decide +kernel
theorem d_law_279 : decode code 279 = .ok (.if_icmp .eq 5, 3) := by decide +kernel
theorem d_law_282 : decode code 282 = .ok (.iconst 0, 1) := by decide +kernel
theorem d_law_283 : decode code 283 = .ok (.ireturn, 1) := by decide +kernel
theorem d_law_284 : decode code 284 = .ok (.iload 5, 2) := by decide +kernel
theorem d_law_286 : decode code 286 = .ok (.ifCond .ne 15, 3) := by decide +kernel
theorem d_law_289 : decode code 289 = .ok (.aload_n 3, 1) := by decide +kernel
theorem d_law_290 : decode code 290 = .ok (.iconst 0, 1) := by decide +kernel
theorem d_law_291 : decode code 291 = .ok (.laload, 1) := by decide +kernel
theorem d_law_292 : decode code 292 = .ok (.iload 6, 2) := by decide +kernel
theorem d_law_294 : decode code 294 = .ok (.i2l, 1) := by decide +kernel
theorem d_law_295 : decode code 295 = .ok (.lcmp, 1) := by decide +kernel
theorem d_law_296 : decode code 296 = .ok (.ifCond .eq 5, 3) := by decide +kernel
theorem d_law_299 : decode code 299 = .ok (.iconst 0, 1) := by decide +kernel
theorem d_law_300 : decode code 300 = .ok (.ireturn, 1) := by decide +kernel
theorem d_law_301 : decode code 301 = .ok (.goto 1228, 3) := by decide +kernel
theorem d_law_304 : decode code 304 = .ok (.aload_n 1, 1) := by decide +kernel
theorem d_law_305 : decode code 305 = .ok (.aload_n 0, 1) := by decide +kernel
theorem d_law_306 : decode code 306 = .ok (.iload 4, 2) := by decide +kernel
theorem d_law_308 : decode code 308 = .ok (.iconst 1, 1) := by decide +kernel
theorem d_law_309 : decode code 309 = .ok (.iadd, 1) := by decide +kernel
theorem d_law_310 : decode code 310 = .ok (.iaload, 1) := by decide +kernel
theorem d_law_311 : decode code 311 = .ok (.invokevirtual 109, 3) := by decide +kernel
theorem d_law_314 : decode code 314 = .ok (.aload_n 2, 1) := by decide +kernel
theorem d_law_315 : decode code 315 = .ok (.aload_n 0, 1) := by decide +kernel
theorem d_law_316 : decode code 316 = .ok (.iload 4, 2) := by decide +kernel
theorem d_law_318 : decode code 318 = .ok (.iconst 1, 1) := by decide +kernel
theorem d_law_319 : decode code 319 = .ok (.iadd, 1) := by decide +kernel
theorem d_law_320 : decode code 320 = .ok (.iaload, 1) := by decide +kernel
theorem d_law_321 : decode code 321 = .ok (.invokevirtual 112, 3) := by decide +kernel
theorem d_law_324 : decode code 324 = .ok (.if_icmp .eq 1205, 3) := by decide +kernel
theorem d_law_327 : decode code 327 = .ok (.iconst 0, 1) := by decide +kernel
theorem d_law_328 : decode code 328 = .ok (.ireturn, 1) := by decide +kernel
theorem d_law_329 : decode code 329 = .ok (.aload_n 1, 1) := by decide +kernel
theorem d_law_330 : decode code 330 = .ok (.aload_n 0, 1) := by decide +kernel
theorem d_law_331 : decode code 331 = .ok (.iload 4, 2) := by decide +kernel
theorem d_law_333 : decode code 333 = .ok (.iconst 1, 1) := by decide +kernel
theorem d_law_334 : decode code 334 = .ok (.iadd, 1) := by decide +kernel
theorem d_law_335 : decode code 335 = .ok (.iaload, 1) := by decide +kernel
theorem d_law_336 : decode code 336 = .ok (.aload_n 0, 1) := by decide +kernel
theorem d_law_337 : decode code 337 = .ok (.iload 4, 2) := by decide +kernel
theorem d_law_339 : decode code 339 = .ok (.iconst 2, 1) := by decide +kernel
theorem d_law_340 : decode code 340 = .ok (.iadd, 1) := by decide +kernel
theorem d_law_341 : decode code 341 = .ok (.iaload, 1) := by decide +kernel
theorem d_law_342 : decode code 342 = .ok (.aload_n 3, 1) := by decide +kernel
theorem d_law_343 : decode code 343 = .ok (.invokestatic 113, 3) := by decide +kernel
theorem d_law_346 : decode code 346 = .ok (.istore 5, 2) := by decide +kernel
theorem d_law_348 : decode code 348 = .ok (.aload_n 2, 1) := by decide +kernel
theorem d_law_349 : decode code 349 = .ok (.aload_n 0, 1) := by decide +kernel
theorem d_law_350 : decode code 350 = .ok (.iload 4, 2) := by decide +kernel
theorem d_law_352 : decode code 352 = .ok (.iconst 1, 1) := by decide +kernel
theorem d_law_353 : decode code 353 = .ok (.iadd, 1) := by decide +kernel
theorem d_law_354 : decode code 354 = .ok (.iaload, 1) := by decide +kernel
theorem d_law_355 : decode code 355 = .ok (.aload_n 0, 1) := by decide +kernel
theorem d_law_356 : decode code 356 = .ok (.iload 4, 2) := by decide +kernel
theorem d_law_358 : decode code 358 = .ok (.iconst 2, 1) := by decide +kernel
theorem d_law_359 : decode code 359 = .ok (.iadd, 1) := by decide +kernel
theorem d_law_360 : decode code 360 = .ok (.iaload, 1) := by decide +kernel
theorem d_law_361 : decode code 361 = .ok (.invokevirtual 116, 3) := by decide +kernel
theorem d_law_364 : decode code 364 = .ok (.istore 6, 2) := by decide +kernel
theorem d_law_366 : decode code 366 = .ok (.aload_n 2, 1) := by decide +kernel
theorem d_law_367 : decode code 367 = .ok (.invokevirtual 102, 3) := by decide +kernel
theorem d_law_370 : decode code 370 = .ok (.iload 5, 2) := by decide +kernel
theorem d_law_372 : decode code 372 = .ok (.if_icmp .eq 5, 3) := by decide +kernel
theorem d_law_375 : decode code 375 = .ok (.iconst 0, 1) := by decide +kernel
theorem d_law_376 : decode code 376 = .ok (.ireturn, 1) := by decide +kernel
theorem d_law_377 : decode code 377 = .ok (.iload 5, 2) := by decide +kernel
theorem d_law_379 : decode code 379 = .ok (.ifCond .ne 15, 3) := by decide +kernel
theorem d_law_382 : decode code 382 = .ok (.aload_n 3, 1) := by decide +kernel
theorem d_law_383 : decode code 383 = .ok (.iconst 0, 1) := by decide +kernel
theorem d_law_384 : decode code 384 = .ok (.laload, 1) := by decide +kernel
theorem d_law_385 : decode code 385 = .ok (.iload 6, 2) := by decide +kernel
theorem d_law_387 : decode code 387 = .ok (.i2l, 1) := by decide +kernel
theorem d_law_388 : decode code 388 = .ok (.lcmp, 1) := by decide +kernel
theorem d_law_389 : decode code 389 = .ok (.ifCond .eq 5, 3) := by decide +kernel
theorem d_law_392 : decode code 392 = .ok (.iconst 0, 1) := by decide +kernel
theorem d_law_393 : decode code 393 = .ok (.ireturn, 1) := by decide +kernel
theorem d_law_394 : decode code 394 = .ok (.goto 1135, 3) := by decide +kernel
theorem d_law_397 : decode code 397 = .ok (.aload_n 1, 1) := by decide +kernel
theorem d_law_398 : decode code 398 = .ok (.aload_n 0, 1) := by decide +kernel
theorem d_law_399 : decode code 399 = .ok (.iload 4, 2) := by decide +kernel
theorem d_law_401 : decode code 401 = .ok (.iconst 1, 1) := by decide +kernel
theorem d_law_402 : decode code 402 = .ok (.iadd, 1) := by decide +kernel
theorem d_law_403 : decode code 403 = .ok (.iaload, 1) := by decide +kernel
theorem d_law_404 : decode code 404 = .ok (.aload_n 0, 1) := by decide +kernel
theorem d_law_405 : decode code 405 = .ok (.iload 4, 2) := by decide +kernel
theorem d_law_407 : decode code 407 = .ok (.iconst 2, 1) := by decide +kernel
theorem d_law_408 : decode code 408 = .ok (.iadd, 1) := by decide +kernel
theorem d_law_409 : decode code 409 = .ok (.iaload, 1) := by decide +kernel
theorem d_law_410 : decode code 410 = .ok (.aload_n 3, 1) := by decide +kernel
theorem d_law_411 : decode code 411 = .ok (.invokestatic 117, 3) := by decide +kernel
theorem d_law_414 : decode code 414 = .ok (.istore 5, 2) := by decide +kernel
theorem d_law_416 : decode code 416 = .ok (.aload_n 2, 1) := by decide +kernel
theorem d_law_417 : decode code 417 = .ok (.aload_n 0, 1) := by decide +kernel
theorem d_law_418 : decode code 418 = .ok (.iload 4, 2) := by decide +kernel
theorem d_law_420 : decode code 420 = .ok (.iconst 1, 1) := by decide +kernel
theorem d_law_421 : decode code 421 = .ok (.iadd, 1) := by decide +kernel
theorem d_law_422 : decode code 422 = .ok (.iaload, 1) := by decide +kernel
theorem d_law_423 : decode code 423 = .ok (.aload_n 0, 1) := by decide +kernel
theorem d_law_424 : decode code 424 = .ok (.iload 4, 2) := by decide +kernel
theorem d_law_426 : decode code 426 = .ok (.iconst 2, 1) := by decide +kernel
theorem d_law_427 : decode code 427 = .ok (.iadd, 1) := by decide +kernel
theorem d_law_428 : decode code 428 = .ok (.iaload, 1) := by decide +kernel
theorem d_law_429 : decode code 429 = .ok (.invokevirtual 119, 3) := by decide +kernel
theorem d_law_432 : decode code 432 = .ok (.istore 6, 2) := by decide +kernel
theorem d_law_434 : decode code 434 = .ok (.aload_n 2, 1) := by decide +kernel
theorem d_law_435 : decode code 435 = .ok (.invokevirtual 102, 3) := by decide +kernel
theorem d_law_438 : decode code 438 = .ok (.iload 5, 2) := by decide +kernel
theorem d_law_440 : decode code 440 = .ok (.if_icmp .eq 5, 3) := by decide +kernel
theorem d_law_443 : decode code 443 = .ok (.iconst 0, 1) := by decide +kernel
theorem d_law_444 : decode code 444 = .ok (.ireturn, 1) := by decide +kernel
theorem d_law_445 : decode code 445 = .ok (.iload 5, 2) := by decide +kernel
theorem d_law_447 : decode code 447 = .ok (.ifCond .ne 15, 3) := by decide +kernel
theorem d_law_450 : decode code 450 = .ok (.aload_n 3, 1) := by decide +kernel
theorem d_law_451 : decode code 451 = .ok (.iconst 0, 1) := by decide +kernel
theorem d_law_452 : decode code 452 = .ok (.laload, 1) := by decide +kernel
theorem d_law_453 : decode code 453 = .ok (.iload 6, 2) := by decide +kernel
theorem d_law_455 : decode code 455 = .ok (.i2l, 1) := by decide +kernel
theorem d_law_456 : decode code 456 = .ok (.lcmp, 1) := by decide +kernel
theorem d_law_457 : decode code 457 = .ok (.ifCond .eq 5, 3) := by decide +kernel
theorem d_law_460 : decode code 460 = .ok (.iconst 0, 1) := by decide +kernel
theorem d_law_461 : decode code 461 = .ok (.ireturn, 1) := by decide +kernel
theorem d_law_462 : decode code 462 = .ok (.goto 1067, 3) := by decide +kernel
theorem d_law_465 : decode code 465 = .ok (.aload_n 1, 1) := by decide +kernel
theorem d_law_466 : decode code 466 = .ok (.aload_n 0, 1) := by decide +kernel
theorem d_law_467 : decode code 467 = .ok (.iload 4, 2) := by decide +kernel
theorem d_law_469 : decode code 469 = .ok (.iconst 1, 1) := by decide +kernel
theorem d_law_470 : decode code 470 = .ok (.iadd, 1) := by decide +kernel
theorem d_law_471 : decode code 471 = .ok (.iaload, 1) := by decide +kernel
theorem d_law_472 : decode code 472 = .ok (.aload_n 0, 1) := by decide +kernel
theorem d_law_473 : decode code 473 = .ok (.iload 4, 2) := by decide +kernel
theorem d_law_475 : decode code 475 = .ok (.iconst 2, 1) := by decide +kernel
theorem d_law_476 : decode code 476 = .ok (.iadd, 1) := by decide +kernel
theorem d_law_477 : decode code 477 = .ok (.iaload, 1) := by decide +kernel
theorem d_law_478 : decode code 478 = .ok (.aload_n 0, 1) := by decide +kernel
theorem d_law_479 : decode code 479 = .ok (.iload 4, 2) := by decide +kernel
theorem d_law_481 : decode code 481 = .ok (.iconst 3, 1) := by decide +kernel
theorem d_law_482 : decode code 482 = .ok (.iadd, 1) := by decide +kernel
theorem d_law_483 : decode code 483 = .ok (.iaload, 1) := by decide +kernel
theorem d_law_484 : decode code 484 = .ok (.aload_n 3, 1) := by decide +kernel
theorem d_law_485 : decode code 485 = .ok (.invokestatic 120, 3) := by decide +kernel
theorem d_law_488 : decode code 488 = .ok (.istore 5, 2) := by decide +kernel
theorem d_law_490 : decode code 490 = .ok (.aload_n 2, 1) := by decide +kernel
theorem d_law_491 : decode code 491 = .ok (.aload_n 0, 1) := by decide +kernel
theorem d_law_492 : decode code 492 = .ok (.iload 4, 2) := by decide +kernel
theorem d_law_494 : decode code 494 = .ok (.iconst 1, 1) := by decide +kernel
theorem d_law_495 : decode code 495 = .ok (.iadd, 1) := by decide +kernel
theorem d_law_496 : decode code 496 = .ok (.iaload, 1) := by decide +kernel
theorem d_law_497 : decode code 497 = .ok (.aload_n 0, 1) := by decide +kernel
theorem d_law_498 : decode code 498 = .ok (.iload 4, 2) := by decide +kernel
theorem d_law_500 : decode code 500 = .ok (.iconst 2, 1) := by decide +kernel
theorem d_law_501 : decode code 501 = .ok (.iadd, 1) := by decide +kernel
theorem d_law_502 : decode code 502 = .ok (.iaload, 1) := by decide +kernel
theorem d_law_503 : decode code 503 = .ok (.aload_n 0, 1) := by decide +kernel
theorem d_law_504 : decode code 504 = .ok (.iload 4, 2) := by decide +kernel
theorem d_law_506 : decode code 506 = .ok (.iconst 3, 1) := by decide +kernel
theorem d_law_507 : decode code 507 = .ok (.iadd, 1) := by decide +kernel
theorem d_law_508 : decode code 508 = .ok (.iaload, 1) := by decide +kernel
theorem d_law_509 : decode code 509 = .ok (.invokevirtual 123, 3) := by decide +kernel
theorem d_law_512 : decode code 512 = .ok (.istore 6, 2) := by decide +kernel
theorem d_law_514 : decode code 514 = .ok (.aload_n 2, 1) := by decide +kernel
theorem d_law_515 : decode code 515 = .ok (.invokevirtual 102, 3) := by decide +kernel
theorem d_law_518 : decode code 518 = .ok (.iload 5, 2) := by decide +kernel
theorem d_law_520 : decode code 520 = .ok (.if_icmp .eq 5, 3) := by decide +kernel
theorem d_law_523 : decode code 523 = .ok (.iconst 0, 1) := by decide +kernel
theorem d_law_524 : decode code 524 = .ok (.ireturn, 1) := by decide +kernel
theorem d_law_525 : decode code 525 = .ok (.iload 5, 2) := by decide +kernel
theorem d_law_527 : decode code 527 = .ok (.ifCond .ne 15, 3) := by decide +kernel
theorem d_law_530 : decode code 530 = .ok (.aload_n 3, 1) := by decide +kernel
theorem d_law_531 : decode code 531 = .ok (.iconst 0, 1) := by decide +kernel
theorem d_law_532 : decode code 532 = .ok (.laload, 1) := by decide +kernel
theorem d_law_533 : decode code 533 = .ok (.iload 6, 2) := by decide +kernel
theorem d_law_535 : decode code 535 = .ok (.i2l, 1) := by decide +kernel
theorem d_law_536 : decode code 536 = .ok (.lcmp, 1) := by decide +kernel
theorem d_law_537 : decode code 537 = .ok (.ifCond .eq 5, 3) := by decide +kernel
theorem d_law_540 : decode code 540 = .ok (.iconst 0, 1) := by decide +kernel
theorem d_law_541 : decode code 541 = .ok (.ireturn, 1) := by decide +kernel
theorem d_law_542 : decode code 542 = .ok (.goto 987, 3) := by decide +kernel
theorem d_law_545 : decode code 545 = .ok (.aload_n 1, 1) := by decide +kernel
theorem d_law_546 : decode code 546 = .ok (.aload_n 0, 1) := by decide +kernel
theorem d_law_547 : decode code 547 = .ok (.iload 4, 2) := by decide +kernel
theorem d_law_549 : decode code 549 = .ok (.iconst 1, 1) := by decide +kernel
theorem d_law_550 : decode code 550 = .ok (.iadd, 1) := by decide +kernel
theorem d_law_551 : decode code 551 = .ok (.iaload, 1) := by decide +kernel
theorem d_law_552 : decode code 552 = .ok (.aload_n 0, 1) := by decide +kernel
theorem d_law_553 : decode code 553 = .ok (.iload 4, 2) := by decide +kernel
theorem d_law_555 : decode code 555 = .ok (.iconst 2, 1) := by decide +kernel
theorem d_law_556 : decode code 556 = .ok (.iadd, 1) := by decide +kernel
theorem d_law_557 : decode code 557 = .ok (.iaload, 1) := by decide +kernel
theorem d_law_558 : decode code 558 = .ok (.aload_n 3, 1) := by decide +kernel
theorem d_law_559 : decode code 559 = .ok (.invokestatic 124, 3) := by decide +kernel
theorem d_law_562 : decode code 562 = .ok (.istore 5, 2) := by decide +kernel
theorem d_law_564 : decode code 564 = .ok (.aload_n 2, 1) := by decide +kernel
theorem d_law_565 : decode code 565 = .ok (.aload_n 0, 1) := by decide +kernel
theorem d_law_566 : decode code 566 = .ok (.iload 4, 2) := by decide +kernel
theorem d_law_568 : decode code 568 = .ok (.iconst 1, 1) := by decide +kernel
theorem d_law_569 : decode code 569 = .ok (.iadd, 1) := by decide +kernel
theorem d_law_570 : decode code 570 = .ok (.iaload, 1) := by decide +kernel
theorem d_law_571 : decode code 571 = .ok (.aload_n 0, 1) := by decide +kernel
theorem d_law_572 : decode code 572 = .ok (.iload 4, 2) := by decide +kernel
theorem d_law_574 : decode code 574 = .ok (.iconst 2, 1) := by decide +kernel
theorem d_law_575 : decode code 575 = .ok (.iadd, 1) := by decide +kernel
theorem d_law_576 : decode code 576 = .ok (.iaload, 1) := by decide +kernel
theorem d_law_577 : decode code 577 = .ok (.invokevirtual 126, 3) := by decide +kernel
theorem d_law_580 : decode code 580 = .ok (.istore 6, 2) := by decide +kernel
theorem d_law_582 : decode code 582 = .ok (.aload_n 2, 1) := by decide +kernel
theorem d_law_583 : decode code 583 = .ok (.invokevirtual 102, 3) := by decide +kernel
theorem d_law_586 : decode code 586 = .ok (.iload 5, 2) := by decide +kernel
theorem d_law_588 : decode code 588 = .ok (.if_icmp .eq 5, 3) := by decide +kernel
theorem d_law_591 : decode code 591 = .ok (.iconst 0, 1) := by decide +kernel
theorem d_law_592 : decode code 592 = .ok (.ireturn, 1) := by decide +kernel
theorem d_law_593 : decode code 593 = .ok (.iload 5, 2) := by decide +kernel
theorem d_law_595 : decode code 595 = .ok (.ifCond .ne 15, 3) := by decide +kernel
theorem d_law_598 : decode code 598 = .ok (.aload_n 3, 1) := by decide +kernel
theorem d_law_599 : decode code 599 = .ok (.iconst 0, 1) := by decide +kernel
theorem d_law_600 : decode code 600 = .ok (.laload, 1) := by decide +kernel
theorem d_law_601 : decode code 601 = .ok (.iload 6, 2) := by decide +kernel
theorem d_law_603 : decode code 603 = .ok (.i2l, 1) := by decide +kernel
theorem d_law_604 : decode code 604 = .ok (.lcmp, 1) := by decide +kernel
theorem d_law_605 : decode code 605 = .ok (.ifCond .eq 5, 3) := by decide +kernel
theorem d_law_608 : decode code 608 = .ok (.iconst 0, 1) := by decide +kernel
theorem d_law_609 : decode code 609 = .ok (.ireturn, 1) := by decide +kernel
theorem d_law_610 : decode code 610 = .ok (.goto 919, 3) := by decide +kernel
theorem d_law_613 : decode code 613 = .ok (.aload_n 1, 1) := by decide +kernel
theorem d_law_614 : decode code 614 = .ok (.aload_n 0, 1) := by decide +kernel
theorem d_law_615 : decode code 615 = .ok (.iload 4, 2) := by decide +kernel
theorem d_law_617 : decode code 617 = .ok (.iconst 1, 1) := by decide +kernel
theorem d_law_618 : decode code 618 = .ok (.iadd, 1) := by decide +kernel
theorem d_law_619 : decode code 619 = .ok (.iaload, 1) := by decide +kernel
theorem d_law_620 : decode code 620 = .ok (.aload_n 0, 1) := by decide +kernel
theorem d_law_621 : decode code 621 = .ok (.iload 4, 2) := by decide +kernel
theorem d_law_623 : decode code 623 = .ok (.iconst 2, 1) := by decide +kernel
theorem d_law_624 : decode code 624 = .ok (.iadd, 1) := by decide +kernel
theorem d_law_625 : decode code 625 = .ok (.iaload, 1) := by decide +kernel
theorem d_law_626 : decode code 626 = .ok (.invokestatic 127, 3) := by decide +kernel
theorem d_law_629 : decode code 629 = .ok (.istore 5, 2) := by decide +kernel
theorem d_law_631 : decode code 631 = .ok (.aload_n 2, 1) := by decide +kernel
theorem d_law_632 : decode code 632 = .ok (.aload_n 0, 1) := by decide +kernel
theorem d_law_633 : decode code 633 = .ok (.iload 4, 2) := by decide +kernel
theorem d_law_635 : decode code 635 = .ok (.iconst 1, 1) := by decide +kernel
theorem d_law_636 : decode code 636 = .ok (.iadd, 1) := by decide +kernel
theorem d_law_637 : decode code 637 = .ok (.iaload, 1) := by decide +kernel
theorem d_law_638 : decode code 638 = .ok (.aload_n 0, 1) := by decide +kernel
theorem d_law_639 : decode code 639 = .ok (.iload 4, 2) := by decide +kernel
theorem d_law_641 : decode code 641 = .ok (.iconst 2, 1) := by decide +kernel
theorem d_law_642 : decode code 642 = .ok (.iadd, 1) := by decide +kernel
theorem d_law_643 : decode code 643 = .ok (.iaload, 1) := by decide +kernel
theorem d_law_644 : decode code 644 = .ok (.invokevirtual 129, 3) := by decide +kernel
theorem d_law_647 : decode code 647 = .ok (.aload_n 2, 1) := by decide +kernel
theorem d_law_648 : decode code 648 = .ok (.invokevirtual 102, 3) := by decide +kernel
theorem d_law_651 : decode code 651 = .ok (.iload 5, 2) := by decide +kernel
theorem d_law_653 : decode code 653 = .ok (.if_icmp .eq 5, 3) := by decide +kernel
theorem d_law_656 : decode code 656 = .ok (.iconst 0, 1) := by decide +kernel
theorem d_law_657 : decode code 657 = .ok (.ireturn, 1) := by decide +kernel
theorem d_law_658 : decode code 658 = .ok (.goto 871, 3) := by decide +kernel
theorem d_law_661 : decode code 661 = .ok (.aload_n 1, 1) := by decide +kernel
theorem d_law_662 : decode code 662 = .ok (.aload_n 0, 1) := by decide +kernel
theorem d_law_663 : decode code 663 = .ok (.iload 4, 2) := by decide +kernel
theorem d_law_665 : decode code 665 = .ok (.iconst 1, 1) := by decide +kernel
theorem d_law_666 : decode code 666 = .ok (.iadd, 1) := by decide +kernel
theorem d_law_667 : decode code 667 = .ok (.iaload, 1) := by decide +kernel
theorem d_law_668 : decode code 668 = .ok (.aload_n 0, 1) := by decide +kernel
theorem d_law_669 : decode code 669 = .ok (.iload 4, 2) := by decide +kernel
theorem d_law_671 : decode code 671 = .ok (.iconst 2, 1) := by decide +kernel
theorem d_law_672 : decode code 672 = .ok (.iadd, 1) := by decide +kernel
theorem d_law_673 : decode code 673 = .ok (.iaload, 1) := by decide +kernel
theorem d_law_674 : decode code 674 = .ok (.aload_n 0, 1) := by decide +kernel
theorem d_law_675 : decode code 675 = .ok (.iload 4, 2) := by decide +kernel
theorem d_law_677 : decode code 677 = .ok (.iconst 3, 1) := by decide +kernel
theorem d_law_678 : decode code 678 = .ok (.iadd, 1) := by decide +kernel
theorem d_law_679 : decode code 679 = .ok (.iaload, 1) := by decide +kernel
theorem d_law_680 : decode code 680 = .ok (.aload_n 0, 1) := by decide +kernel
theorem d_law_681 : decode code 681 = .ok (.iload 4, 2) := by decide +kernel
theorem d_law_683 : decode code 683 = .ok (.iconst 4, 1) := by decide +kernel
theorem d_law_684 : decode code 684 = .ok (.iadd, 1) := by decide +kernel
theorem d_law_685 : decode code 685 = .ok (.iaload, 1) := by decide +kernel
theorem d_law_686 : decode code 686 = .ok (.invokestatic 130, 3) := by decide +kernel
theorem d_law_689 : decode code 689 = .ok (.istore 5, 2) := by decide +kernel
theorem d_law_691 : decode code 691 = .ok (.aload_n 2, 1) := by decide +kernel
theorem d_law_692 : decode code 692 = .ok (.aload_n 0, 1) := by decide +kernel
theorem d_law_693 : decode code 693 = .ok (.iload 4, 2) := by decide +kernel
theorem d_law_695 : decode code 695 = .ok (.iconst 1, 1) := by decide +kernel
theorem d_law_696 : decode code 696 = .ok (.iadd, 1) := by decide +kernel
theorem d_law_697 : decode code 697 = .ok (.iaload, 1) := by decide +kernel
theorem d_law_698 : decode code 698 = .ok (.aload_n 0, 1) := by decide +kernel
theorem d_law_699 : decode code 699 = .ok (.iload 4, 2) := by decide +kernel
theorem d_law_701 : decode code 701 = .ok (.iconst 2, 1) := by decide +kernel
theorem d_law_702 : decode code 702 = .ok (.iadd, 1) := by decide +kernel
theorem d_law_703 : decode code 703 = .ok (.iaload, 1) := by decide +kernel
theorem d_law_704 : decode code 704 = .ok (.aload_n 0, 1) := by decide +kernel
theorem d_law_705 : decode code 705 = .ok (.iload 4, 2) := by decide +kernel
theorem d_law_707 : decode code 707 = .ok (.iconst 3, 1) := by decide +kernel
theorem d_law_708 : decode code 708 = .ok (.iadd, 1) := by decide +kernel
theorem d_law_709 : decode code 709 = .ok (.iaload, 1) := by decide +kernel
theorem d_law_710 : decode code 710 = .ok (.aload_n 0, 1) := by decide +kernel
theorem d_law_711 : decode code 711 = .ok (.iload 4, 2) := by decide +kernel
theorem d_law_713 : decode code 713 = .ok (.iconst 4, 1) := by decide +kernel
theorem d_law_714 : decode code 714 = .ok (.iadd, 1) := by decide +kernel
theorem d_law_715 : decode code 715 = .ok (.iaload, 1) := by decide +kernel
theorem d_law_716 : decode code 716 = .ok (.invokevirtual 133, 3) := by decide +kernel
theorem d_law_719 : decode code 719 = .ok (.aload_n 2, 1) := by decide +kernel
theorem d_law_720 : decode code 720 = .ok (.invokevirtual 102, 3) := by decide +kernel
theorem d_law_723 : decode code 723 = .ok (.iload 5, 2) := by decide +kernel
theorem d_law_725 : decode code 725 = .ok (.if_icmp .eq 5, 3) := by decide +kernel
theorem d_law_728 : decode code 728 = .ok (.iconst 0, 1) := by decide +kernel
theorem d_law_729 : decode code 729 = .ok (.ireturn, 1) := by decide +kernel
theorem d_law_730 : decode code 730 = .ok (.goto 799, 3) := by decide +kernel
theorem d_law_733 : decode code 733 = .ok (.aload_n 1, 1) := by decide +kernel
theorem d_law_734 : decode code 734 = .ok (.aload_n 0, 1) := by decide +kernel
theorem d_law_735 : decode code 735 = .ok (.iload 4, 2) := by decide +kernel
theorem d_law_737 : decode code 737 = .ok (.iconst 1, 1) := by decide +kernel
theorem d_law_738 : decode code 738 = .ok (.iadd, 1) := by decide +kernel
theorem d_law_739 : decode code 739 = .ok (.iaload, 1) := by decide +kernel
theorem d_law_740 : decode code 740 = .ok (.aload_n 0, 1) := by decide +kernel
theorem d_law_741 : decode code 741 = .ok (.iload 4, 2) := by decide +kernel
theorem d_law_743 : decode code 743 = .ok (.iconst 2, 1) := by decide +kernel
theorem d_law_744 : decode code 744 = .ok (.iadd, 1) := by decide +kernel
theorem d_law_745 : decode code 745 = .ok (.iaload, 1) := by decide +kernel
theorem d_law_746 : decode code 746 = .ok (.aload_n 3, 1) := by decide +kernel
theorem d_law_747 : decode code 747 = .ok (.invokestatic 134, 3) := by decide +kernel
theorem d_law_750 : decode code 750 = .ok (.istore 5, 2) := by decide +kernel
theorem d_law_752 : decode code 752 = .ok (.aload_n 2, 1) := by decide +kernel
theorem d_law_753 : decode code 753 = .ok (.aload_n 0, 1) := by decide +kernel
theorem d_law_754 : decode code 754 = .ok (.iload 4, 2) := by decide +kernel
theorem d_law_756 : decode code 756 = .ok (.iconst 1, 1) := by decide +kernel
theorem d_law_757 : decode code 757 = .ok (.iadd, 1) := by decide +kernel
theorem d_law_758 : decode code 758 = .ok (.iaload, 1) := by decide +kernel
theorem d_law_759 : decode code 759 = .ok (.aload_n 0, 1) := by decide +kernel
theorem d_law_760 : decode code 760 = .ok (.iload 4, 2) := by decide +kernel
theorem d_law_762 : decode code 762 = .ok (.iconst 2, 1) := by decide +kernel
theorem d_law_763 : decode code 763 = .ok (.iadd, 1) := by decide +kernel
theorem d_law_764 : decode code 764 = .ok (.iaload, 1) := by decide +kernel
theorem d_law_765 : decode code 765 = .ok (.invokevirtual 136, 3) := by decide +kernel
theorem d_law_768 : decode code 768 = .ok (.istore 6, 2) := by decide +kernel
theorem d_law_770 : decode code 770 = .ok (.aload_n 2, 1) := by decide +kernel
theorem d_law_771 : decode code 771 = .ok (.invokevirtual 102, 3) := by decide +kernel
theorem d_law_774 : decode code 774 = .ok (.iload 5, 2) := by decide +kernel
theorem d_law_776 : decode code 776 = .ok (.if_icmp .eq 5, 3) := by decide +kernel
theorem d_law_779 : decode code 779 = .ok (.iconst 0, 1) := by decide +kernel
theorem d_law_780 : decode code 780 = .ok (.ireturn, 1) := by decide +kernel
theorem d_law_781 : decode code 781 = .ok (.iload 5, 2) := by decide +kernel
theorem d_law_783 : decode code 783 = .ok (.ifCond .ne 15, 3) := by decide +kernel
theorem d_law_786 : decode code 786 = .ok (.aload_n 3, 1) := by decide +kernel
theorem d_law_787 : decode code 787 = .ok (.iconst 0, 1) := by decide +kernel
theorem d_law_788 : decode code 788 = .ok (.laload, 1) := by decide +kernel
theorem d_law_789 : decode code 789 = .ok (.iload 6, 2) := by decide +kernel
theorem d_law_791 : decode code 791 = .ok (.i2l, 1) := by decide +kernel
theorem d_law_792 : decode code 792 = .ok (.lcmp, 1) := by decide +kernel
theorem d_law_793 : decode code 793 = .ok (.ifCond .eq 5, 3) := by decide +kernel
theorem d_law_796 : decode code 796 = .ok (.iconst 0, 1) := by decide +kernel
theorem d_law_797 : decode code 797 = .ok (.ireturn, 1) := by decide +kernel
theorem d_law_798 : decode code 798 = .ok (.goto 731, 3) := by decide +kernel
theorem d_law_801 : decode code 801 = .ok (.aload_n 1, 1) := by decide +kernel
theorem d_law_802 : decode code 802 = .ok (.aload_n 0, 1) := by decide +kernel
theorem d_law_803 : decode code 803 = .ok (.iload 4, 2) := by decide +kernel
theorem d_law_805 : decode code 805 = .ok (.iconst 1, 1) := by decide +kernel
theorem d_law_806 : decode code 806 = .ok (.iadd, 1) := by decide +kernel
theorem d_law_807 : decode code 807 = .ok (.iaload, 1) := by decide +kernel
theorem d_law_808 : decode code 808 = .ok (.aload_n 0, 1) := by decide +kernel
theorem d_law_809 : decode code 809 = .ok (.iload 4, 2) := by decide +kernel
theorem d_law_811 : decode code 811 = .ok (.iconst 2, 1) := by decide +kernel
theorem d_law_812 : decode code 812 = .ok (.iadd, 1) := by decide +kernel
theorem d_law_813 : decode code 813 = .ok (.iaload, 1) := by decide +kernel
theorem d_law_814 : decode code 814 = .ok (.aload_n 0, 1) := by decide +kernel
theorem d_law_815 : decode code 815 = .ok (.iload 4, 2) := by decide +kernel
theorem d_law_817 : decode code 817 = .ok (.iconst 3, 1) := by decide +kernel
theorem d_law_818 : decode code 818 = .ok (.iadd, 1) := by decide +kernel
theorem d_law_819 : decode code 819 = .ok (.iaload, 1) := by decide +kernel
theorem d_law_820 : decode code 820 = .ok (.aload_n 3, 1) := by decide +kernel
theorem d_law_821 : decode code 821 = .ok (.invokestatic 137, 3) := by decide +kernel
theorem d_law_824 : decode code 824 = .ok (.istore 5, 2) := by decide +kernel
theorem d_law_826 : decode code 826 = .ok (.aload_n 2, 1) := by decide +kernel
theorem d_law_827 : decode code 827 = .ok (.aload_n 0, 1) := by decide +kernel
theorem d_law_828 : decode code 828 = .ok (.iload 4, 2) := by decide +kernel
theorem d_law_830 : decode code 830 = .ok (.iconst 1, 1) := by decide +kernel
theorem d_law_831 : decode code 831 = .ok (.iadd, 1) := by decide +kernel
theorem d_law_832 : decode code 832 = .ok (.iaload, 1) := by decide +kernel
theorem d_law_833 : decode code 833 = .ok (.aload_n 0, 1) := by decide +kernel
theorem d_law_834 : decode code 834 = .ok (.iload 4, 2) := by decide +kernel
theorem d_law_836 : decode code 836 = .ok (.iconst 2, 1) := by decide +kernel
theorem d_law_837 : decode code 837 = .ok (.iadd, 1) := by decide +kernel
theorem d_law_838 : decode code 838 = .ok (.iaload, 1) := by decide +kernel
theorem d_law_839 : decode code 839 = .ok (.aload_n 0, 1) := by decide +kernel
theorem d_law_840 : decode code 840 = .ok (.iload 4, 2) := by decide +kernel
theorem d_law_842 : decode code 842 = .ok (.iconst 3, 1) := by decide +kernel
theorem d_law_843 : decode code 843 = .ok (.iadd, 1) := by decide +kernel
theorem d_law_844 : decode code 844 = .ok (.iaload, 1) := by decide +kernel
theorem d_law_845 : decode code 845 = .ok (.invokevirtual 139, 3) := by decide +kernel
theorem d_law_848 : decode code 848 = .ok (.istore 6, 2) := by decide +kernel
theorem d_law_850 : decode code 850 = .ok (.aload_n 2, 1) := by decide +kernel
theorem d_law_851 : decode code 851 = .ok (.invokevirtual 102, 3) := by decide +kernel
theorem d_law_854 : decode code 854 = .ok (.iload 5, 2) := by decide +kernel
theorem d_law_856 : decode code 856 = .ok (.if_icmp .eq 5, 3) := by decide +kernel
theorem d_law_859 : decode code 859 = .ok (.iconst 0, 1) := by decide +kernel
theorem d_law_860 : decode code 860 = .ok (.ireturn, 1) := by decide +kernel
theorem d_law_861 : decode code 861 = .ok (.iload 5, 2) := by decide +kernel
theorem d_law_863 : decode code 863 = .ok (.ifCond .ne 15, 3) := by decide +kernel
theorem d_law_866 : decode code 866 = .ok (.aload_n 3, 1) := by decide +kernel
theorem d_law_867 : decode code 867 = .ok (.iconst 0, 1) := by decide +kernel
theorem d_law_868 : decode code 868 = .ok (.laload, 1) := by decide +kernel
theorem d_law_869 : decode code 869 = .ok (.iload 6, 2) := by decide +kernel
theorem d_law_871 : decode code 871 = .ok (.i2l, 1) := by decide +kernel
theorem d_law_872 : decode code 872 = .ok (.lcmp, 1) := by decide +kernel
theorem d_law_873 : decode code 873 = .ok (.ifCond .eq 5, 3) := by decide +kernel
theorem d_law_876 : decode code 876 = .ok (.iconst 0, 1) := by decide +kernel
theorem d_law_877 : decode code 877 = .ok (.ireturn, 1) := by decide +kernel
theorem d_law_878 : decode code 878 = .ok (.goto 651, 3) := by decide +kernel
theorem d_law_881 : decode code 881 = .ok (.aload_n 1, 1) := by decide +kernel
theorem d_law_882 : decode code 882 = .ok (.aload_n 0, 1) := by decide +kernel
theorem d_law_883 : decode code 883 = .ok (.iload 4, 2) := by decide +kernel
theorem d_law_885 : decode code 885 = .ok (.iconst 1, 1) := by decide +kernel
theorem d_law_886 : decode code 886 = .ok (.iadd, 1) := by decide +kernel
theorem d_law_887 : decode code 887 = .ok (.iaload, 1) := by decide +kernel
theorem d_law_888 : decode code 888 = .ok (.aload_n 0, 1) := by decide +kernel
theorem d_law_889 : decode code 889 = .ok (.iload 4, 2) := by decide +kernel
theorem d_law_891 : decode code 891 = .ok (.iconst 2, 1) := by decide +kernel
theorem d_law_892 : decode code 892 = .ok (.iadd, 1) := by decide +kernel
theorem d_law_893 : decode code 893 = .ok (.iaload, 1) := by decide +kernel
theorem d_law_894 : decode code 894 = .ok (.aload_n 0, 1) := by decide +kernel
theorem d_law_895 : decode code 895 = .ok (.iload 4, 2) := by decide +kernel
theorem d_law_897 : decode code 897 = .ok (.iconst 3, 1) := by decide +kernel
theorem d_law_898 : decode code 898 = .ok (.iadd, 1) := by decide +kernel
theorem d_law_899 : decode code 899 = .ok (.iaload, 1) := by decide +kernel
theorem d_law_900 : decode code 900 = .ok (.aload_n 3, 1) := by decide +kernel
theorem d_law_901 : decode code 901 = .ok (.invokestatic 140, 3) := by decide +kernel
theorem d_law_904 : decode code 904 = .ok (.istore 5, 2) := by decide +kernel
theorem d_law_906 : decode code 906 = .ok (.aload_n 2, 1) := by decide +kernel
theorem d_law_907 : decode code 907 = .ok (.aload_n 0, 1) := by decide +kernel
theorem d_law_908 : decode code 908 = .ok (.iload 4, 2) := by decide +kernel
theorem d_law_910 : decode code 910 = .ok (.iconst 1, 1) := by decide +kernel
theorem d_law_911 : decode code 911 = .ok (.iadd, 1) := by decide +kernel
theorem d_law_912 : decode code 912 = .ok (.iaload, 1) := by decide +kernel
theorem d_law_913 : decode code 913 = .ok (.aload_n 0, 1) := by decide +kernel
theorem d_law_914 : decode code 914 = .ok (.iload 4, 2) := by decide +kernel
theorem d_law_916 : decode code 916 = .ok (.iconst 2, 1) := by decide +kernel
theorem d_law_917 : decode code 917 = .ok (.iadd, 1) := by decide +kernel
theorem d_law_918 : decode code 918 = .ok (.iaload, 1) := by decide +kernel
theorem d_law_919 : decode code 919 = .ok (.aload_n 0, 1) := by decide +kernel
theorem d_law_920 : decode code 920 = .ok (.iload 4, 2) := by decide +kernel
theorem d_law_922 : decode code 922 = .ok (.iconst 3, 1) := by decide +kernel
theorem d_law_923 : decode code 923 = .ok (.iadd, 1) := by decide +kernel
theorem d_law_924 : decode code 924 = .ok (.iaload, 1) := by decide +kernel
theorem d_law_925 : decode code 925 = .ok (.invokevirtual 142, 3) := by decide +kernel
theorem d_law_928 : decode code 928 = .ok (.istore 6, 2) := by decide +kernel
theorem d_law_930 : decode code 930 = .ok (.aload_n 2, 1) := by decide +kernel
theorem d_law_931 : decode code 931 = .ok (.invokevirtual 102, 3) := by decide +kernel
theorem d_law_934 : decode code 934 = .ok (.iload 5, 2) := by decide +kernel
theorem d_law_936 : decode code 936 = .ok (.if_icmp .eq 5, 3) := by decide +kernel
theorem d_law_939 : decode code 939 = .ok (.iconst 0, 1) := by decide +kernel
theorem d_law_940 : decode code 940 = .ok (.ireturn, 1) := by decide +kernel
theorem d_law_941 : decode code 941 = .ok (.iload 5, 2) := by decide +kernel
theorem d_law_943 : decode code 943 = .ok (.ifCond .ne 15, 3) := by decide +kernel
theorem d_law_946 : decode code 946 = .ok (.aload_n 3, 1) := by decide +kernel
theorem d_law_947 : decode code 947 = .ok (.iconst 0, 1) := by decide +kernel
theorem d_law_948 : decode code 948 = .ok (.laload, 1) := by decide +kernel
theorem d_law_949 : decode code 949 = .ok (.iload 6, 2) := by decide +kernel
theorem d_law_951 : decode code 951 = .ok (.i2l, 1) := by decide +kernel
theorem d_law_952 : decode code 952 = .ok (.lcmp, 1) := by decide +kernel
theorem d_law_953 : decode code 953 = .ok (.ifCond .eq 5, 3) := by decide +kernel
theorem d_law_956 : decode code 956 = .ok (.iconst 0, 1) := by decide +kernel
theorem d_law_957 : decode code 957 = .ok (.ireturn, 1) := by decide +kernel
theorem d_law_958 : decode code 958 = .ok (.goto 571, 3) := by decide +kernel
theorem d_law_961 : decode code 961 = .ok (.aload_n 1, 1) := by decide +kernel
theorem d_law_962 : decode code 962 = .ok (.aload_n 0, 1) := by decide +kernel
theorem d_law_963 : decode code 963 = .ok (.iload 4, 2) := by decide +kernel
theorem d_law_965 : decode code 965 = .ok (.iconst 1, 1) := by decide +kernel
theorem d_law_966 : decode code 966 = .ok (.iadd, 1) := by decide +kernel
theorem d_law_967 : decode code 967 = .ok (.iaload, 1) := by decide +kernel
theorem d_law_968 : decode code 968 = .ok (.aload_n 3, 1) := by decide +kernel
theorem d_law_969 : decode code 969 = .ok (.invokestatic 143, 3) := by decide +kernel
theorem d_law_972 : decode code 972 = .ok (.istore 5, 2) := by decide +kernel
theorem d_law_974 : decode code 974 = .ok (.aload_n 2, 1) := by decide +kernel
theorem d_law_975 : decode code 975 = .ok (.aload_n 0, 1) := by decide +kernel
theorem d_law_976 : decode code 976 = .ok (.iload 4, 2) := by decide +kernel
theorem d_law_978 : decode code 978 = .ok (.iconst 1, 1) := by decide +kernel
theorem d_law_979 : decode code 979 = .ok (.iadd, 1) := by decide +kernel
theorem d_law_980 : decode code 980 = .ok (.iaload, 1) := by decide +kernel
theorem d_law_981 : decode code 981 = .ok (.invokevirtual 146, 3) := by decide +kernel
theorem d_law_984 : decode code 984 = .ok (.istore 6, 2) := by decide +kernel
theorem d_law_986 : decode code 986 = .ok (.aload_n 2, 1) := by decide +kernel
theorem d_law_987 : decode code 987 = .ok (.invokevirtual 102, 3) := by decide +kernel
theorem d_law_990 : decode code 990 = .ok (.iload 5, 2) := by decide +kernel
theorem d_law_992 : decode code 992 = .ok (.if_icmp .eq 5, 3) := by decide +kernel
theorem d_law_995 : decode code 995 = .ok (.iconst 0, 1) := by decide +kernel
theorem d_law_996 : decode code 996 = .ok (.ireturn, 1) := by decide +kernel
theorem d_law_997 : decode code 997 = .ok (.iload 5, 2) := by decide +kernel
theorem d_law_999 : decode code 999 = .ok (.ifCond .ne 15, 3) := by decide +kernel
theorem d_law_1002 : decode code 1002 = .ok (.aload_n 3, 1) := by decide +kernel
theorem d_law_1003 : decode code 1003 = .ok (.iconst 0, 1) := by decide +kernel
theorem d_law_1004 : decode code 1004 = .ok (.laload, 1) := by decide +kernel
theorem d_law_1005 : decode code 1005 = .ok (.iload 6, 2) := by decide +kernel
theorem d_law_1007 : decode code 1007 = .ok (.i2l, 1) := by decide +kernel
theorem d_law_1008 : decode code 1008 = .ok (.lcmp, 1) := by decide +kernel
theorem d_law_1009 : decode code 1009 = .ok (.ifCond .eq 5, 3) := by decide +kernel
theorem d_law_1012 : decode code 1012 = .ok (.iconst 0, 1) := by decide +kernel
theorem d_law_1013 : decode code 1013 = .ok (.ireturn, 1) := by decide +kernel
theorem d_law_1014 : decode code 1014 = .ok (.goto 515, 3) := by decide +kernel
theorem d_law_1017 : decode code 1017 = .ok (.aload_n 1, 1) := by decide +kernel
theorem d_law_1018 : decode code 1018 = .ok (.aload_n 0, 1) := by decide +kernel
theorem d_law_1019 : decode code 1019 = .ok (.iload 4, 2) := by decide +kernel
theorem d_law_1021 : decode code 1021 = .ok (.iconst 1, 1) := by decide +kernel
theorem d_law_1022 : decode code 1022 = .ok (.iadd, 1) := by decide +kernel
theorem d_law_1023 : decode code 1023 = .ok (.iaload, 1) := by decide +kernel
theorem d_law_1024 : decode code 1024 = .ok (.aload_n 0, 1) := by decide +kernel
theorem d_law_1025 : decode code 1025 = .ok (.iload 4, 2) := by decide +kernel
theorem d_law_1027 : decode code 1027 = .ok (.iconst 2, 1) := by decide +kernel
theorem d_law_1028 : decode code 1028 = .ok (.iadd, 1) := by decide +kernel
theorem d_law_1029 : decode code 1029 = .ok (.iaload, 1) := by decide +kernel
theorem d_law_1030 : decode code 1030 = .ok (.invokestatic 147, 3) := by decide +kernel
theorem d_law_1033 : decode code 1033 = .ok (.istore 5, 2) := by decide +kernel
theorem d_law_1035 : decode code 1035 = .ok (.aload_n 2, 1) := by decide +kernel
theorem d_law_1036 : decode code 1036 = .ok (.aload_n 0, 1) := by decide +kernel
theorem d_law_1037 : decode code 1037 = .ok (.iload 4, 2) := by decide +kernel
theorem d_law_1039 : decode code 1039 = .ok (.iconst 1, 1) := by decide +kernel
theorem d_law_1040 : decode code 1040 = .ok (.iadd, 1) := by decide +kernel
theorem d_law_1041 : decode code 1041 = .ok (.iaload, 1) := by decide +kernel
theorem d_law_1042 : decode code 1042 = .ok (.aload_n 0, 1) := by decide +kernel
theorem d_law_1043 : decode code 1043 = .ok (.iload 4, 2) := by decide +kernel
theorem d_law_1045 : decode code 1045 = .ok (.iconst 2, 1) := by decide +kernel
theorem d_law_1046 : decode code 1046 = .ok (.iadd, 1) := by decide +kernel
theorem d_law_1047 : decode code 1047 = .ok (.iaload, 1) := by decide +kernel
theorem d_law_1048 : decode code 1048 = .ok (.invokevirtual 149, 3) := by decide +kernel
theorem d_law_1051 : decode code 1051 = .ok (.aload_n 2, 1) := by decide +kernel
theorem d_law_1052 : decode code 1052 = .ok (.invokevirtual 102, 3) := by decide +kernel
theorem d_law_1055 : decode code 1055 = .ok (.iload 5, 2) := by decide +kernel
theorem d_law_1057 : decode code 1057 = .ok (.if_icmp .eq 5, 3) := by decide +kernel
theorem d_law_1060 : decode code 1060 = .ok (.iconst 0, 1) := by decide +kernel
theorem d_law_1061 : decode code 1061 = .ok (.ireturn, 1) := by decide +kernel
theorem d_law_1062 : decode code 1062 = .ok (.goto 467, 3) := by decide +kernel
theorem d_law_1065 : decode code 1065 = .ok (.aload_n 1, 1) := by decide +kernel
theorem d_law_1066 : decode code 1066 = .ok (.aload_n 0, 1) := by decide +kernel
theorem d_law_1067 : decode code 1067 = .ok (.iload 4, 2) := by decide +kernel
theorem d_law_1069 : decode code 1069 = .ok (.iconst 1, 1) := by decide +kernel
theorem d_law_1070 : decode code 1070 = .ok (.iadd, 1) := by decide +kernel
theorem d_law_1071 : decode code 1071 = .ok (.iaload, 1) := by decide +kernel
theorem d_law_1072 : decode code 1072 = .ok (.aload_n 3, 1) := by decide +kernel
theorem d_law_1073 : decode code 1073 = .ok (.invokestatic 150, 3) := by decide +kernel
theorem d_law_1076 : decode code 1076 = .ok (.istore 5, 2) := by decide +kernel
theorem d_law_1078 : decode code 1078 = .ok (.aload_n 2, 1) := by decide +kernel
theorem d_law_1079 : decode code 1079 = .ok (.aload_n 0, 1) := by decide +kernel
theorem d_law_1080 : decode code 1080 = .ok (.iload 4, 2) := by decide +kernel
theorem d_law_1082 : decode code 1082 = .ok (.iconst 1, 1) := by decide +kernel
theorem d_law_1083 : decode code 1083 = .ok (.iadd, 1) := by decide +kernel
theorem d_law_1084 : decode code 1084 = .ok (.iaload, 1) := by decide +kernel
theorem d_law_1085 : decode code 1085 = .ok (.invokevirtual 152, 3) := by decide +kernel
theorem d_law_1088 : decode code 1088 = .ok (.istore 6, 2) := by decide +kernel
theorem d_law_1090 : decode code 1090 = .ok (.aload_n 2, 1) := by decide +kernel
theorem d_law_1091 : decode code 1091 = .ok (.invokevirtual 102, 3) := by decide +kernel
theorem d_law_1094 : decode code 1094 = .ok (.iload 5, 2) := by decide +kernel
theorem d_law_1096 : decode code 1096 = .ok (.if_icmp .eq 5, 3) := by decide +kernel
theorem d_law_1099 : decode code 1099 = .ok (.iconst 0, 1) := by decide +kernel
theorem d_law_1100 : decode code 1100 = .ok (.ireturn, 1) := by decide +kernel
theorem d_law_1101 : decode code 1101 = .ok (.iload 5, 2) := by decide +kernel
theorem d_law_1103 : decode code 1103 = .ok (.ifCond .ne 15, 3) := by decide +kernel
theorem d_law_1106 : decode code 1106 = .ok (.aload_n 3, 1) := by decide +kernel
theorem d_law_1107 : decode code 1107 = .ok (.iconst 0, 1) := by decide +kernel
theorem d_law_1108 : decode code 1108 = .ok (.laload, 1) := by decide +kernel
theorem d_law_1109 : decode code 1109 = .ok (.iload 6, 2) := by decide +kernel
theorem d_law_1111 : decode code 1111 = .ok (.i2l, 1) := by decide +kernel
theorem d_law_1112 : decode code 1112 = .ok (.lcmp, 1) := by decide +kernel
theorem d_law_1113 : decode code 1113 = .ok (.ifCond .eq 5, 3) := by decide +kernel
theorem d_law_1116 : decode code 1116 = .ok (.iconst 0, 1) := by decide +kernel
theorem d_law_1117 : decode code 1117 = .ok (.ireturn, 1) := by decide +kernel
theorem d_law_1118 : decode code 1118 = .ok (.goto 411, 3) := by decide +kernel
theorem d_law_1121 : decode code 1121 = .ok (.aload_n 1, 1) := by decide +kernel
theorem d_law_1122 : decode code 1122 = .ok (.aload_n 3, 1) := by decide +kernel
theorem d_law_1123 : decode code 1123 = .ok (.invokestatic 153, 3) := by decide +kernel
theorem d_law_1126 : decode code 1126 = .ok (.istore 5, 2) := by decide +kernel
theorem d_law_1128 : decode code 1128 = .ok (.aload_n 2, 1) := by decide +kernel
theorem d_law_1129 : decode code 1129 = .ok (.invokevirtual 156, 3) := by decide +kernel
theorem d_law_1132 : decode code 1132 = .ok (.istore 6, 2) := by decide +kernel
theorem d_law_1134 : decode code 1134 = .ok (.aload_n 2, 1) := by decide +kernel
theorem d_law_1135 : decode code 1135 = .ok (.invokevirtual 102, 3) := by decide +kernel
theorem d_law_1138 : decode code 1138 = .ok (.iload 5, 2) := by decide +kernel
theorem d_law_1140 : decode code 1140 = .ok (.if_icmp .eq 5, 3) := by decide +kernel
theorem d_law_1143 : decode code 1143 = .ok (.iconst 0, 1) := by decide +kernel
theorem d_law_1144 : decode code 1144 = .ok (.ireturn, 1) := by decide +kernel
theorem d_law_1145 : decode code 1145 = .ok (.iload 5, 2) := by decide +kernel
theorem d_law_1147 : decode code 1147 = .ok (.ifCond .ne 15, 3) := by decide +kernel
theorem d_law_1150 : decode code 1150 = .ok (.aload_n 3, 1) := by decide +kernel
theorem d_law_1151 : decode code 1151 = .ok (.iconst 0, 1) := by decide +kernel
theorem d_law_1152 : decode code 1152 = .ok (.laload, 1) := by decide +kernel
theorem d_law_1153 : decode code 1153 = .ok (.iload 6, 2) := by decide +kernel
theorem d_law_1155 : decode code 1155 = .ok (.i2l, 1) := by decide +kernel
theorem d_law_1156 : decode code 1156 = .ok (.lcmp, 1) := by decide +kernel
theorem d_law_1157 : decode code 1157 = .ok (.ifCond .eq 5, 3) := by decide +kernel
theorem d_law_1160 : decode code 1160 = .ok (.iconst 0, 1) := by decide +kernel
theorem d_law_1161 : decode code 1161 = .ok (.ireturn, 1) := by decide +kernel
theorem d_law_1162 : decode code 1162 = .ok (.goto 367, 3) := by decide +kernel
theorem d_law_1165 : decode code 1165 = .ok (.aload_n 1, 1) := by decide +kernel
theorem d_law_1166 : decode code 1166 = .ok (.aload_n 0, 1) := by decide +kernel
theorem d_law_1167 : decode code 1167 = .ok (.iload 4, 2) := by decide +kernel
theorem d_law_1169 : decode code 1169 = .ok (.iconst 1, 1) := by decide +kernel
theorem d_law_1170 : decode code 1170 = .ok (.iadd, 1) := by decide +kernel
theorem d_law_1171 : decode code 1171 = .ok (.iaload, 1) := by decide +kernel
theorem d_law_1172 : decode code 1172 = .ok (.aload_n 0, 1) := by decide +kernel
theorem d_law_1173 : decode code 1173 = .ok (.iload 4, 2) := by decide +kernel
theorem d_law_1175 : decode code 1175 = .ok (.iconst 2, 1) := by decide +kernel
theorem d_law_1176 : decode code 1176 = .ok (.iadd, 1) := by decide +kernel
theorem d_law_1177 : decode code 1177 = .ok (.iaload, 1) := by decide +kernel
theorem d_law_1178 : decode code 1178 = .ok (.aload_n 3, 1) := by decide +kernel
theorem d_law_1179 : decode code 1179 = .ok (.invokestatic 157, 3) := by decide +kernel
theorem d_law_1182 : decode code 1182 = .ok (.istore 5, 2) := by decide +kernel
theorem d_law_1184 : decode code 1184 = .ok (.aload_n 2, 1) := by decide +kernel
theorem d_law_1185 : decode code 1185 = .ok (.aload_n 0, 1) := by decide +kernel
theorem d_law_1186 : decode code 1186 = .ok (.iload 4, 2) := by decide +kernel
theorem d_law_1188 : decode code 1188 = .ok (.iconst 1, 1) := by decide +kernel
theorem d_law_1189 : decode code 1189 = .ok (.iadd, 1) := by decide +kernel
theorem d_law_1190 : decode code 1190 = .ok (.iaload, 1) := by decide +kernel
theorem d_law_1191 : decode code 1191 = .ok (.aload_n 0, 1) := by decide +kernel
theorem d_law_1192 : decode code 1192 = .ok (.iload 4, 2) := by decide +kernel
theorem d_law_1194 : decode code 1194 = .ok (.iconst 2, 1) := by decide +kernel
theorem d_law_1195 : decode code 1195 = .ok (.iadd, 1) := by decide +kernel
theorem d_law_1196 : decode code 1196 = .ok (.iaload, 1) := by decide +kernel
theorem d_law_1197 : decode code 1197 = .ok (.invokevirtual 159, 3) := by decide +kernel
theorem d_law_1200 : decode code 1200 = .ok (.istore 6, 2) := by decide +kernel
theorem d_law_1202 : decode code 1202 = .ok (.aload_n 2, 1) := by decide +kernel
theorem d_law_1203 : decode code 1203 = .ok (.invokevirtual 102, 3) := by decide +kernel
theorem d_law_1206 : decode code 1206 = .ok (.iload 5, 2) := by decide +kernel
theorem d_law_1208 : decode code 1208 = .ok (.if_icmp .eq 5, 3) := by decide +kernel
theorem d_law_1211 : decode code 1211 = .ok (.iconst 0, 1) := by decide +kernel
theorem d_law_1212 : decode code 1212 = .ok (.ireturn, 1) := by decide +kernel
theorem d_law_1213 : decode code 1213 = .ok (.iload 5, 2) := by decide +kernel
theorem d_law_1215 : decode code 1215 = .ok (.ifCond .ne 15, 3) := by decide +kernel
theorem d_law_1218 : decode code 1218 = .ok (.aload_n 3, 1) := by decide +kernel
theorem d_law_1219 : decode code 1219 = .ok (.iconst 0, 1) := by decide +kernel
theorem d_law_1220 : decode code 1220 = .ok (.laload, 1) := by decide +kernel
theorem d_law_1221 : decode code 1221 = .ok (.iload 6, 2) := by decide +kernel
theorem d_law_1223 : decode code 1223 = .ok (.i2l, 1) := by decide +kernel
theorem d_law_1224 : decode code 1224 = .ok (.lcmp, 1) := by decide +kernel
theorem d_law_1225 : decode code 1225 = .ok (.ifCond .eq 5, 3) := by decide +kernel
theorem d_law_1228 : decode code 1228 = .ok (.iconst 0, 1) := by decide +kernel
theorem d_law_1229 : decode code 1229 = .ok (.ireturn, 1) := by decide +kernel
theorem d_law_1230 : decode code 1230 = .ok (.goto 299, 3) := by decide +kernel
theorem d_law_1233 : decode code 1233 = .ok (.aload_n 1, 1) := by decide +kernel
theorem d_law_1234 : decode code 1234 = .ok (.aload_n 0, 1) := by decide +kernel
theorem d_law_1235 : decode code 1235 = .ok (.iload 4, 2) := by decide +kernel
theorem d_law_1237 : decode code 1237 = .ok (.iconst 1, 1) := by decide +kernel
theorem d_law_1238 : decode code 1238 = .ok (.iadd, 1) := by decide +kernel
theorem d_law_1239 : decode code 1239 = .ok (.iaload, 1) := by decide +kernel
theorem d_law_1240 : decode code 1240 = .ok (.aload_n 0, 1) := by decide +kernel
theorem d_law_1241 : decode code 1241 = .ok (.iload 4, 2) := by decide +kernel
theorem d_law_1243 : decode code 1243 = .ok (.iconst 2, 1) := by decide +kernel
theorem d_law_1244 : decode code 1244 = .ok (.iadd, 1) := by decide +kernel
theorem d_law_1245 : decode code 1245 = .ok (.iaload, 1) := by decide +kernel
theorem d_law_1246 : decode code 1246 = .ok (.aload_n 3, 1) := by decide +kernel
theorem d_law_1247 : decode code 1247 = .ok (.invokestatic 160, 3) := by decide +kernel
theorem d_law_1250 : decode code 1250 = .ok (.istore 5, 2) := by decide +kernel
theorem d_law_1252 : decode code 1252 = .ok (.aload_n 2, 1) := by decide +kernel
theorem d_law_1253 : decode code 1253 = .ok (.aload_n 0, 1) := by decide +kernel
theorem d_law_1254 : decode code 1254 = .ok (.iload 4, 2) := by decide +kernel
theorem d_law_1256 : decode code 1256 = .ok (.iconst 1, 1) := by decide +kernel
theorem d_law_1257 : decode code 1257 = .ok (.iadd, 1) := by decide +kernel
theorem d_law_1258 : decode code 1258 = .ok (.iaload, 1) := by decide +kernel
theorem d_law_1259 : decode code 1259 = .ok (.aload_n 0, 1) := by decide +kernel
theorem d_law_1260 : decode code 1260 = .ok (.iload 4, 2) := by decide +kernel
theorem d_law_1262 : decode code 1262 = .ok (.iconst 2, 1) := by decide +kernel
theorem d_law_1263 : decode code 1263 = .ok (.iadd, 1) := by decide +kernel
theorem d_law_1264 : decode code 1264 = .ok (.iaload, 1) := by decide +kernel
theorem d_law_1265 : decode code 1265 = .ok (.invokevirtual 162, 3) := by decide +kernel
theorem d_law_1268 : decode code 1268 = .ok (.istore 6, 2) := by decide +kernel
theorem d_law_1270 : decode code 1270 = .ok (.aload_n 2, 1) := by decide +kernel
theorem d_law_1271 : decode code 1271 = .ok (.invokevirtual 102, 3) := by decide +kernel
theorem d_law_1274 : decode code 1274 = .ok (.iload 5, 2) := by decide +kernel
theorem d_law_1276 : decode code 1276 = .ok (.if_icmp .eq 5, 3) := by decide +kernel
theorem d_law_1279 : decode code 1279 = .ok (.iconst 0, 1) := by decide +kernel
theorem d_law_1280 : decode code 1280 = .ok (.ireturn, 1) := by decide +kernel
theorem d_law_1281 : decode code 1281 = .ok (.iload 5, 2) := by decide +kernel
theorem d_law_1283 : decode code 1283 = .ok (.ifCond .ne 15, 3) := by decide +kernel
theorem d_law_1286 : decode code 1286 = .ok (.aload_n 3, 1) := by decide +kernel
theorem d_law_1287 : decode code 1287 = .ok (.iconst 0, 1) := by decide +kernel
theorem d_law_1288 : decode code 1288 = .ok (.laload, 1) := by decide +kernel
theorem d_law_1289 : decode code 1289 = .ok (.iload 6, 2) := by decide +kernel
theorem d_law_1291 : decode code 1291 = .ok (.i2l, 1) := by decide +kernel
theorem d_law_1292 : decode code 1292 = .ok (.lcmp, 1) := by decide +kernel
theorem d_law_1293 : decode code 1293 = .ok (.ifCond .eq 5, 3) := by decide +kernel
theorem d_law_1296 : decode code 1296 = .ok (.iconst 0, 1) := by decide +kernel
theorem d_law_1297 : decode code 1297 = .ok (.ireturn, 1) := by decide +kernel
theorem d_law_1298 : decode code 1298 = .ok (.goto 231, 3) := by decide +kernel
theorem d_law_1301 : decode code 1301 = .ok (.aload_n 1, 1) := by decide +kernel
theorem d_law_1302 : decode code 1302 = .ok (.aload_n 0, 1) := by decide +kernel
theorem d_law_1303 : decode code 1303 = .ok (.iload 4, 2) := by decide +kernel
theorem d_law_1305 : decode code 1305 = .ok (.iconst 1, 1) := by decide +kernel
theorem d_law_1306 : decode code 1306 = .ok (.iadd, 1) := by decide +kernel
theorem d_law_1307 : decode code 1307 = .ok (.iaload, 1) := by decide +kernel
theorem d_law_1308 : decode code 1308 = .ok (.aload_n 3, 1) := by decide +kernel
theorem d_law_1309 : decode code 1309 = .ok (.invokestatic 163, 3) := by decide +kernel
theorem d_law_1312 : decode code 1312 = .ok (.istore 5, 2) := by decide +kernel
theorem d_law_1314 : decode code 1314 = .ok (.aload_n 2, 1) := by decide +kernel
theorem d_law_1315 : decode code 1315 = .ok (.aload_n 0, 1) := by decide +kernel
theorem d_law_1316 : decode code 1316 = .ok (.iload 4, 2) := by decide +kernel
theorem d_law_1318 : decode code 1318 = .ok (.iconst 1, 1) := by decide +kernel
theorem d_law_1319 : decode code 1319 = .ok (.iadd, 1) := by decide +kernel
theorem d_law_1320 : decode code 1320 = .ok (.iaload, 1) := by decide +kernel
theorem d_law_1321 : decode code 1321 = .ok (.invokevirtual 165, 3) := by decide +kernel
theorem d_law_1324 : decode code 1324 = .ok (.istore 6, 2) := by decide +kernel
theorem d_law_1326 : decode code 1326 = .ok (.aload_n 2, 1) := by decide +kernel
theorem d_law_1327 : decode code 1327 = .ok (.invokevirtual 102, 3) := by decide +kernel
theorem d_law_1330 : decode code 1330 = .ok (.iload 5, 2) := by decide +kernel
theorem d_law_1332 : decode code 1332 = .ok (.if_icmp .eq 5, 3) := by decide +kernel
theorem d_law_1335 : decode code 1335 = .ok (.iconst 0, 1) := by decide +kernel
theorem d_law_1336 : decode code 1336 = .ok (.ireturn, 1) := by decide +kernel
theorem d_law_1337 : decode code 1337 = .ok (.iload 5, 2) := by decide +kernel
theorem d_law_1339 : decode code 1339 = .ok (.ifCond .ne 15, 3) := by decide +kernel
theorem d_law_1342 : decode code 1342 = .ok (.aload_n 3, 1) := by decide +kernel
theorem d_law_1343 : decode code 1343 = .ok (.iconst 0, 1) := by decide +kernel
theorem d_law_1344 : decode code 1344 = .ok (.laload, 1) := by decide +kernel
theorem d_law_1345 : decode code 1345 = .ok (.iload 6, 2) := by decide +kernel
theorem d_law_1347 : decode code 1347 = .ok (.i2l, 1) := by decide +kernel
theorem d_law_1348 : decode code 1348 = .ok (.lcmp, 1) := by decide +kernel
theorem d_law_1349 : decode code 1349 = .ok (.ifCond .eq 5, 3) := by decide +kernel
theorem d_law_1352 : decode code 1352 = .ok (.iconst 0, 1) := by decide +kernel
theorem d_law_1353 : decode code 1353 = .ok (.ireturn, 1) := by decide +kernel
theorem d_law_1354 : decode code 1354 = .ok (.goto 175, 3) := by decide +kernel
theorem d_law_1357 : decode code 1357 = .ok (.aload_n 1, 1) := by decide +kernel
theorem d_law_1358 : decode code 1358 = .ok (.invokestatic 166, 3) := by decide +kernel
theorem d_law_1361 : decode code 1361 = .ok (.istore 5, 2) := by decide +kernel
theorem d_law_1363 : decode code 1363 = .ok (.aload_n 2, 1) := by decide +kernel
theorem d_law_1364 : decode code 1364 = .ok (.invokevirtual 169, 3) := by decide +kernel
theorem d_law_1367 : decode code 1367 = .ok (.aload_n 2, 1) := by decide +kernel
theorem d_law_1368 : decode code 1368 = .ok (.invokevirtual 102, 3) := by decide +kernel
theorem d_law_1371 : decode code 1371 = .ok (.iload 5, 2) := by decide +kernel
theorem d_law_1373 : decode code 1373 = .ok (.if_icmp .eq 5, 3) := by decide +kernel
theorem d_law_1376 : decode code 1376 = .ok (.iconst 0, 1) := by decide +kernel
theorem d_law_1377 : decode code 1377 = .ok (.ireturn, 1) := by decide +kernel
theorem d_law_1378 : decode code 1378 = .ok (.goto 151, 3) := by decide +kernel
theorem d_law_1381 : decode code 1381 = .ok (.aload_n 1, 1) := by decide +kernel
theorem d_law_1382 : decode code 1382 = .ok (.aload_n 0, 1) := by decide +kernel
theorem d_law_1383 : decode code 1383 = .ok (.iload 4, 2) := by decide +kernel
theorem d_law_1385 : decode code 1385 = .ok (.iconst 1, 1) := by decide +kernel
theorem d_law_1386 : decode code 1386 = .ok (.iadd, 1) := by decide +kernel
theorem d_law_1387 : decode code 1387 = .ok (.iaload, 1) := by decide +kernel
theorem d_law_1388 : decode code 1388 = .ok (.invokestatic 170, 3) := by decide +kernel
theorem d_law_1391 : decode code 1391 = .ok (.istore 5, 2) := by decide +kernel
theorem d_law_1393 : decode code 1393 = .ok (.aload_n 2, 1) := by decide +kernel
theorem d_law_1394 : decode code 1394 = .ok (.aload_n 0, 1) := by decide +kernel
theorem d_law_1395 : decode code 1395 = .ok (.iload 4, 2) := by decide +kernel
theorem d_law_1397 : decode code 1397 = .ok (.iconst 1, 1) := by decide +kernel
theorem d_law_1398 : decode code 1398 = .ok (.iadd, 1) := by decide +kernel
theorem d_law_1399 : decode code 1399 = .ok (.iaload, 1) := by decide +kernel
theorem d_law_1400 : decode code 1400 = .ok (.invokevirtual 173, 3) := by decide +kernel
theorem d_law_1403 : decode code 1403 = .ok (.aload_n 2, 1) := by decide +kernel
theorem d_law_1404 : decode code 1404 = .ok (.invokevirtual 102, 3) := by decide +kernel
theorem d_law_1407 : decode code 1407 = .ok (.iload 5, 2) := by decide +kernel
theorem d_law_1409 : decode code 1409 = .ok (.if_icmp .eq 5, 3) := by decide +kernel
theorem d_law_1412 : decode code 1412 = .ok (.iconst 0, 1) := by decide +kernel
theorem d_law_1413 : decode code 1413 = .ok (.ireturn, 1) := by decide +kernel
theorem d_law_1414 : decode code 1414 = .ok (.goto 115, 3) := by decide +kernel
theorem d_law_1417 : decode code 1417 = .ok (.aload_n 1, 1) := by decide +kernel
theorem d_law_1418 : decode code 1418 = .ok (.aload_n 3, 1) := by decide +kernel
theorem d_law_1419 : decode code 1419 = .ok (.invokestatic 174, 3) := by decide +kernel
theorem d_law_1422 : decode code 1422 = .ok (.istore 5, 2) := by decide +kernel
theorem d_law_1424 : decode code 1424 = .ok (.aload_n 2, 1) := by decide +kernel
theorem d_law_1425 : decode code 1425 = .ok (.invokevirtual 176, 3) := by decide +kernel
theorem d_law_1428 : decode code 1428 = .ok (.istore 6, 2) := by decide +kernel
theorem d_law_1430 : decode code 1430 = .ok (.aload_n 2, 1) := by decide +kernel
theorem d_law_1431 : decode code 1431 = .ok (.invokevirtual 102, 3) := by decide +kernel
theorem d_law_1434 : decode code 1434 = .ok (.iload 5, 2) := by decide +kernel
theorem d_law_1436 : decode code 1436 = .ok (.if_icmp .eq 5, 3) := by decide +kernel
theorem d_law_1439 : decode code 1439 = .ok (.iconst 0, 1) := by decide +kernel
theorem d_law_1440 : decode code 1440 = .ok (.ireturn, 1) := by decide +kernel
theorem d_law_1441 : decode code 1441 = .ok (.iload 5, 2) := by decide +kernel
theorem d_law_1443 : decode code 1443 = .ok (.ifCond .ne 15, 3) := by decide +kernel
theorem d_law_1446 : decode code 1446 = .ok (.aload_n 3, 1) := by decide +kernel
theorem d_law_1447 : decode code 1447 = .ok (.iconst 0, 1) := by decide +kernel
theorem d_law_1448 : decode code 1448 = .ok (.laload, 1) := by decide +kernel
theorem d_law_1449 : decode code 1449 = .ok (.iload 6, 2) := by decide +kernel
theorem d_law_1451 : decode code 1451 = .ok (.i2l, 1) := by decide +kernel
theorem d_law_1452 : decode code 1452 = .ok (.lcmp, 1) := by decide +kernel
theorem d_law_1453 : decode code 1453 = .ok (.ifCond .eq 5, 3) := by decide +kernel
theorem d_law_1456 : decode code 1456 = .ok (.iconst 0, 1) := by decide +kernel
theorem d_law_1457 : decode code 1457 = .ok (.ireturn, 1) := by decide +kernel
theorem d_law_1458 : decode code 1458 = .ok (.goto 71, 3) := by decide +kernel
theorem d_law_1461 : decode code 1461 = .ok (.aload_n 1, 1) := by decide +kernel
theorem d_law_1462 : decode code 1462 = .ok (.invokestatic 177, 3) := by decide +kernel
theorem d_law_1465 : decode code 1465 = .ok (.istore 5, 2) := by decide +kernel
theorem d_law_1467 : decode code 1467 = .ok (.aload_n 2, 1) := by decide +kernel
theorem d_law_1468 : decode code 1468 = .ok (.invokevirtual 179, 3) := by decide +kernel
theorem d_law_1471 : decode code 1471 = .ok (.aload_n 2, 1) := by decide +kernel
theorem d_law_1472 : decode code 1472 = .ok (.invokevirtual 102, 3) := by decide +kernel
theorem d_law_1475 : decode code 1475 = .ok (.iload 5, 2) := by decide +kernel
theorem d_law_1477 : decode code 1477 = .ok (.if_icmp .eq 5, 3) := by decide +kernel
theorem d_law_1480 : decode code 1480 = .ok (.iconst 0, 1) := by decide +kernel
theorem d_law_1481 : decode code 1481 = .ok (.ireturn, 1) := by decide +kernel
theorem d_law_1482 : decode code 1482 = .ok (.goto 47, 3) := by decide +kernel
theorem d_law_1485 : decode code 1485 = .ok (.aload_n 1, 1) := by decide +kernel
theorem d_law_1486 : decode code 1486 = .ok (.aload_n 3, 1) := by decide +kernel
theorem d_law_1487 : decode code 1487 = .ok (.invokestatic 180, 3) := by decide +kernel
theorem d_law_1490 : decode code 1490 = .ok (.istore 5, 2) := by decide +kernel
theorem d_law_1492 : decode code 1492 = .ok (.aload_n 2, 1) := by decide +kernel
theorem d_law_1493 : decode code 1493 = .ok (.invokevirtual 182, 3) := by decide +kernel
theorem d_law_1496 : decode code 1496 = .ok (.istore 6, 2) := by decide +kernel
theorem d_law_1498 : decode code 1498 = .ok (.aload_n 2, 1) := by decide +kernel
theorem d_law_1499 : decode code 1499 = .ok (.invokevirtual 102, 3) := by decide +kernel
theorem d_law_1502 : decode code 1502 = .ok (.iload 5, 2) := by decide +kernel
theorem d_law_1504 : decode code 1504 = .ok (.if_icmp .eq 5, 3) := by decide +kernel
theorem d_law_1507 : decode code 1507 = .ok (.iconst 0, 1) := by decide +kernel
theorem d_law_1508 : decode code 1508 = .ok (.ireturn, 1) := by decide +kernel
theorem d_law_1509 : decode code 1509 = .ok (.iload 5, 2) := by decide +kernel
theorem d_law_1511 : decode code 1511 = .ok (.ifCond .ne 15, 3) := by decide +kernel
theorem d_law_1514 : decode code 1514 = .ok (.aload_n 3, 1) := by decide +kernel
theorem d_law_1515 : decode code 1515 = .ok (.iconst 0, 1) := by decide +kernel
theorem d_law_1516 : decode code 1516 = .ok (.laload, 1) := by decide +kernel
theorem d_law_1517 : decode code 1517 = .ok (.iload 6, 2) := by decide +kernel
theorem d_law_1519 : decode code 1519 = .ok (.i2l, 1) := by decide +kernel
theorem d_law_1520 : decode code 1520 = .ok (.lcmp, 1) := by decide +kernel
theorem d_law_1521 : decode code 1521 = .ok (.ifCond .eq 5, 3) := by decide +kernel
theorem d_law_1524 : decode code 1524 = .ok (.iconst 0, 1) := by decide +kernel
theorem d_law_1525 : decode code 1525 = .ok (.ireturn, 1) := by decide +kernel
theorem d_law_1526 : decode code 1526 = .ok (.goto 3, 3) := by decide +kernel
theorem d_law_1529 : decode code 1529 = .ok (.iinc 4 6, 3) := by decide +kernel
theorem d_law_1532 : decode code 1532 = .ok (.goto (-1509), 3) := by decide +kernel
theorem d_law_1535 : decode code 1535 = .ok (.iconst 1, 1) := by decide +kernel
theorem d_law_1536 : decode code 1536 = .ok (.ireturn, 1) := by decide +kernel
theorem kv_LawM_101 : kV "FlashFilesLaw" 101 "FlashFilesModel" ⟨"FlashFilesModel", "format", "(II)V"⟩ prog_12_method_18_code 4 none 2 := ⟨by decide +kernel, q8_7, q8_8, q8_9, q1_11, q8_10⟩
theorem kv_LawM_102 : kV "FlashFilesLaw" 102 "FlashFilesModel" ⟨"FlashFilesModel", "thrown", "()I"⟩ prog_12_method_2_code 1 (some .int) 0 := ⟨by decide +kernel, q8_3, q8_4, q8_5, q1_11, q8_6⟩
theorem kv_LawM_108 : kV "FlashFilesLaw" 108 "FlashFilesModel" ⟨"FlashFilesModel", "feed", "(IIIII)I"⟩ prog_12_method_19_code 9 (some .int) 5 := ⟨by decide +kernel, q8_56, q8_57, q8_58, q1_11, q8_59⟩
theorem kv_LawM_109 : kV "FlashFilesLaw" 109 "FlashFiles" ⟨"FlashFiles", "tape", "(I)I"⟩ prog_1_method_4_code 2 (some .int) 1 := ⟨by decide +kernel, q2_89, q2_90, q2_91, q1_1, q2_92⟩
theorem kv_LawM_112 : kV "FlashFilesLaw" 112 "FlashFilesModel" ⟨"FlashFilesModel", "tape", "(I)I"⟩ prog_12_method_20_code 2 (some .int) 1 := ⟨by decide +kernel, q8_60, q8_61, q8_62, q1_11, q8_63⟩
theorem kv_LawM_116 : kV "FlashFilesLaw" 116 "FlashFilesModel" ⟨"FlashFilesModel", "make", "(II)I"⟩ prog_12_method_32_code 3 (some .int) 2 := ⟨by decide +kernel, q8_64, q8_65, q8_66, q1_11, q8_67⟩
theorem kv_LawM_119 : kV "FlashFilesLaw" 119 "FlashFilesModel" ⟨"FlashFilesModel", "makeDirectory", "(II)I"⟩ prog_12_method_33_code 3 (some .int) 2 := ⟨by decide +kernel, q8_111, q8_112, q8_113, q1_11, q8_114⟩
theorem kv_LawM_123 : kV "FlashFilesLaw" 123 "FlashFilesModel" ⟨"FlashFilesModel", "link", "(III)I"⟩ prog_12_method_34_code 6 (some .int) 3 := ⟨by decide +kernel, q8_115, q8_116, q8_117, q1_11, q8_118⟩
theorem kv_LawM_126 : kV "FlashFilesLaw" 126 "FlashFilesModel" ⟨"FlashFilesModel", "unlink", "(II)I"⟩ prog_12_method_36_code 6 (some .int) 2 := ⟨by decide +kernel, q8_119, q8_120, q8_121, q1_11, q8_122⟩
theorem kv_LawM_129 : kV "FlashFilesLaw" 129 "FlashFilesModel" ⟨"FlashFilesModel", "removeDirectory", "(II)V"⟩ prog_12_method_37_code 5 none 2 := ⟨by decide +kernel, q8_131, q8_132, q8_133, q1_11, q8_134⟩
theorem kv_LawM_133 : kV "FlashFilesLaw" 133 "FlashFilesModel" ⟨"FlashFilesModel", "rename", "(IIII)V"⟩ prog_12_method_40_code 11 none 4 := ⟨by decide +kernel, q8_135, q8_136, q8_137, q1_11, q8_138⟩
theorem kv_LawM_136 : kV "FlashFilesLaw" 136 "FlashFilesModel" ⟨"FlashFilesModel", "find", "(II)I"⟩ prog_12_method_41_code 5 (some .int) 2 := ⟨by decide +kernel, q8_147, q8_148, q8_149, q1_11, q8_150⟩
theorem kv_LawM_139 : kV "FlashFilesLaw" 139 "FlashFilesModel" ⟨"FlashFilesModel", "write", "(III)I"⟩ prog_12_method_45_code 7 (some .int) 3 := ⟨by decide +kernel, q8_159, q8_160, q8_161, q1_11, q8_162⟩
theorem kv_LawM_142 : kV "FlashFilesLaw" 142 "FlashFilesModel" ⟨"FlashFilesModel", "read", "(III)I"⟩ prog_12_method_46_code 6 (some .int) 3 := ⟨by decide +kernel, q8_176, q8_177, q8_178, q1_11, q8_179⟩
theorem kv_LawM_146 : kV "FlashFilesLaw" 146 "FlashFilesModel" ⟨"FlashFilesModel", "byteAt", "(I)I"⟩ prog_12_method_47_code 2 (some .int) 1 := ⟨by decide +kernel, q8_180, q8_181, q8_182, q1_11, q8_183⟩
theorem kv_LawM_149 : kV "FlashFilesLaw" 149 "FlashFilesModel" ⟨"FlashFilesModel", "truncate", "(II)V"⟩ prog_12_method_48_code 6 none 2 := ⟨by decide +kernel, q8_184, q8_185, q8_186, q1_11, q8_187⟩
theorem kv_LawM_152 : kV "FlashFilesLaw" 152 "FlashFilesModel" ⟨"FlashFilesModel", "fsync", "(I)I"⟩ prog_12_method_49_code 2 (some .int) 1 := ⟨by decide +kernel, q8_188, q8_189, q8_190, q1_11, q8_191⟩
theorem kv_LawM_156 : kV "FlashFilesLaw" 156 "FlashFilesModel" ⟨"FlashFilesModel", "sync", "()I"⟩ prog_12_method_50_code 1 (some .int) 0 := ⟨by decide +kernel, q8_192, q8_193, q8_194, q1_11, q8_195⟩
theorem kv_LawM_159 : kV "FlashFilesLaw" 159 "FlashFilesModel" ⟨"FlashFilesModel", "name", "(II)I"⟩ prog_12_method_43_code 6 (some .int) 2 := ⟨by decide +kernel, q8_151, q8_152, q8_153, q1_11, q8_154⟩
theorem kv_LawM_162 : kV "FlashFilesLaw" 162 "FlashFilesModel" ⟨"FlashFilesModel", "look", "(II)I"⟩ prog_12_method_51_code 4 (some .int) 2 := ⟨by decide +kernel, q8_196, q8_197, q8_198, q1_11, q8_199⟩
theorem kv_LawM_165 : kV "FlashFilesLaw" 165 "FlashFilesModel" ⟨"FlashFilesModel", "count", "(I)I"⟩ prog_12_method_53_code 2 (some .int) 1 := ⟨by decide +kernel, q8_200, q8_201, q8_202, q1_11, q8_203⟩
theorem kv_LawM_169 : kV "FlashFilesLaw" 169 "FlashFilesModel" ⟨"FlashFilesModel", "power", "()V"⟩ prog_12_method_54_code 1 none 0 := ⟨by decide +kernel, q8_208, q8_209, q8_210, q1_11, q8_211⟩
theorem kv_LawM_173 : kV "FlashFilesLaw" 173 "FlashFilesModel" ⟨"FlashFilesModel", "cut", "(I)V"⟩ prog_12_method_55_code 2 none 1 := ⟨by decide +kernel, q8_212, q8_213, q8_214, q1_11, q8_215⟩
theorem kv_LawM_176 : kV "FlashFilesLaw" 176 "FlashFilesModel" ⟨"FlashFilesModel", "mount", "()I"⟩ prog_12_method_56_code 3 (some .int) 0 := ⟨by decide +kernel, q8_216, q8_217, q8_218, q1_11, q8_219⟩
theorem kv_LawM_179 : kV "FlashFilesLaw" 179 "FlashFilesModel" ⟨"FlashFilesModel", "clean", "()V"⟩ prog_12_method_57_code 1 none 0 := ⟨by decide +kernel, q8_220, q8_221, q8_222, q1_11, q8_223⟩
theorem kv_LawM_182 : kV "FlashFilesLaw" 182 "FlashFilesModel" ⟨"FlashFilesModel", "faults", "()I"⟩ prog_12_method_58_code 1 (some .int) 0 := ⟨by decide +kernel, q8_224, q8_225, q8_226, q1_11, q8_227⟩
theorem kw_105 : kW "FlashFilesLaw" 105 ⟨"FlashFilesLaw", "feed", "(LFlashFiles;IIIII[J)I"⟩ method_4_code 8 [(0, 16, 19, 19)] 7 := ⟨by decide +kernel, q4_192, q4_193, q1_0, q4_194⟩
theorem kw_113 : kW "FlashFilesLaw" 113 ⟨"FlashFilesLaw", "make", "(LFlashFiles;II[J)I"⟩ method_5_code 5 [(0, 10, 13, 13), (0, 10, 17, 19), (0, 10, 21, 25)] 4 := ⟨by decide +kernel, q4_224, q4_225, q1_0, q4_226⟩
theorem kw_117 : kW "FlashFilesLaw" 117 ⟨"FlashFilesLaw", "makeDirectory", "(LFlashFiles;II[J)I"⟩ method_6_code 5 [(0, 10, 13, 13), (0, 10, 17, 19), (0, 10, 21, 25)] 4 := ⟨by decide +kernel, q5_111, q5_112, q1_0, q5_113⟩
theorem kw_120 : kW "FlashFilesLaw" 120 ⟨"FlashFilesLaw", "link", "(LFlashFiles;III[J)I"⟩ method_7_code 6 [(0, 12, 15, 13), (0, 12, 19, 19), (0, 12, 23, 25)] 5 := ⟨by decide +kernel, q5_118, q5_119, q1_0, q5_120⟩
theorem kw_124 : kW "FlashFilesLaw" 124 ⟨"FlashFilesLaw", "unlink", "(LFlashFiles;II[J)I"⟩ method_8_code 5 [(0, 10, 13, 13), (0, 10, 17, 19), (0, 10, 21, 25)] 4 := ⟨by decide +kernel, q5_139, q5_140, q1_0, q5_141⟩
theorem kw_127 : kW "FlashFilesLaw" 127 ⟨"FlashFilesLaw", "removeDirectory", "(LFlashFiles;II)I"⟩ method_9_code 4 [(0, 6, 9, 13), (0, 6, 12, 19), (0, 6, 15, 25)] 3 := ⟨by decide +kernel, q5_182, q5_183, q1_0, q5_184⟩
theorem kw_130 : kW "FlashFilesLaw" 130 ⟨"FlashFilesLaw", "rename", "(LFlashFiles;IIII)I"⟩ method_10_code 6 [(0, 9, 12, 13), (0, 9, 16, 19), (0, 9, 20, 25)] 5 := ⟨by decide +kernel, q5_191, q5_192, q1_0, q5_193⟩
theorem kw_134 : kW "FlashFilesLaw" 134 ⟨"FlashFilesLaw", "find", "(LFlashFiles;II[J)I"⟩ method_11_code 5 [(0, 10, 13, 13), (0, 10, 17, 19)] 4 := ⟨by decide +kernel, q5_227, q5_228, q1_0, q5_229⟩
theorem kw_137 : kW "FlashFilesLaw" 137 ⟨"FlashFilesLaw", "write", "(LFlashFiles;III[J)I"⟩ method_12_code 6 [(0, 12, 15, 13), (0, 12, 19, 19), (0, 12, 23, 25)] 5 := ⟨by decide +kernel, q5_234, q5_235, q1_0, q5_236⟩
theorem kw_140 : kW "FlashFilesLaw" 140 ⟨"FlashFilesLaw", "read", "(LFlashFiles;III[J)I"⟩ method_13_code 6 [(0, 12, 15, 13), (0, 12, 19, 19)] 5 := ⟨by decide +kernel, q6_80, q6_81, q1_0, q6_82⟩
theorem kw_143 : kW "FlashFilesLaw" 143 ⟨"FlashFilesLaw", "byteAt", "(LFlashFiles;I[J)I"⟩ method_14_code 4 [(0, 9, 12, 13)] 3 := ⟨by decide +kernel, q6_97, q6_98, q1_0, q6_99⟩
theorem kw_147 : kW "FlashFilesLaw" 147 ⟨"FlashFilesLaw", "truncate", "(LFlashFiles;II)I"⟩ method_15_code 4 [(0, 6, 9, 13), (0, 6, 12, 19), (0, 6, 15, 25)] 3 := ⟨by decide +kernel, q6_106, q6_107, q1_0, q6_108⟩
theorem kw_150 : kW "FlashFilesLaw" 150 ⟨"FlashFilesLaw", "fsync", "(LFlashFiles;I[J)I"⟩ method_16_code 4 [(0, 9, 12, 13), (0, 9, 15, 19), (0, 9, 18, 25)] 3 := ⟨by decide +kernel, q6_127, q6_128, q1_0, q6_129⟩
theorem kw_153 : kW "FlashFilesLaw" 153 ⟨"FlashFilesLaw", "sync", "(LFlashFiles;[J)I"⟩ method_17_code 3 [(0, 8, 11, 19), (0, 8, 14, 25)] 2 := ⟨by decide +kernel, q6_142, q6_143, q1_0, q6_144⟩
theorem kw_157 : kW "FlashFilesLaw" 157 ⟨"FlashFilesLaw", "name", "(LFlashFiles;II[J)I"⟩ method_18_code 5 [(0, 10, 13, 13), (0, 10, 17, 19)] 4 := ⟨by decide +kernel, q6_153, q6_154, q1_0, q6_155⟩
theorem kw_160 : kW "FlashFilesLaw" 160 ⟨"FlashFilesLaw", "look", "(LFlashFiles;II[J)I"⟩ method_19_code 5 [(0, 10, 13, 13), (0, 10, 17, 19)] 4 := ⟨by decide +kernel, q6_179, q6_180, q1_0, q6_181⟩
theorem kw_163 : kW "FlashFilesLaw" 163 ⟨"FlashFilesLaw", "count", "(LFlashFiles;I[J)I"⟩ method_20_code 4 [(0, 9, 12, 13), (0, 9, 15, 19)] 3 := ⟨by decide +kernel, q6_188, q6_189, q1_0, q6_190⟩
theorem kw_166 : kW "FlashFilesLaw" 166 ⟨"FlashFilesLaw", "power", "(LFlashFiles;)I"⟩ method_21_code 2 [(0, 4, 7, 19)] 1 := ⟨by decide +kernel, q6_208, q6_209, q1_0, q6_210⟩
theorem kw_170 : kW "FlashFilesLaw" 170 ⟨"FlashFilesLaw", "cut", "(LFlashFiles;I)I"⟩ method_22_code 3 [(0, 5, 8, 19)] 2 := ⟨by decide +kernel, q6_215, q6_216, q1_0, q6_217⟩
theorem kw_174 : kW "FlashFilesLaw" 174 ⟨"FlashFilesLaw", "mount", "(LFlashFiles;[J)I"⟩ method_23_code 3 [(0, 8, 11, 19)] 2 := ⟨by decide +kernel, q6_222, q6_223, q1_0, q6_224⟩
theorem kw_177 : kW "FlashFilesLaw" 177 ⟨"FlashFilesLaw", "clean", "(LFlashFiles;)I"⟩ method_24_code 2 [(0, 4, 7, 19)] 1 := ⟨by decide +kernel, q7_34, q7_35, q1_0, q7_36⟩
theorem kw_180 : kW "FlashFilesLaw" 180 ⟨"FlashFilesLaw", "faults", "(LFlashFiles;[J)I"⟩ method_25_code 3 [(0, 8, 11, 19)] 2 := ⟨by decide +kernel, q7_45, q7_46, q1_0, q7_47⟩
theorem kw_96 : kW "FlashFilesLaw" 96 ⟨"FlashFilesLaw", "format", "(LFlashFiles;II)I"⟩ method_3_code 4 [(0, 6, 9, 13)] 3 := ⟨by decide +kernel, q2_101, q2_102, q1_0, q2_103⟩
theorem ni_1 (i : Nat) : nI i + 1 = nI (i + 1) := nI_add i 1
theorem ni_2 (i : Nat) : nI i + 2 = nI (i + 2) := nI_add i 2
theorem ni_3 (i : Nat) : nI i + 3 = nI (i + 3) := nI_add i 3
theorem ni_4 (i : Nat) : nI i + 4 = nI (i + 4) := nI_add i 4
theorem ni_5 (i : Nat) : nI i + 5 = nI (i + 5) := nI_add i 5
section SCR
variable {p : Program} {l : Launch} {e : Env} {R : Room} {s : State} {m : MethodId} {args : Array Value} {below : List Frame} {meth : Method} {c : Code} {H : Heap} {locs : List Loc} {cells slots : Nat} {Q : State → Prop}
variable {cc : ByteArray} {nL : Nat} {own : String} {D : va_G} {tys : List (ClassId × FieldType)} {A : Nat → Prop} {pc : Nat} {ls : Array Slot} {rest : List Value} {rt : Option FieldType} {b L : Nat} {xs : Nat → Int32}
theorem sc_ld {x : Int32} {j : Nat} (X : FX p s m meth c cc nL rt own D tys A) (hXs : va_X b L xs s s.heap) (hbl : b < s.heap.size) (hbA : ¬ A b) (hS : va_S A s.heap H locs) (hj : x = nI j) (hlt : j < L) (hL : L ≤ 3072) (hdg : decode cc pc = .ok (.iaload, 1)) (kk : W p l e R s m args below meth c H locs cells slots Q (F0 m (pc + 1) ls (.int (xs j) :: rest))) : W p l e R s m args below meth c H locs cells slots Q (F0 m pc ls (.int x :: .ref b :: rest)) := by
  subst hj
  refine va_sld X.1 X.2.1 hXs hbl hbA hS (vp_in_nI hlt (by omega)) hdg ?_
  rw [nI_clamp (by omega)]
  exact kk
end SCR
