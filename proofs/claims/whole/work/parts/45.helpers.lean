theorem q2_104 : (Cond.classLink "FlashFilesLaw" (13) "java/lang/IllegalArgumentException" : Cond) ∈ TT := tt2 (List.mem_of_getElem? (i := 104) rfl) rfl
theorem q2_105 : (Cond.methodLink "FlashFilesLaw" (7) ⟨"FlashFiles", "format", "(II)V"⟩ : Cond) ∈ TT := tt2 (List.mem_of_getElem? (i := 105) rfl) rfl
theorem q2_106 : (Cond.instanceMethod ⟨"FlashFiles", "format", "(II)V"⟩ : Cond) ∈ TT := tt2 (List.mem_of_getElem? (i := 106) rfl) rfl
theorem q2_107 : (Cond.selects "FlashFiles" ⟨"FlashFiles", "format", "(II)V"⟩ ⟨"FlashFiles", "format", "(II)V"⟩ : Cond) ∈ TT := tt2 (List.mem_of_getElem? (i := 107) rfl) rfl
theorem q2_108 : (Cond.code ⟨"FlashFiles", "format", "(II)V"⟩ prog_1_method_2_code (3) none : Cond) ∈ TT := tt2 (List.mem_of_getElem? (i := 108) rfl) rfl
theorem q4_195 : (Cond.classLink "FlashFilesLaw" (19) "java/lang/IllegalStateException" : Cond) ∈ TT := tt4 (List.mem_of_getElem? (i := 195) rfl) rfl
theorem q4_196 : (Cond.methodLink "FlashFilesLaw" (15) ⟨"FlashFiles", "feed", "(IIIII)I"⟩ : Cond) ∈ TT := tt4 (List.mem_of_getElem? (i := 196) rfl) rfl
theorem q4_197 : (Cond.instanceMethod ⟨"FlashFiles", "feed", "(IIIII)I"⟩ : Cond) ∈ TT := tt4 (List.mem_of_getElem? (i := 197) rfl) rfl
theorem q4_198 : (Cond.selects "FlashFiles" ⟨"FlashFiles", "feed", "(IIIII)I"⟩ ⟨"FlashFiles", "feed", "(IIIII)I"⟩ : Cond) ∈ TT := tt4 (List.mem_of_getElem? (i := 198) rfl) rfl
theorem q4_199 : (Cond.code ⟨"FlashFiles", "feed", "(IIIII)I"⟩ prog_1_method_3_code (6) (some .int) : Cond) ∈ TT := tt4 (List.mem_of_getElem? (i := 199) rfl) rfl
theorem q4_227 : (Cond.classLink "FlashFilesLaw" (25) "java/lang/UnsupportedOperationException" : Cond) ∈ TT := tt4 (List.mem_of_getElem? (i := 227) rfl) rfl
theorem q4_228 : (Cond.methodLink "FlashFilesLaw" (21) ⟨"FlashFiles", "make", "(II)I"⟩ : Cond) ∈ TT := tt4 (List.mem_of_getElem? (i := 228) rfl) rfl
theorem q4_229 : (Cond.instanceMethod ⟨"FlashFiles", "make", "(II)I"⟩ : Cond) ∈ TT := tt4 (List.mem_of_getElem? (i := 229) rfl) rfl
theorem q4_230 : (Cond.selects "FlashFiles" ⟨"FlashFiles", "make", "(II)I"⟩ ⟨"FlashFiles", "make", "(II)I"⟩ : Cond) ∈ TT := tt4 (List.mem_of_getElem? (i := 230) rfl) rfl
theorem q4_231 : (Cond.code ⟨"FlashFiles", "make", "(II)I"⟩ prog_1_method_5_code (3) (some .int) : Cond) ∈ TT := tt4 (List.mem_of_getElem? (i := 231) rfl) rfl
theorem q5_114 : (Cond.methodLink "FlashFilesLaw" (27) ⟨"FlashFiles", "makeDirectory", "(II)I"⟩ : Cond) ∈ TT := tt5 (List.mem_of_getElem? (i := 114) rfl) rfl
theorem q5_115 : (Cond.instanceMethod ⟨"FlashFiles", "makeDirectory", "(II)I"⟩ : Cond) ∈ TT := tt5 (List.mem_of_getElem? (i := 115) rfl) rfl
theorem q5_116 : (Cond.selects "FlashFiles" ⟨"FlashFiles", "makeDirectory", "(II)I"⟩ ⟨"FlashFiles", "makeDirectory", "(II)I"⟩ : Cond) ∈ TT := tt5 (List.mem_of_getElem? (i := 116) rfl) rfl
theorem q5_117 : (Cond.code ⟨"FlashFiles", "makeDirectory", "(II)I"⟩ prog_1_method_6_code (3) (some .int) : Cond) ∈ TT := tt5 (List.mem_of_getElem? (i := 117) rfl) rfl
theorem q5_121 : (Cond.methodLink "FlashFilesLaw" (30) ⟨"FlashFiles", "link", "(III)I"⟩ : Cond) ∈ TT := tt5 (List.mem_of_getElem? (i := 121) rfl) rfl
theorem q5_122 : (Cond.instanceMethod ⟨"FlashFiles", "link", "(III)I"⟩ : Cond) ∈ TT := tt5 (List.mem_of_getElem? (i := 122) rfl) rfl
theorem q5_123 : (Cond.selects "FlashFiles" ⟨"FlashFiles", "link", "(III)I"⟩ ⟨"FlashFiles", "link", "(III)I"⟩ : Cond) ∈ TT := tt5 (List.mem_of_getElem? (i := 123) rfl) rfl
theorem q5_124 : (Cond.code ⟨"FlashFiles", "link", "(III)I"⟩ prog_1_method_7_code (5) (some .int) : Cond) ∈ TT := tt5 (List.mem_of_getElem? (i := 124) rfl) rfl
theorem q5_142 : (Cond.methodLink "FlashFilesLaw" (34) ⟨"FlashFiles", "unlink", "(II)I"⟩ : Cond) ∈ TT := tt5 (List.mem_of_getElem? (i := 142) rfl) rfl
theorem q5_143 : (Cond.instanceMethod ⟨"FlashFiles", "unlink", "(II)I"⟩ : Cond) ∈ TT := tt5 (List.mem_of_getElem? (i := 143) rfl) rfl
theorem q5_144 : (Cond.selects "FlashFiles" ⟨"FlashFiles", "unlink", "(II)I"⟩ ⟨"FlashFiles", "unlink", "(II)I"⟩ : Cond) ∈ TT := tt5 (List.mem_of_getElem? (i := 144) rfl) rfl
theorem q5_145 : (Cond.code ⟨"FlashFiles", "unlink", "(II)I"⟩ prog_1_method_8_code (5) (some .int) : Cond) ∈ TT := tt5 (List.mem_of_getElem? (i := 145) rfl) rfl
theorem q5_185 : (Cond.methodLink "FlashFilesLaw" (37) ⟨"FlashFiles", "removeDirectory", "(II)V"⟩ : Cond) ∈ TT := tt5 (List.mem_of_getElem? (i := 185) rfl) rfl
theorem q5_186 : (Cond.instanceMethod ⟨"FlashFiles", "removeDirectory", "(II)V"⟩ : Cond) ∈ TT := tt5 (List.mem_of_getElem? (i := 186) rfl) rfl
theorem q5_187 : (Cond.selects "FlashFiles" ⟨"FlashFiles", "removeDirectory", "(II)V"⟩ ⟨"FlashFiles", "removeDirectory", "(II)V"⟩ : Cond) ∈ TT := tt5 (List.mem_of_getElem? (i := 187) rfl) rfl
theorem q5_188 : (Cond.code ⟨"FlashFiles", "removeDirectory", "(II)V"⟩ prog_1_method_9_code (5) none : Cond) ∈ TT := tt5 (List.mem_of_getElem? (i := 188) rfl) rfl
theorem q5_194 : (Cond.methodLink "FlashFilesLaw" (40) ⟨"FlashFiles", "rename", "(IIII)V"⟩ : Cond) ∈ TT := tt5 (List.mem_of_getElem? (i := 194) rfl) rfl
theorem q5_195 : (Cond.instanceMethod ⟨"FlashFiles", "rename", "(IIII)V"⟩ : Cond) ∈ TT := tt5 (List.mem_of_getElem? (i := 195) rfl) rfl
theorem q5_196 : (Cond.selects "FlashFiles" ⟨"FlashFiles", "rename", "(IIII)V"⟩ ⟨"FlashFiles", "rename", "(IIII)V"⟩ : Cond) ∈ TT := tt5 (List.mem_of_getElem? (i := 196) rfl) rfl
theorem q5_197 : (Cond.code ⟨"FlashFiles", "rename", "(IIII)V"⟩ prog_1_method_10_code (10) none : Cond) ∈ TT := tt5 (List.mem_of_getElem? (i := 197) rfl) rfl
theorem q5_230 : (Cond.methodLink "FlashFilesLaw" (44) ⟨"FlashFiles", "find", "(II)I"⟩ : Cond) ∈ TT := tt5 (List.mem_of_getElem? (i := 230) rfl) rfl
theorem q5_231 : (Cond.instanceMethod ⟨"FlashFiles", "find", "(II)I"⟩ : Cond) ∈ TT := tt5 (List.mem_of_getElem? (i := 231) rfl) rfl
theorem q5_232 : (Cond.selects "FlashFiles" ⟨"FlashFiles", "find", "(II)I"⟩ ⟨"FlashFiles", "find", "(II)I"⟩ : Cond) ∈ TT := tt5 (List.mem_of_getElem? (i := 232) rfl) rfl
theorem q5_233 : (Cond.code ⟨"FlashFiles", "find", "(II)I"⟩ prog_1_method_11_code (4) (some .int) : Cond) ∈ TT := tt5 (List.mem_of_getElem? (i := 233) rfl) rfl
theorem q5_237 : (Cond.methodLink "FlashFilesLaw" (47) ⟨"FlashFiles", "write", "(III)I"⟩ : Cond) ∈ TT := tt5 (List.mem_of_getElem? (i := 237) rfl) rfl
theorem q5_238 : (Cond.instanceMethod ⟨"FlashFiles", "write", "(III)I"⟩ : Cond) ∈ TT := tt5 (List.mem_of_getElem? (i := 238) rfl) rfl
theorem q5_239 : (Cond.selects "FlashFiles" ⟨"FlashFiles", "write", "(III)I"⟩ ⟨"FlashFiles", "write", "(III)I"⟩ : Cond) ∈ TT := tt5 (List.mem_of_getElem? (i := 239) rfl) rfl
theorem q6_0 : (Cond.code ⟨"FlashFiles", "write", "(III)I"⟩ prog_1_method_12_code (5) (some .int) : Cond) ∈ TT := tt6 (List.mem_of_getElem? (i := 0) rfl) rfl
theorem q6_83 : (Cond.methodLink "FlashFilesLaw" (50) ⟨"FlashFiles", "read", "(III)I"⟩ : Cond) ∈ TT := tt6 (List.mem_of_getElem? (i := 83) rfl) rfl
theorem q6_84 : (Cond.instanceMethod ⟨"FlashFiles", "read", "(III)I"⟩ : Cond) ∈ TT := tt6 (List.mem_of_getElem? (i := 84) rfl) rfl
theorem q6_85 : (Cond.selects "FlashFiles" ⟨"FlashFiles", "read", "(III)I"⟩ ⟨"FlashFiles", "read", "(III)I"⟩ : Cond) ∈ TT := tt6 (List.mem_of_getElem? (i := 85) rfl) rfl
theorem q6_86 : (Cond.code ⟨"FlashFiles", "read", "(III)I"⟩ prog_1_method_13_code (4) (some .int) : Cond) ∈ TT := tt6 (List.mem_of_getElem? (i := 86) rfl) rfl
theorem q6_100 : (Cond.methodLink "FlashFilesLaw" (53) ⟨"FlashFiles", "byteAt", "(I)I"⟩ : Cond) ∈ TT := tt6 (List.mem_of_getElem? (i := 100) rfl) rfl
theorem q6_101 : (Cond.instanceMethod ⟨"FlashFiles", "byteAt", "(I)I"⟩ : Cond) ∈ TT := tt6 (List.mem_of_getElem? (i := 101) rfl) rfl
theorem q6_102 : (Cond.selects "FlashFiles" ⟨"FlashFiles", "byteAt", "(I)I"⟩ ⟨"FlashFiles", "byteAt", "(I)I"⟩ : Cond) ∈ TT := tt6 (List.mem_of_getElem? (i := 102) rfl) rfl
theorem q6_103 : (Cond.code ⟨"FlashFiles", "byteAt", "(I)I"⟩ prog_1_method_14_code (2) (some .int) : Cond) ∈ TT := tt6 (List.mem_of_getElem? (i := 103) rfl) rfl
theorem q6_109 : (Cond.methodLink "FlashFilesLaw" (57) ⟨"FlashFiles", "truncate", "(II)V"⟩ : Cond) ∈ TT := tt6 (List.mem_of_getElem? (i := 109) rfl) rfl
theorem q6_110 : (Cond.instanceMethod ⟨"FlashFiles", "truncate", "(II)V"⟩ : Cond) ∈ TT := tt6 (List.mem_of_getElem? (i := 110) rfl) rfl
theorem q6_111 : (Cond.selects "FlashFiles" ⟨"FlashFiles", "truncate", "(II)V"⟩ ⟨"FlashFiles", "truncate", "(II)V"⟩ : Cond) ∈ TT := tt6 (List.mem_of_getElem? (i := 111) rfl) rfl
theorem q6_112 : (Cond.code ⟨"FlashFiles", "truncate", "(II)V"⟩ prog_1_method_15_code (3) none : Cond) ∈ TT := tt6 (List.mem_of_getElem? (i := 112) rfl) rfl
theorem q6_130 : (Cond.methodLink "FlashFilesLaw" (60) ⟨"FlashFiles", "fsync", "(I)I"⟩ : Cond) ∈ TT := tt6 (List.mem_of_getElem? (i := 130) rfl) rfl
theorem q6_131 : (Cond.instanceMethod ⟨"FlashFiles", "fsync", "(I)I"⟩ : Cond) ∈ TT := tt6 (List.mem_of_getElem? (i := 131) rfl) rfl
theorem q6_132 : (Cond.selects "FlashFiles" ⟨"FlashFiles", "fsync", "(I)I"⟩ ⟨"FlashFiles", "fsync", "(I)I"⟩ : Cond) ∈ TT := tt6 (List.mem_of_getElem? (i := 132) rfl) rfl
theorem q6_133 : (Cond.code ⟨"FlashFiles", "fsync", "(I)I"⟩ prog_1_method_16_code (2) (some .int) : Cond) ∈ TT := tt6 (List.mem_of_getElem? (i := 133) rfl) rfl
theorem q6_145 : (Cond.methodLink "FlashFilesLaw" (63) ⟨"FlashFiles", "sync", "()I"⟩ : Cond) ∈ TT := tt6 (List.mem_of_getElem? (i := 145) rfl) rfl
theorem q6_146 : (Cond.instanceMethod ⟨"FlashFiles", "sync", "()I"⟩ : Cond) ∈ TT := tt6 (List.mem_of_getElem? (i := 146) rfl) rfl
theorem q6_147 : (Cond.selects "FlashFiles" ⟨"FlashFiles", "sync", "()I"⟩ ⟨"FlashFiles", "sync", "()I"⟩ : Cond) ∈ TT := tt6 (List.mem_of_getElem? (i := 147) rfl) rfl
theorem q6_148 : (Cond.code ⟨"FlashFiles", "sync", "()I"⟩ prog_1_method_17_code (1) (some .int) : Cond) ∈ TT := tt6 (List.mem_of_getElem? (i := 148) rfl) rfl
theorem q6_156 : (Cond.methodLink "FlashFilesLaw" (67) ⟨"FlashFiles", "name", "(II)I"⟩ : Cond) ∈ TT := tt6 (List.mem_of_getElem? (i := 156) rfl) rfl
theorem q6_157 : (Cond.instanceMethod ⟨"FlashFiles", "name", "(II)I"⟩ : Cond) ∈ TT := tt6 (List.mem_of_getElem? (i := 157) rfl) rfl
theorem q6_158 : (Cond.selects "FlashFiles" ⟨"FlashFiles", "name", "(II)I"⟩ ⟨"FlashFiles", "name", "(II)I"⟩ : Cond) ∈ TT := tt6 (List.mem_of_getElem? (i := 158) rfl) rfl
theorem q6_159 : (Cond.code ⟨"FlashFiles", "name", "(II)I"⟩ prog_1_method_18_code (3) (some .int) : Cond) ∈ TT := tt6 (List.mem_of_getElem? (i := 159) rfl) rfl
theorem q6_182 : (Cond.methodLink "FlashFilesLaw" (70) ⟨"FlashFiles", "look", "(II)I"⟩ : Cond) ∈ TT := tt6 (List.mem_of_getElem? (i := 182) rfl) rfl
theorem q6_183 : (Cond.instanceMethod ⟨"FlashFiles", "look", "(II)I"⟩ : Cond) ∈ TT := tt6 (List.mem_of_getElem? (i := 183) rfl) rfl
theorem q6_184 : (Cond.selects "FlashFiles" ⟨"FlashFiles", "look", "(II)I"⟩ ⟨"FlashFiles", "look", "(II)I"⟩ : Cond) ∈ TT := tt6 (List.mem_of_getElem? (i := 184) rfl) rfl
theorem q6_185 : (Cond.code ⟨"FlashFiles", "look", "(II)I"⟩ prog_1_method_19_code (4) (some .int) : Cond) ∈ TT := tt6 (List.mem_of_getElem? (i := 185) rfl) rfl
theorem q6_191 : (Cond.methodLink "FlashFilesLaw" (73) ⟨"FlashFiles", "count", "(I)I"⟩ : Cond) ∈ TT := tt6 (List.mem_of_getElem? (i := 191) rfl) rfl
theorem q6_192 : (Cond.instanceMethod ⟨"FlashFiles", "count", "(I)I"⟩ : Cond) ∈ TT := tt6 (List.mem_of_getElem? (i := 192) rfl) rfl
theorem q6_193 : (Cond.selects "FlashFiles" ⟨"FlashFiles", "count", "(I)I"⟩ ⟨"FlashFiles", "count", "(I)I"⟩ : Cond) ∈ TT := tt6 (List.mem_of_getElem? (i := 193) rfl) rfl
theorem q6_194 : (Cond.code ⟨"FlashFiles", "count", "(I)I"⟩ prog_1_method_20_code (2) (some .int) : Cond) ∈ TT := tt6 (List.mem_of_getElem? (i := 194) rfl) rfl
theorem q6_211 : (Cond.methodLink "FlashFilesLaw" (76) ⟨"FlashFiles", "power", "()V"⟩ : Cond) ∈ TT := tt6 (List.mem_of_getElem? (i := 211) rfl) rfl
theorem q6_212 : (Cond.instanceMethod ⟨"FlashFiles", "power", "()V"⟩ : Cond) ∈ TT := tt6 (List.mem_of_getElem? (i := 212) rfl) rfl
theorem q6_213 : (Cond.selects "FlashFiles" ⟨"FlashFiles", "power", "()V"⟩ ⟨"FlashFiles", "power", "()V"⟩ : Cond) ∈ TT := tt6 (List.mem_of_getElem? (i := 213) rfl) rfl
theorem q6_214 : (Cond.code ⟨"FlashFiles", "power", "()V"⟩ prog_1_method_21_code (1) none : Cond) ∈ TT := tt6 (List.mem_of_getElem? (i := 214) rfl) rfl
theorem q6_218 : (Cond.methodLink "FlashFilesLaw" (79) ⟨"FlashFiles", "cut", "(I)V"⟩ : Cond) ∈ TT := tt6 (List.mem_of_getElem? (i := 218) rfl) rfl
theorem q6_219 : (Cond.instanceMethod ⟨"FlashFiles", "cut", "(I)V"⟩ : Cond) ∈ TT := tt6 (List.mem_of_getElem? (i := 219) rfl) rfl
theorem q6_220 : (Cond.selects "FlashFiles" ⟨"FlashFiles", "cut", "(I)V"⟩ ⟨"FlashFiles", "cut", "(I)V"⟩ : Cond) ∈ TT := tt6 (List.mem_of_getElem? (i := 220) rfl) rfl
theorem q6_221 : (Cond.code ⟨"FlashFiles", "cut", "(I)V"⟩ prog_1_method_22_code (2) none : Cond) ∈ TT := tt6 (List.mem_of_getElem? (i := 221) rfl) rfl
theorem q6_225 : (Cond.methodLink "FlashFilesLaw" (83) ⟨"FlashFiles", "mount", "()I"⟩ : Cond) ∈ TT := tt6 (List.mem_of_getElem? (i := 225) rfl) rfl
theorem q6_226 : (Cond.instanceMethod ⟨"FlashFiles", "mount", "()I"⟩ : Cond) ∈ TT := tt6 (List.mem_of_getElem? (i := 226) rfl) rfl
theorem q6_227 : (Cond.selects "FlashFiles" ⟨"FlashFiles", "mount", "()I"⟩ ⟨"FlashFiles", "mount", "()I"⟩ : Cond) ∈ TT := tt6 (List.mem_of_getElem? (i := 227) rfl) rfl
theorem q6_228 : (Cond.code ⟨"FlashFiles", "mount", "()I"⟩ prog_1_method_23_code (1) (some .int) : Cond) ∈ TT := tt6 (List.mem_of_getElem? (i := 228) rfl) rfl
theorem q7_37 : (Cond.methodLink "FlashFilesLaw" (86) ⟨"FlashFiles", "clean", "()V"⟩ : Cond) ∈ TT := tt7 (List.mem_of_getElem? (i := 37) rfl) rfl
theorem q7_38 : (Cond.instanceMethod ⟨"FlashFiles", "clean", "()V"⟩ : Cond) ∈ TT := tt7 (List.mem_of_getElem? (i := 38) rfl) rfl
theorem q7_39 : (Cond.selects "FlashFiles" ⟨"FlashFiles", "clean", "()V"⟩ ⟨"FlashFiles", "clean", "()V"⟩ : Cond) ∈ TT := tt7 (List.mem_of_getElem? (i := 39) rfl) rfl
theorem q7_40 : (Cond.code ⟨"FlashFiles", "clean", "()V"⟩ prog_1_method_24_code (1) none : Cond) ∈ TT := tt7 (List.mem_of_getElem? (i := 40) rfl) rfl
theorem q7_48 : (Cond.methodLink "FlashFilesLaw" (89) ⟨"FlashFiles", "faults", "()I"⟩ : Cond) ∈ TT := tt7 (List.mem_of_getElem? (i := 48) rfl) rfl
theorem q7_49 : (Cond.instanceMethod ⟨"FlashFiles", "faults", "()I"⟩ : Cond) ∈ TT := tt7 (List.mem_of_getElem? (i := 49) rfl) rfl
theorem q7_50 : (Cond.selects "FlashFiles" ⟨"FlashFiles", "faults", "()I"⟩ ⟨"FlashFiles", "faults", "()I"⟩ : Cond) ∈ TT := tt7 (List.mem_of_getElem? (i := 50) rfl) rfl
theorem q7_51 : (Cond.code ⟨"FlashFiles", "faults", "()I"⟩ prog_1_method_25_code (1) (some .int) : Cond) ∈ TT := tt7 (List.mem_of_getElem? (i := 51) rfl) rfl
section OUT
variable {p : Program} {l : Launch} {e : Env} {R : Room} {s : State} {m : MethodId} {args : Array Value} {below : List Frame} {meth : Method} {c : Code} {H : Heap} {locs : List Loc} {cells slots : Nat} {Q : State → Prop}
variable {cc : ByteArray} {nL : Nat} {own : String} {D : va_G} {A : Nat → Prop} {ad : Nat → Nat} {ca : Nat → ClassId} {adM : Nat → Nat} {caM : Nat → ClassId} {o : Nat} {cO : ClassId} {g gM : St} {f : Nat → Int64} {pc : Nat} {ls : Array Slot} {rest : List Value} {rt : Option FieldType}
theorem lw_last {x : Int64} (X : FX p s m meth c cc nL rt own D (tyL ca caM cO) A) (hP : va_P D cls (wL ad ca adM caM o cO g gM f) H) (hD : va_D A (wL ad ca adM caM o cO g gM f)) (hS : va_S A s.heap H locs) (hdg : decode cc pc = .ok (.lastore, 1))
    (kk : ∀ (H1 : Heap) (locs1 : List Loc), va_P D cls (wL ad ca adM caM o cO g gM (vp_updL f 0 x)) H1 → va_D A (wL ad ca adM caM o cO g gM (vp_updL f 0 x)) → va_S A s.heap H1 locs1 → W p l e R s m args below meth c H1 locs1 cells slots Q (F0 m (pc + 1) ls rest)) : W p l e R s m args below meth c H locs cells slots Q (F0 m pc ls (.long x :: .int 0 :: .ref o :: rest)) := by
  obtain ⟨hx, hb, -, -, -, hown, hT, hK, -⟩ := X
  exact va_last hx hb hK hP hD hS 58 46 rfl rfl (by unfold vp_in; decide) hdg (fun H1 locs1 h1 h2 h3 => kk H1 locs1 h1 h2 h3)
theorem lw_lald (X : FX p s m meth c cc nL rt own D (tyL ca caM cO) A) (hP : va_P D cls (wL ad ca adM caM o cO g gM f) H) (hdg : decode cc pc = .ok (.laload, 1)) (kk : W p l e R s m args below meth c H locs cells slots Q (F0 m (pc + 1) ls (.long (f 0) :: rest))) : W p l e R s m args below meth c H locs cells slots Q (F0 m pc ls (.int 0 :: .ref o :: rest)) := by
  obtain ⟨hx, hb, -, -, -, hown, hT, hK, -⟩ := X
  exact va_lald hx hb hK hP 58 46 rfl rfl (by unfold vp_in; decide) hdg kk
end OUT
theorem kv_Law_15 : kV "FlashFilesLaw" 15 "FlashFiles" ⟨"FlashFiles", "feed", "(IIIII)I"⟩ prog_1_method_3_code 6 (some .int) 5 := ⟨by decide +kernel, q4_196, q4_197, q4_198, q1_1, q4_199⟩
theorem kv_Law_21 : kV "FlashFilesLaw" 21 "FlashFiles" ⟨"FlashFiles", "make", "(II)I"⟩ prog_1_method_5_code 3 (some .int) 2 := ⟨by decide +kernel, q4_228, q4_229, q4_230, q1_1, q4_231⟩
theorem kv_Law_27 : kV "FlashFilesLaw" 27 "FlashFiles" ⟨"FlashFiles", "makeDirectory", "(II)I"⟩ prog_1_method_6_code 3 (some .int) 2 := ⟨by decide +kernel, q5_114, q5_115, q5_116, q1_1, q5_117⟩
theorem kv_Law_30 : kV "FlashFilesLaw" 30 "FlashFiles" ⟨"FlashFiles", "link", "(III)I"⟩ prog_1_method_7_code 5 (some .int) 3 := ⟨by decide +kernel, q5_121, q5_122, q5_123, q1_1, q5_124⟩
theorem kv_Law_34 : kV "FlashFilesLaw" 34 "FlashFiles" ⟨"FlashFiles", "unlink", "(II)I"⟩ prog_1_method_8_code 5 (some .int) 2 := ⟨by decide +kernel, q5_142, q5_143, q5_144, q1_1, q5_145⟩
theorem kv_Law_37 : kV "FlashFilesLaw" 37 "FlashFiles" ⟨"FlashFiles", "removeDirectory", "(II)V"⟩ prog_1_method_9_code 5 none 2 := ⟨by decide +kernel, q5_185, q5_186, q5_187, q1_1, q5_188⟩
theorem kv_Law_40 : kV "FlashFilesLaw" 40 "FlashFiles" ⟨"FlashFiles", "rename", "(IIII)V"⟩ prog_1_method_10_code 10 none 4 := ⟨by decide +kernel, q5_194, q5_195, q5_196, q1_1, q5_197⟩
theorem kv_Law_44 : kV "FlashFilesLaw" 44 "FlashFiles" ⟨"FlashFiles", "find", "(II)I"⟩ prog_1_method_11_code 4 (some .int) 2 := ⟨by decide +kernel, q5_230, q5_231, q5_232, q1_1, q5_233⟩
theorem kv_Law_47 : kV "FlashFilesLaw" 47 "FlashFiles" ⟨"FlashFiles", "write", "(III)I"⟩ prog_1_method_12_code 5 (some .int) 3 := ⟨by decide +kernel, q5_237, q5_238, q5_239, q1_1, q6_0⟩
theorem kv_Law_50 : kV "FlashFilesLaw" 50 "FlashFiles" ⟨"FlashFiles", "read", "(III)I"⟩ prog_1_method_13_code 4 (some .int) 3 := ⟨by decide +kernel, q6_83, q6_84, q6_85, q1_1, q6_86⟩
theorem kv_Law_53 : kV "FlashFilesLaw" 53 "FlashFiles" ⟨"FlashFiles", "byteAt", "(I)I"⟩ prog_1_method_14_code 2 (some .int) 1 := ⟨by decide +kernel, q6_100, q6_101, q6_102, q1_1, q6_103⟩
theorem kv_Law_57 : kV "FlashFilesLaw" 57 "FlashFiles" ⟨"FlashFiles", "truncate", "(II)V"⟩ prog_1_method_15_code 3 none 2 := ⟨by decide +kernel, q6_109, q6_110, q6_111, q1_1, q6_112⟩
theorem kv_Law_60 : kV "FlashFilesLaw" 60 "FlashFiles" ⟨"FlashFiles", "fsync", "(I)I"⟩ prog_1_method_16_code 2 (some .int) 1 := ⟨by decide +kernel, q6_130, q6_131, q6_132, q1_1, q6_133⟩
theorem kv_Law_63 : kV "FlashFilesLaw" 63 "FlashFiles" ⟨"FlashFiles", "sync", "()I"⟩ prog_1_method_17_code 1 (some .int) 0 := ⟨by decide +kernel, q6_145, q6_146, q6_147, q1_1, q6_148⟩
theorem kv_Law_67 : kV "FlashFilesLaw" 67 "FlashFiles" ⟨"FlashFiles", "name", "(II)I"⟩ prog_1_method_18_code 3 (some .int) 2 := ⟨by decide +kernel, q6_156, q6_157, q6_158, q1_1, q6_159⟩
theorem kv_Law_7 : kV "FlashFilesLaw" 7 "FlashFiles" ⟨"FlashFiles", "format", "(II)V"⟩ prog_1_method_2_code 3 none 2 := ⟨by decide +kernel, q2_105, q2_106, q2_107, q1_1, q2_108⟩
theorem kv_Law_70 : kV "FlashFilesLaw" 70 "FlashFiles" ⟨"FlashFiles", "look", "(II)I"⟩ prog_1_method_19_code 4 (some .int) 2 := ⟨by decide +kernel, q6_182, q6_183, q6_184, q1_1, q6_185⟩
theorem kv_Law_73 : kV "FlashFilesLaw" 73 "FlashFiles" ⟨"FlashFiles", "count", "(I)I"⟩ prog_1_method_20_code 2 (some .int) 1 := ⟨by decide +kernel, q6_191, q6_192, q6_193, q1_1, q6_194⟩
theorem kv_Law_76 : kV "FlashFilesLaw" 76 "FlashFiles" ⟨"FlashFiles", "power", "()V"⟩ prog_1_method_21_code 1 none 0 := ⟨by decide +kernel, q6_211, q6_212, q6_213, q1_1, q6_214⟩
theorem kv_Law_79 : kV "FlashFilesLaw" 79 "FlashFiles" ⟨"FlashFiles", "cut", "(I)V"⟩ prog_1_method_22_code 2 none 1 := ⟨by decide +kernel, q6_218, q6_219, q6_220, q1_1, q6_221⟩
theorem kv_Law_83 : kV "FlashFilesLaw" 83 "FlashFiles" ⟨"FlashFiles", "mount", "()I"⟩ prog_1_method_23_code 1 (some .int) 0 := ⟨by decide +kernel, q6_225, q6_226, q6_227, q1_1, q6_228⟩
theorem kv_Law_86 : kV "FlashFilesLaw" 86 "FlashFiles" ⟨"FlashFiles", "clean", "()V"⟩ prog_1_method_24_code 1 none 0 := ⟨by decide +kernel, q7_37, q7_38, q7_39, q1_1, q7_40⟩
theorem kv_Law_89 : kV "FlashFilesLaw" 89 "FlashFiles" ⟨"FlashFiles", "faults", "()I"⟩ prog_1_method_25_code 1 (some .int) 0 := ⟨by decide +kernel, q7_48, q7_49, q7_50, q1_1, q7_51⟩
def Law_format (FU : Nat) (x1 : Int32) (x2 : Int32) (f : Nat → Int64) (g : St) : Option (Int32 × (Nat → Int64) × St) := (FF_format FU x1 x2 g).bind fun p => if p.1 = 0 then some ((0 : Int32), f, p.2.2) else if p.1 = 1 then some ((1 : Int32), f, p.2.2) else none
def Law_feed (FU : Nat) (x1 : Int32) (x2 : Int32) (x3 : Int32) (x4 : Int32) (x5 : Int32) (f : Nat → Int64) (g : St) : Option (Int32 × (Nat → Int64) × St) := (FF_feed FU x1 x2 x3 x4 x5 g).bind fun p => if p.1 = 0 then some ((0 : Int32), (vp_updL f 0 p.2.1.toInt64), p.2.2) else if p.1 = 2 then some ((1 : Int32), f, p.2.2) else none
def Law_make (FU : Nat) (x1 : Int32) (x2 : Int32) (f : Nat → Int64) (g : St) : Option (Int32 × (Nat → Int64) × St) := (FF_make FU x1 x2 g).bind fun p => if p.1 = 0 then some ((0 : Int32), (vp_updL f 0 p.2.1.toInt64), p.2.2) else if p.1 = 1 then some ((1 : Int32), f, p.2.2) else if p.1 = 2 then some ((2 : Int32), f, p.2.2) else if p.1 = 3 then some ((3 : Int32), f, p.2.2) else none
def Law_makeDirectory (FU : Nat) (x1 : Int32) (x2 : Int32) (f : Nat → Int64) (g : St) : Option (Int32 × (Nat → Int64) × St) := (FF_makeDirectory FU x1 x2 g).bind fun p => if p.1 = 0 then some ((0 : Int32), (vp_updL f 0 p.2.1.toInt64), p.2.2) else if p.1 = 1 then some ((1 : Int32), f, p.2.2) else if p.1 = 2 then some ((2 : Int32), f, p.2.2) else if p.1 = 3 then some ((3 : Int32), f, p.2.2) else none
def Law_link (FU : Nat) (x1 : Int32) (x2 : Int32) (x3 : Int32) (f : Nat → Int64) (g : St) : Option (Int32 × (Nat → Int64) × St) := (FF_link FU x1 x2 x3 g).bind fun p => if p.1 = 0 then some ((0 : Int32), (vp_updL f 0 p.2.1.toInt64), p.2.2) else if p.1 = 1 then some ((1 : Int32), f, p.2.2) else if p.1 = 2 then some ((2 : Int32), f, p.2.2) else if p.1 = 3 then some ((3 : Int32), f, p.2.2) else none
def Law_unlink (FU : Nat) (x1 : Int32) (x2 : Int32) (f : Nat → Int64) (g : St) : Option (Int32 × (Nat → Int64) × St) := (FF_unlink FU x1 x2 g).bind fun p => if p.1 = 0 then some ((0 : Int32), (vp_updL f 0 p.2.1.toInt64), p.2.2) else if p.1 = 1 then some ((1 : Int32), f, p.2.2) else if p.1 = 2 then some ((2 : Int32), f, p.2.2) else if p.1 = 3 then some ((3 : Int32), f, p.2.2) else none
def Law_removeDirectory (FU : Nat) (x1 : Int32) (x2 : Int32) (f : Nat → Int64) (g : St) : Option (Int32 × (Nat → Int64) × St) := (FF_removeDirectory FU x1 x2 g).bind fun p => if p.1 = 0 then some ((0 : Int32), f, p.2.2) else if p.1 = 1 then some ((1 : Int32), f, p.2.2) else if p.1 = 2 then some ((2 : Int32), f, p.2.2) else if p.1 = 3 then some ((3 : Int32), f, p.2.2) else none
def Law_rename (FU : Nat) (x1 : Int32) (x2 : Int32) (x3 : Int32) (x4 : Int32) (f : Nat → Int64) (g : St) : Option (Int32 × (Nat → Int64) × St) := (FF_rename FU x1 x2 x3 x4 g).bind fun p => if p.1 = 0 then some ((0 : Int32), f, p.2.2) else if p.1 = 1 then some ((1 : Int32), f, p.2.2) else if p.1 = 2 then some ((2 : Int32), f, p.2.2) else if p.1 = 3 then some ((3 : Int32), f, p.2.2) else none
def Law_find (FU : Nat) (x1 : Int32) (x2 : Int32) (f : Nat → Int64) (g : St) : Option (Int32 × (Nat → Int64) × St) := (FF_find FU x1 x2 g).bind fun p => if p.1 = 0 then some ((0 : Int32), (vp_updL f 0 p.2.1.toInt64), p.2.2) else if p.1 = 1 then some ((1 : Int32), f, p.2.2) else if p.1 = 2 then some ((2 : Int32), f, p.2.2) else none
def Law_write (FU : Nat) (x1 : Int32) (x2 : Int32) (x3 : Int32) (f : Nat → Int64) (g : St) : Option (Int32 × (Nat → Int64) × St) := (FF_write FU x1 x2 x3 g).bind fun p => if p.1 = 0 then some ((0 : Int32), (vp_updL f 0 p.2.1.toInt64), p.2.2) else if p.1 = 1 then some ((1 : Int32), f, p.2.2) else if p.1 = 2 then some ((2 : Int32), f, p.2.2) else if p.1 = 3 then some ((3 : Int32), f, p.2.2) else none
def Law_read (FU : Nat) (x1 : Int32) (x2 : Int32) (x3 : Int32) (f : Nat → Int64) (g : St) : Option (Int32 × (Nat → Int64) × St) := (FF_read FU x1 x2 x3 g).bind fun p => if p.1 = 0 then some ((0 : Int32), (vp_updL f 0 p.2.1.toInt64), p.2.2) else if p.1 = 1 then some ((1 : Int32), f, p.2.2) else if p.1 = 2 then some ((2 : Int32), f, p.2.2) else none
def Law_byteAt (FU : Nat) (x1 : Int32) (f : Nat → Int64) (g : St) : Option (Int32 × (Nat → Int64) × St) := (FF_byteAt FU x1 g).bind fun p => if p.1 = 0 then some ((0 : Int32), (vp_updL f 0 p.2.1.toInt64), p.2.2) else if p.1 = 1 then some ((1 : Int32), f, p.2.2) else none
def Law_truncate (FU : Nat) (x1 : Int32) (x2 : Int32) (f : Nat → Int64) (g : St) : Option (Int32 × (Nat → Int64) × St) := (FF_truncate FU x1 x2 g).bind fun p => if p.1 = 0 then some ((0 : Int32), f, p.2.2) else if p.1 = 1 then some ((1 : Int32), f, p.2.2) else if p.1 = 2 then some ((2 : Int32), f, p.2.2) else if p.1 = 3 then some ((3 : Int32), f, p.2.2) else none
def Law_fsync (FU : Nat) (x1 : Int32) (f : Nat → Int64) (g : St) : Option (Int32 × (Nat → Int64) × St) := (FF_fsync FU x1 g).bind fun p => if p.1 = 0 then some ((0 : Int32), (vp_updL f 0 p.2.1.toInt64), p.2.2) else if p.1 = 1 then some ((1 : Int32), f, p.2.2) else if p.1 = 2 then some ((2 : Int32), f, p.2.2) else if p.1 = 3 then some ((3 : Int32), f, p.2.2) else none
def Law_sync (FU : Nat)  (f : Nat → Int64) (g : St) : Option (Int32 × (Nat → Int64) × St) := (FF_sync FU  g).bind fun p => if p.1 = 0 then some ((0 : Int32), (vp_updL f 0 p.2.1.toInt64), p.2.2) else if p.1 = 2 then some ((1 : Int32), f, p.2.2) else if p.1 = 3 then some ((2 : Int32), f, p.2.2) else none
def Law_name (FU : Nat) (x1 : Int32) (x2 : Int32) (f : Nat → Int64) (g : St) : Option (Int32 × (Nat → Int64) × St) := (FF_name FU x1 x2 g).bind fun p => if p.1 = 0 then some ((0 : Int32), (vp_updL f 0 p.2.1.toInt64), p.2.2) else if p.1 = 1 then some ((1 : Int32), f, p.2.2) else if p.1 = 2 then some ((2 : Int32), f, p.2.2) else none
def Law_look (FU : Nat) (x1 : Int32) (x2 : Int32) (f : Nat → Int64) (g : St) : Option (Int32 × (Nat → Int64) × St) := (FF_look FU x1 x2 g).bind fun p => if p.1 = 0 then some ((0 : Int32), (vp_updL f 0 p.2.1.toInt64), p.2.2) else if p.1 = 1 then some ((1 : Int32), f, p.2.2) else if p.1 = 2 then some ((2 : Int32), f, p.2.2) else none
def Law_count (FU : Nat) (x1 : Int32) (f : Nat → Int64) (g : St) : Option (Int32 × (Nat → Int64) × St) := (FF_count FU x1 g).bind fun p => if p.1 = 0 then some ((0 : Int32), (vp_updL f 0 p.2.1.toInt64), p.2.2) else if p.1 = 1 then some ((1 : Int32), f, p.2.2) else if p.1 = 2 then some ((2 : Int32), f, p.2.2) else none
def Law_power (FU : Nat)  (f : Nat → Int64) (g : St) : Option (Int32 × (Nat → Int64) × St) := (FF_power FU  g).bind fun p => if p.1 = 0 then some ((0 : Int32), f, p.2.2) else if p.1 = 2 then some ((1 : Int32), f, p.2.2) else none
def Law_cut (FU : Nat) (x1 : Int32) (f : Nat → Int64) (g : St) : Option (Int32 × (Nat → Int64) × St) := (FF_cut FU x1 g).bind fun p => if p.1 = 0 then some ((0 : Int32), f, p.2.2) else if p.1 = 2 then some ((1 : Int32), f, p.2.2) else none
def Law_mount (FU : Nat)  (f : Nat → Int64) (g : St) : Option (Int32 × (Nat → Int64) × St) := (FF_mount FU  g).bind fun p => if p.1 = 0 then some ((0 : Int32), (vp_updL f 0 p.2.1.toInt64), p.2.2) else if p.1 = 2 then some ((1 : Int32), f, p.2.2) else none
def Law_clean (FU : Nat)  (f : Nat → Int64) (g : St) : Option (Int32 × (Nat → Int64) × St) := (FF_clean FU  g).bind fun p => if p.1 = 0 then some ((0 : Int32), f, p.2.2) else if p.1 = 2 then some ((1 : Int32), f, p.2.2) else none
def Law_faults (FU : Nat)  (f : Nat → Int64) (g : St) : Option (Int32 × (Nat → Int64) × St) := (FF_faults FU  g).bind fun p => if p.1 = 0 then some ((0 : Int32), (vp_updL f 0 p.2.1.toInt64), p.2.2) else if p.1 = 2 then some ((1 : Int32), f, p.2.2) else none
theorem d_Law_format_0 : decode method_3_code 0 = .ok (.aload_n 0, 1) := by decide +kernel
theorem d_Law_format_1 : decode method_3_code 1 = .ok (.iload_n 1, 1) := by decide +kernel
theorem d_Law_format_2 : decode method_3_code 2 = .ok (.iload_n 2, 1) := by decide +kernel
theorem d_Law_format_3 : decode method_3_code 3 = .ok (.invokevirtual 7, 3) := by decide +kernel
theorem d_Law_format_6 : decode method_3_code 6 = .ok (.goto 6, 3) := by decide +kernel
theorem d_Law_format_9 : decode method_3_code 9 = .ok (.astore_n 3, 1) := by decide +kernel
theorem d_Law_format_10 : decode method_3_code 10 = .ok (.iconst 1, 1) := by decide +kernel
theorem d_Law_format_11 : decode method_3_code 11 = .ok (.ireturn, 1) := by decide +kernel
theorem d_Law_format_12 : decode method_3_code 12 = .ok (.iconst 0, 1) := by decide +kernel
theorem d_Law_format_13 : decode method_3_code 13 = .ok (.ireturn, 1) := by decide +kernel
set_option maxHeartbeats 4000000 in
set_option maxRecDepth 100000 in
theorem h_format {l : Launch} {D : va_G} {ad : Nat → Nat} {ca : Nat → ClassId} {adM : Nat → Nat} {caM : Nat → ClassId} {o : Nat} {cO : ClassId} {FU : Nat} {x1 : Int32} {x2 : Int32} {g gM : St} {f : Nat → Int64} {q : Int32 × (Nat → Int64) × St} (h : Law_format FU x1 x2 f g = some q) : HC l ⟨"FlashFilesLaw", "format", "(LFlashFiles;II)I"⟩ method_3_code 4 [(0, 6, 9, 13)] 11 D (tyL ca caM cO) (wL ad ca adM caM o cO g gM f) [.ref (ad 0), .int x1, .int x2] q.1 (wL ad ca adM caM o cO q.2.2 gM q.2.1) := by
  refine HC.fx (by decide) (Nat.le_of_ble_eq_true rfl) ?_
  intro p e s m below meth c A ls X htab hZ hN htr hP hD hl
  have hl : lv_has ls 4 [(0, .ref (ad 0)), (1, .int x1), (2, .int x2)] := hl
  have hS : va_S A s.heap s.heap [] := va_S.rf
  have hx := X.1
  have hb := X.2.1
  unfold Law_format at h
  obtain ⟨p1, e1, h⟩ := bd_some h
  refine lv_aload_n hx hb d_Law_format_0 rfl (lv_at hl 0 rfl) ?_
  refine lv_iload_n hx hb d_Law_format_1 rfl (lv_at hl 1 rfl) ?_
  refine lv_iload_n hx hb d_Law_format_2 rfl (lv_at hl 2 rfl) ?_
  refine xf_V (pre := []) (As := [.int x1, .int x2]) (X.on (vk_l X.2.2.2.2.2.2.2.1)) (m_FF_format e1) hZ htr hP hD hS kv_Law_7 ⟨⟨Nat.le_of_ble_eq_true rfl, Nat.le_of_ble_eq_true rfl⟩, Nat.le_of_ble_eq_true rfl, Nat.le_of_ble_eq_true rfl⟩ 0 rfl rfl rfl hl.1 rfl (Nat.le_of_ble_eq_true rfl) d_Law_format_3 (fun hk H locs hP hD hS => ?_) (fun hk H locs q9 ce hP hD hS hce hcv hcl => ?_)
  · have h := if_t hk h
    cases h
    have hP : va_P D cls (wL ad ca adM caM o cO p1.2.2 gM f) H := hP
    have hD : va_D A (wL ad ca adM caM o cO p1.2.2 gM f) := hD
    refine W.eq (g2 := F0 m 6 ls []) rfl ?_
    refine lv_goto (tgt := 12) hx hb d_Law_format_6 (by decide) ?_
    refine lv_iconst (v := 0) hx hb d_Law_format_12 (by decide) ?_
    exact hx_iret X hP hD hS (by decide) (by decide) d_Law_format_13
  · have h := if_f hk h
    have hP : va_P D cls (wL ad ca adM caM o cO p1.2.2 gM f) H := hP
    have hD : va_D A (wL ad ca adM caM o cO p1.2.2 gM f) := hD
    have hown : s.vm.findClass "FlashFilesLaw" = some m.cls := X.2.2.2.2.2.1
    have hTB := X.2.2.2.2.2.2.1
    obtain ⟨hc0, h9⟩ | ⟨hc0, h9⟩ := if_some h
    · cases h9
      have hcl : s.vm.findClass "java/lang/IllegalArgumentException" = some ce.cls := by rw [hc0] at hcl; exact hcl
      refine xx_catch (h := 9) hce hcv (Vm.classAt_of_findClass hcl) (fun hpl => by rw [htab]; exact sel_hit (E := "java/lang/IllegalArgumentException") hpl hown hTB q2_104 q2_111 hcl (by decide) (by decide) rfl) ?_
      refine lv_astore_n hx hb d_Law_format_9 rfl hl (by decide) rfl (fun ls hl => ?_)
      refine lv_iconst (v := 1) hx hb d_Law_format_10 (by decide) ?_
      exact hx_iret X hP hD hS (by decide) (by decide) d_Law_format_11
    have h := h9
    cases h
theorem d_Law_feed_0 : decode method_4_code 0 = .ok (.aload 6, 2) := by decide +kernel
theorem d_Law_feed_2 : decode method_4_code 2 = .ok (.iconst 0, 1) := by decide +kernel
theorem d_Law_feed_3 : decode method_4_code 3 = .ok (.aload_n 0, 1) := by decide +kernel
theorem d_Law_feed_4 : decode method_4_code 4 = .ok (.iload_n 1, 1) := by decide +kernel
theorem d_Law_feed_5 : decode method_4_code 5 = .ok (.iload_n 2, 1) := by decide +kernel
theorem d_Law_feed_6 : decode method_4_code 6 = .ok (.iload_n 3, 1) := by decide +kernel
theorem d_Law_feed_7 : decode method_4_code 7 = .ok (.iload 4, 2) := by decide +kernel
theorem d_Law_feed_9 : decode method_4_code 9 = .ok (.iload 5, 2) := by decide +kernel
theorem d_Law_feed_11 : decode method_4_code 11 = .ok (.invokevirtual 15, 3) := by decide +kernel
theorem d_Law_feed_14 : decode method_4_code 14 = .ok (.i2l, 1) := by decide +kernel
theorem d_Law_feed_15 : decode method_4_code 15 = .ok (.lastore, 1) := by decide +kernel
theorem d_Law_feed_16 : decode method_4_code 16 = .ok (.goto 7, 3) := by decide +kernel
theorem d_Law_feed_19 : decode method_4_code 19 = .ok (.astore 7, 2) := by decide +kernel
theorem d_Law_feed_21 : decode method_4_code 21 = .ok (.iconst 1, 1) := by decide +kernel
theorem d_Law_feed_22 : decode method_4_code 22 = .ok (.ireturn, 1) := by decide +kernel
theorem d_Law_feed_23 : decode method_4_code 23 = .ok (.iconst 0, 1) := by decide +kernel
theorem d_Law_feed_24 : decode method_4_code 24 = .ok (.ireturn, 1) := by decide +kernel
set_option maxHeartbeats 4000000 in
set_option maxRecDepth 100000 in
theorem h_feed {l : Launch} {D : va_G} {ad : Nat → Nat} {ca : Nat → ClassId} {adM : Nat → Nat} {caM : Nat → ClassId} {o : Nat} {cO : ClassId} {FU : Nat} {x1 : Int32} {x2 : Int32} {x3 : Int32} {x4 : Int32} {x5 : Int32} {g gM : St} {f : Nat → Int64} {q : Int32 × (Nat → Int64) × St} (h : Law_feed FU x1 x2 x3 x4 x5 f g = some q) : HC l ⟨"FlashFilesLaw", "feed", "(LFlashFiles;IIIII[J)I"⟩ method_4_code 8 [(0, 16, 19, 19)] 11 D (tyL ca caM cO) (wL ad ca adM caM o cO g gM f) [.ref (ad 0), .int x1, .int x2, .int x3, .int x4, .int x5, .ref o] q.1 (wL ad ca adM caM o cO q.2.2 gM q.2.1) := by
  refine HC.fx (by decide) (Nat.le_of_ble_eq_true rfl) ?_
  intro p e s m below meth c A ls X htab hZ hN htr hP hD hl
  have hl : lv_has ls 8 [(0, .ref (ad 0)), (1, .int x1), (2, .int x2), (3, .int x3), (4, .int x4), (5, .int x5), (6, .ref o)] := hl
  have hS : va_S A s.heap s.heap [] := va_S.rf
  have hx := X.1
  have hb := X.2.1
  unfold Law_feed at h
  obtain ⟨p1, e1, h⟩ := bd_some h
  refine lv_aload hx hb d_Law_feed_0 (lv_at hl 6 rfl) ?_
  refine lv_iconst (v := 0) hx hb d_Law_feed_2 (by decide) ?_
  refine lv_aload_n hx hb d_Law_feed_3 rfl (lv_at hl 0 rfl) ?_
  refine lv_iload_n hx hb d_Law_feed_4 rfl (lv_at hl 1 rfl) ?_
  refine lv_iload_n hx hb d_Law_feed_5 rfl (lv_at hl 2 rfl) ?_
  refine lv_iload_n hx hb d_Law_feed_6 rfl (lv_at hl 3 rfl) ?_
  refine lv_iload hx hb d_Law_feed_7 (lv_at hl 4 rfl) ?_
  refine lv_iload hx hb d_Law_feed_9 (lv_at hl 5 rfl) ?_
  refine xf_V (pre := []) (As := [.int x1, .int x2, .int x3, .int x4, .int x5]) (X.on (vk_l X.2.2.2.2.2.2.2.1)) (m_FF_feed e1) hZ htr hP hD hS kv_Law_15 ⟨⟨Nat.le_of_ble_eq_true rfl, Nat.le_of_ble_eq_true rfl⟩, Nat.le_of_ble_eq_true rfl, Nat.le_of_ble_eq_true rfl⟩ 0 rfl rfl rfl hl.1 rfl (Nat.le_of_ble_eq_true rfl) d_Law_feed_11 (fun hk H locs hP hD hS => ?_) (fun hk H locs q9 ce hP hD hS hce hcv hcl => ?_)
  · have h := if_t hk h
    cases h
    have hP : va_P D cls (wL ad ca adM caM o cO p1.2.2 gM f) H := hP
    have hD : va_D A (wL ad ca adM caM o cO p1.2.2 gM f) := hD
    refine W.eq (g2 := F0 m 14 ls [.int p1.2.1, .int 0, .ref o]) rfl ?_
    refine lv_i2l (v := p1.2.1.toInt64) hx hb d_Law_feed_14 rfl ?_
    refine lw_last X hP hD hS d_Law_feed_15 (fun H locs hP hD hS => ?_)
    refine lv_goto (tgt := 23) hx hb d_Law_feed_16 (by decide) ?_
    refine lv_iconst (v := 0) hx hb d_Law_feed_23 (by decide) ?_
    exact hx_iret X hP hD hS (by decide) (by decide) d_Law_feed_24
  · have h := if_f hk h
    have hP : va_P D cls (wL ad ca adM caM o cO p1.2.2 gM f) H := hP
    have hD : va_D A (wL ad ca adM caM o cO p1.2.2 gM f) := hD
    have hown : s.vm.findClass "FlashFilesLaw" = some m.cls := X.2.2.2.2.2.1
    have hTB := X.2.2.2.2.2.2.1
    obtain ⟨hc0, h9⟩ | ⟨hc0, h9⟩ := if_some h
    · cases h9
      have hcl : s.vm.findClass "java/lang/IllegalStateException" = some ce.cls := by rw [hc0] at hcl; exact hcl
      refine xx_catch (h := 19) hce hcv (Vm.classAt_of_findClass hcl) (fun hpl => by rw [htab]; exact sel_hit (E := "java/lang/IllegalStateException") hpl hown hTB q4_195 q4_202 hcl (by decide) (by decide) rfl) ?_
      refine lv_astore hx hb d_Law_feed_19 hl (by decide) rfl (fun ls hl => ?_)
      refine lv_iconst (v := 1) hx hb d_Law_feed_21 (by decide) ?_
      exact hx_iret X hP hD hS (by decide) (by decide) d_Law_feed_22
    have h := h9
    cases h
theorem d_Law_make_0 : decode method_5_code 0 = .ok (.aload_n 3, 1) := by decide +kernel
theorem d_Law_make_1 : decode method_5_code 1 = .ok (.iconst 0, 1) := by decide +kernel
theorem d_Law_make_2 : decode method_5_code 2 = .ok (.aload_n 0, 1) := by decide +kernel
theorem d_Law_make_3 : decode method_5_code 3 = .ok (.iload_n 1, 1) := by decide +kernel
theorem d_Law_make_4 : decode method_5_code 4 = .ok (.iload_n 2, 1) := by decide +kernel
theorem d_Law_make_5 : decode method_5_code 5 = .ok (.invokevirtual 21, 3) := by decide +kernel
theorem d_Law_make_8 : decode method_5_code 8 = .ok (.i2l, 1) := by decide +kernel
theorem d_Law_make_9 : decode method_5_code 9 = .ok (.lastore, 1) := by decide +kernel
theorem d_Law_make_10 : decode method_5_code 10 = .ok (.goto 15, 3) := by decide +kernel
theorem d_Law_make_13 : decode method_5_code 13 = .ok (.astore 4, 2) := by decide +kernel
theorem d_Law_make_15 : decode method_5_code 15 = .ok (.iconst 1, 1) := by decide +kernel
theorem d_Law_make_16 : decode method_5_code 16 = .ok (.ireturn, 1) := by decide +kernel
theorem d_Law_make_17 : decode method_5_code 17 = .ok (.astore 4, 2) := by decide +kernel
theorem d_Law_make_19 : decode method_5_code 19 = .ok (.iconst 2, 1) := by decide +kernel
theorem d_Law_make_20 : decode method_5_code 20 = .ok (.ireturn, 1) := by decide +kernel
theorem d_Law_make_21 : decode method_5_code 21 = .ok (.astore 4, 2) := by decide +kernel
theorem d_Law_make_23 : decode method_5_code 23 = .ok (.iconst 3, 1) := by decide +kernel
theorem d_Law_make_24 : decode method_5_code 24 = .ok (.ireturn, 1) := by decide +kernel
theorem d_Law_make_25 : decode method_5_code 25 = .ok (.iconst 0, 1) := by decide +kernel
theorem d_Law_make_26 : decode method_5_code 26 = .ok (.ireturn, 1) := by decide +kernel
set_option maxHeartbeats 4000000 in
set_option maxRecDepth 100000 in
theorem h_make {l : Launch} {D : va_G} {ad : Nat → Nat} {ca : Nat → ClassId} {adM : Nat → Nat} {caM : Nat → ClassId} {o : Nat} {cO : ClassId} {FU : Nat} {x1 : Int32} {x2 : Int32} {g gM : St} {f : Nat → Int64} {q : Int32 × (Nat → Int64) × St} (h : Law_make FU x1 x2 f g = some q) : HC l ⟨"FlashFilesLaw", "make", "(LFlashFiles;II[J)I"⟩ method_5_code 5 [(0, 10, 13, 13), (0, 10, 17, 19), (0, 10, 21, 25)] 11 D (tyL ca caM cO) (wL ad ca adM caM o cO g gM f) [.ref (ad 0), .int x1, .int x2, .ref o] q.1 (wL ad ca adM caM o cO q.2.2 gM q.2.1) := by
  refine HC.fx (by decide) (Nat.le_of_ble_eq_true rfl) ?_
  intro p e s m below meth c A ls X htab hZ hN htr hP hD hl
  have hl : lv_has ls 5 [(0, .ref (ad 0)), (1, .int x1), (2, .int x2), (3, .ref o)] := hl
  have hS : va_S A s.heap s.heap [] := va_S.rf
  have hx := X.1
  have hb := X.2.1
  unfold Law_make at h
  obtain ⟨p1, e1, h⟩ := bd_some h
  refine lv_aload_n hx hb d_Law_make_0 rfl (lv_at hl 3 rfl) ?_
  refine lv_iconst (v := 0) hx hb d_Law_make_1 (by decide) ?_
  refine lv_aload_n hx hb d_Law_make_2 rfl (lv_at hl 0 rfl) ?_
  refine lv_iload_n hx hb d_Law_make_3 rfl (lv_at hl 1 rfl) ?_
  refine lv_iload_n hx hb d_Law_make_4 rfl (lv_at hl 2 rfl) ?_
  refine xf_V (pre := []) (As := [.int x1, .int x2]) (X.on (vk_l X.2.2.2.2.2.2.2.1)) (m_FF_make e1) hZ htr hP hD hS kv_Law_21 ⟨⟨Nat.le_of_ble_eq_true rfl, Nat.le_of_ble_eq_true rfl⟩, Nat.le_of_ble_eq_true rfl, Nat.le_of_ble_eq_true rfl⟩ 0 rfl rfl rfl hl.1 rfl (Nat.le_of_ble_eq_true rfl) d_Law_make_5 (fun hk H locs hP hD hS => ?_) (fun hk H locs q9 ce hP hD hS hce hcv hcl => ?_)
  · have h := if_t hk h
    cases h
    have hP : va_P D cls (wL ad ca adM caM o cO p1.2.2 gM f) H := hP
    have hD : va_D A (wL ad ca adM caM o cO p1.2.2 gM f) := hD
    refine W.eq (g2 := F0 m 8 ls [.int p1.2.1, .int 0, .ref o]) rfl ?_
    refine lv_i2l (v := p1.2.1.toInt64) hx hb d_Law_make_8 rfl ?_
    refine lw_last X hP hD hS d_Law_make_9 (fun H locs hP hD hS => ?_)
    refine lv_goto (tgt := 25) hx hb d_Law_make_10 (by decide) ?_
    refine lv_iconst (v := 0) hx hb d_Law_make_25 (by decide) ?_
    exact hx_iret X hP hD hS (by decide) (by decide) d_Law_make_26
  · have h := if_f hk h
    have hP : va_P D cls (wL ad ca adM caM o cO p1.2.2 gM f) H := hP
    have hD : va_D A (wL ad ca adM caM o cO p1.2.2 gM f) := hD
    have hown : s.vm.findClass "FlashFilesLaw" = some m.cls := X.2.2.2.2.2.1
    have hTB := X.2.2.2.2.2.2.1
    obtain ⟨hc0, h9⟩ | ⟨hc0, h9⟩ := if_some h
    · cases h9
      have hcl : s.vm.findClass "java/lang/IllegalArgumentException" = some ce.cls := by rw [hc0] at hcl; exact hcl
      refine xx_catch (h := 13) hce hcv (Vm.classAt_of_findClass hcl) (fun hpl => by rw [htab]; exact sel_hit (E := "java/lang/IllegalArgumentException") hpl hown hTB q2_104 q2_111 hcl (by decide) (by decide) rfl) ?_
      refine lv_astore hx hb d_Law_make_13 hl (by decide) rfl (fun ls hl => ?_)
      refine lv_iconst (v := 1) hx hb d_Law_make_15 (by decide) ?_
      exact hx_iret X hP hD hS (by decide) (by decide) d_Law_make_16
    have h := h9
    obtain ⟨hc1, h9⟩ | ⟨hc1, h9⟩ := if_some h
    · cases h9
      have hcl : s.vm.findClass "java/lang/IllegalStateException" = some ce.cls := by rw [hc1] at hcl; exact hcl
      refine xx_catch (h := 17) hce hcv (Vm.classAt_of_findClass hcl) (fun hpl => by rw [htab]; exact sel_pass (E := "java/lang/IllegalStateException") (N := "java/lang/IllegalArgumentException") hpl hown hTB q2_104 hN.1 hcl (by decide) (by decide) (sel_hit (E := "java/lang/IllegalStateException") hpl hown hTB q4_195 q4_202 hcl (by decide) (by decide) rfl)) ?_
      refine lv_astore hx hb d_Law_make_17 hl (by decide) rfl (fun ls hl => ?_)
      refine lv_iconst (v := 2) hx hb d_Law_make_19 (by decide) ?_
      exact hx_iret X hP hD hS (by decide) (by decide) d_Law_make_20
    have h := h9
    obtain ⟨hc2, h9⟩ | ⟨hc2, h9⟩ := if_some h
    · cases h9
      have hcl : s.vm.findClass "java/lang/UnsupportedOperationException" = some ce.cls := by rw [hc2] at hcl; exact hcl
      refine xx_catch (h := 21) hce hcv (Vm.classAt_of_findClass hcl) (fun hpl => by rw [htab]; exact sel_pass (E := "java/lang/UnsupportedOperationException") (N := "java/lang/IllegalArgumentException") hpl hown hTB q2_104 hN.2.1 hcl (by decide) (by decide) (sel_pass (E := "java/lang/UnsupportedOperationException") (N := "java/lang/IllegalStateException") hpl hown hTB q4_195 hN.2.2 hcl (by decide) (by decide) (sel_hit (E := "java/lang/UnsupportedOperationException") hpl hown hTB q4_227 q5_76 hcl (by decide) (by decide) rfl))) ?_
      refine lv_astore hx hb d_Law_make_21 hl (by decide) rfl (fun ls hl => ?_)
      refine lv_iconst (v := 3) hx hb d_Law_make_23 (by decide) ?_
      exact hx_iret X hP hD hS (by decide) (by decide) d_Law_make_24
    have h := h9
    cases h
theorem d_Law_makeDirectory_0 : decode method_6_code 0 = .ok (.aload_n 3, 1) := by decide +kernel
theorem d_Law_makeDirectory_1 : decode method_6_code 1 = .ok (.iconst 0, 1) := by decide +kernel
theorem d_Law_makeDirectory_2 : decode method_6_code 2 = .ok (.aload_n 0, 1) := by decide +kernel
theorem d_Law_makeDirectory_3 : decode method_6_code 3 = .ok (.iload_n 1, 1) := by decide +kernel
theorem d_Law_makeDirectory_4 : decode method_6_code 4 = .ok (.iload_n 2, 1) := by decide +kernel
theorem d_Law_makeDirectory_5 : decode method_6_code 5 = .ok (.invokevirtual 27, 3) := by decide +kernel
theorem d_Law_makeDirectory_8 : decode method_6_code 8 = .ok (.i2l, 1) := by decide +kernel
theorem d_Law_makeDirectory_9 : decode method_6_code 9 = .ok (.lastore, 1) := by decide +kernel
theorem d_Law_makeDirectory_10 : decode method_6_code 10 = .ok (.goto 15, 3) := by decide +kernel
theorem d_Law_makeDirectory_13 : decode method_6_code 13 = .ok (.astore 4, 2) := by decide +kernel
theorem d_Law_makeDirectory_15 : decode method_6_code 15 = .ok (.iconst 1, 1) := by decide +kernel
theorem d_Law_makeDirectory_16 : decode method_6_code 16 = .ok (.ireturn, 1) := by decide +kernel
theorem d_Law_makeDirectory_17 : decode method_6_code 17 = .ok (.astore 4, 2) := by decide +kernel
theorem d_Law_makeDirectory_19 : decode method_6_code 19 = .ok (.iconst 2, 1) := by decide +kernel
theorem d_Law_makeDirectory_20 : decode method_6_code 20 = .ok (.ireturn, 1) := by decide +kernel
theorem d_Law_makeDirectory_21 : decode method_6_code 21 = .ok (.astore 4, 2) := by decide +kernel
theorem d_Law_makeDirectory_23 : decode method_6_code 23 = .ok (.iconst 3, 1) := by decide +kernel
theorem d_Law_makeDirectory_24 : decode method_6_code 24 = .ok (.ireturn, 1) := by decide +kernel
theorem d_Law_makeDirectory_25 : decode method_6_code 25 = .ok (.iconst 0, 1) := by decide +kernel
theorem d_Law_makeDirectory_26 : decode method_6_code 26 = .ok (.ireturn, 1) := by decide +kernel
set_option maxHeartbeats 4000000 in
set_option maxRecDepth 100000 in
theorem h_makeDirectory {l : Launch} {D : va_G} {ad : Nat → Nat} {ca : Nat → ClassId} {adM : Nat → Nat} {caM : Nat → ClassId} {o : Nat} {cO : ClassId} {FU : Nat} {x1 : Int32} {x2 : Int32} {g gM : St} {f : Nat → Int64} {q : Int32 × (Nat → Int64) × St} (h : Law_makeDirectory FU x1 x2 f g = some q) : HC l ⟨"FlashFilesLaw", "makeDirectory", "(LFlashFiles;II[J)I"⟩ method_6_code 5 [(0, 10, 13, 13), (0, 10, 17, 19), (0, 10, 21, 25)] 11 D (tyL ca caM cO) (wL ad ca adM caM o cO g gM f) [.ref (ad 0), .int x1, .int x2, .ref o] q.1 (wL ad ca adM caM o cO q.2.2 gM q.2.1) := by
  refine HC.fx (by decide) (Nat.le_of_ble_eq_true rfl) ?_
  intro p e s m below meth c A ls X htab hZ hN htr hP hD hl
  have hl : lv_has ls 5 [(0, .ref (ad 0)), (1, .int x1), (2, .int x2), (3, .ref o)] := hl
  have hS : va_S A s.heap s.heap [] := va_S.rf
  have hx := X.1
  have hb := X.2.1
  unfold Law_makeDirectory at h
  obtain ⟨p1, e1, h⟩ := bd_some h
  refine lv_aload_n hx hb d_Law_makeDirectory_0 rfl (lv_at hl 3 rfl) ?_
  refine lv_iconst (v := 0) hx hb d_Law_makeDirectory_1 (by decide) ?_
  refine lv_aload_n hx hb d_Law_makeDirectory_2 rfl (lv_at hl 0 rfl) ?_
  refine lv_iload_n hx hb d_Law_makeDirectory_3 rfl (lv_at hl 1 rfl) ?_
  refine lv_iload_n hx hb d_Law_makeDirectory_4 rfl (lv_at hl 2 rfl) ?_
  refine xf_V (pre := []) (As := [.int x1, .int x2]) (X.on (vk_l X.2.2.2.2.2.2.2.1)) (m_FF_makeDirectory e1) hZ htr hP hD hS kv_Law_27 ⟨⟨Nat.le_of_ble_eq_true rfl, Nat.le_of_ble_eq_true rfl⟩, Nat.le_of_ble_eq_true rfl, Nat.le_of_ble_eq_true rfl⟩ 0 rfl rfl rfl hl.1 rfl (Nat.le_of_ble_eq_true rfl) d_Law_makeDirectory_5 (fun hk H locs hP hD hS => ?_) (fun hk H locs q9 ce hP hD hS hce hcv hcl => ?_)
  · have h := if_t hk h
    cases h
    have hP : va_P D cls (wL ad ca adM caM o cO p1.2.2 gM f) H := hP
    have hD : va_D A (wL ad ca adM caM o cO p1.2.2 gM f) := hD
    refine W.eq (g2 := F0 m 8 ls [.int p1.2.1, .int 0, .ref o]) rfl ?_
    refine lv_i2l (v := p1.2.1.toInt64) hx hb d_Law_makeDirectory_8 rfl ?_
    refine lw_last X hP hD hS d_Law_makeDirectory_9 (fun H locs hP hD hS => ?_)
    refine lv_goto (tgt := 25) hx hb d_Law_makeDirectory_10 (by decide) ?_
    refine lv_iconst (v := 0) hx hb d_Law_makeDirectory_25 (by decide) ?_
    exact hx_iret X hP hD hS (by decide) (by decide) d_Law_makeDirectory_26
  · have h := if_f hk h
    have hP : va_P D cls (wL ad ca adM caM o cO p1.2.2 gM f) H := hP
    have hD : va_D A (wL ad ca adM caM o cO p1.2.2 gM f) := hD
    have hown : s.vm.findClass "FlashFilesLaw" = some m.cls := X.2.2.2.2.2.1
    have hTB := X.2.2.2.2.2.2.1
    obtain ⟨hc0, h9⟩ | ⟨hc0, h9⟩ := if_some h
    · cases h9
      have hcl : s.vm.findClass "java/lang/IllegalArgumentException" = some ce.cls := by rw [hc0] at hcl; exact hcl
      refine xx_catch (h := 13) hce hcv (Vm.classAt_of_findClass hcl) (fun hpl => by rw [htab]; exact sel_hit (E := "java/lang/IllegalArgumentException") hpl hown hTB q2_104 q2_111 hcl (by decide) (by decide) rfl) ?_
      refine lv_astore hx hb d_Law_makeDirectory_13 hl (by decide) rfl (fun ls hl => ?_)
      refine lv_iconst (v := 1) hx hb d_Law_makeDirectory_15 (by decide) ?_
      exact hx_iret X hP hD hS (by decide) (by decide) d_Law_makeDirectory_16
    have h := h9
    obtain ⟨hc1, h9⟩ | ⟨hc1, h9⟩ := if_some h
    · cases h9
      have hcl : s.vm.findClass "java/lang/IllegalStateException" = some ce.cls := by rw [hc1] at hcl; exact hcl
      refine xx_catch (h := 17) hce hcv (Vm.classAt_of_findClass hcl) (fun hpl => by rw [htab]; exact sel_pass (E := "java/lang/IllegalStateException") (N := "java/lang/IllegalArgumentException") hpl hown hTB q2_104 hN.1 hcl (by decide) (by decide) (sel_hit (E := "java/lang/IllegalStateException") hpl hown hTB q4_195 q4_202 hcl (by decide) (by decide) rfl)) ?_
      refine lv_astore hx hb d_Law_makeDirectory_17 hl (by decide) rfl (fun ls hl => ?_)
      refine lv_iconst (v := 2) hx hb d_Law_makeDirectory_19 (by decide) ?_
      exact hx_iret X hP hD hS (by decide) (by decide) d_Law_makeDirectory_20
    have h := h9
    obtain ⟨hc2, h9⟩ | ⟨hc2, h9⟩ := if_some h
    · cases h9
      have hcl : s.vm.findClass "java/lang/UnsupportedOperationException" = some ce.cls := by rw [hc2] at hcl; exact hcl
      refine xx_catch (h := 21) hce hcv (Vm.classAt_of_findClass hcl) (fun hpl => by rw [htab]; exact sel_pass (E := "java/lang/UnsupportedOperationException") (N := "java/lang/IllegalArgumentException") hpl hown hTB q2_104 hN.2.1 hcl (by decide) (by decide) (sel_pass (E := "java/lang/UnsupportedOperationException") (N := "java/lang/IllegalStateException") hpl hown hTB q4_195 hN.2.2 hcl (by decide) (by decide) (sel_hit (E := "java/lang/UnsupportedOperationException") hpl hown hTB q4_227 q5_76 hcl (by decide) (by decide) rfl))) ?_
      refine lv_astore hx hb d_Law_makeDirectory_21 hl (by decide) rfl (fun ls hl => ?_)
      refine lv_iconst (v := 3) hx hb d_Law_makeDirectory_23 (by decide) ?_
      exact hx_iret X hP hD hS (by decide) (by decide) d_Law_makeDirectory_24
    have h := h9
    cases h
theorem d_Law_link_0 : decode method_7_code 0 = .ok (.aload 4, 2) := by decide +kernel
theorem d_Law_link_2 : decode method_7_code 2 = .ok (.iconst 0, 1) := by decide +kernel
theorem d_Law_link_3 : decode method_7_code 3 = .ok (.aload_n 0, 1) := by decide +kernel
theorem d_Law_link_4 : decode method_7_code 4 = .ok (.iload_n 1, 1) := by decide +kernel
theorem d_Law_link_5 : decode method_7_code 5 = .ok (.iload_n 2, 1) := by decide +kernel
theorem d_Law_link_6 : decode method_7_code 6 = .ok (.iload_n 3, 1) := by decide +kernel
theorem d_Law_link_7 : decode method_7_code 7 = .ok (.invokevirtual 30, 3) := by decide +kernel
theorem d_Law_link_10 : decode method_7_code 10 = .ok (.i2l, 1) := by decide +kernel
theorem d_Law_link_11 : decode method_7_code 11 = .ok (.lastore, 1) := by decide +kernel
theorem d_Law_link_12 : decode method_7_code 12 = .ok (.goto 15, 3) := by decide +kernel
theorem d_Law_link_15 : decode method_7_code 15 = .ok (.astore 5, 2) := by decide +kernel
theorem d_Law_link_17 : decode method_7_code 17 = .ok (.iconst 1, 1) := by decide +kernel
theorem d_Law_link_18 : decode method_7_code 18 = .ok (.ireturn, 1) := by decide +kernel
theorem d_Law_link_19 : decode method_7_code 19 = .ok (.astore 5, 2) := by decide +kernel
theorem d_Law_link_21 : decode method_7_code 21 = .ok (.iconst 2, 1) := by decide +kernel
theorem d_Law_link_22 : decode method_7_code 22 = .ok (.ireturn, 1) := by decide +kernel
theorem d_Law_link_23 : decode method_7_code 23 = .ok (.astore 5, 2) := by decide +kernel
theorem d_Law_link_25 : decode method_7_code 25 = .ok (.iconst 3, 1) := by decide +kernel
theorem d_Law_link_26 : decode method_7_code 26 = .ok (.ireturn, 1) := by decide +kernel
theorem d_Law_link_27 : decode method_7_code 27 = .ok (.iconst 0, 1) := by decide +kernel
theorem d_Law_link_28 : decode method_7_code 28 = .ok (.ireturn, 1) := by decide +kernel
set_option maxHeartbeats 4000000 in
set_option maxRecDepth 100000 in
theorem h_link {l : Launch} {D : va_G} {ad : Nat → Nat} {ca : Nat → ClassId} {adM : Nat → Nat} {caM : Nat → ClassId} {o : Nat} {cO : ClassId} {FU : Nat} {x1 : Int32} {x2 : Int32} {x3 : Int32} {g gM : St} {f : Nat → Int64} {q : Int32 × (Nat → Int64) × St} (h : Law_link FU x1 x2 x3 f g = some q) : HC l ⟨"FlashFilesLaw", "link", "(LFlashFiles;III[J)I"⟩ method_7_code 6 [(0, 12, 15, 13), (0, 12, 19, 19), (0, 12, 23, 25)] 11 D (tyL ca caM cO) (wL ad ca adM caM o cO g gM f) [.ref (ad 0), .int x1, .int x2, .int x3, .ref o] q.1 (wL ad ca adM caM o cO q.2.2 gM q.2.1) := by
  refine HC.fx (by decide) (Nat.le_of_ble_eq_true rfl) ?_
  intro p e s m below meth c A ls X htab hZ hN htr hP hD hl
  have hl : lv_has ls 6 [(0, .ref (ad 0)), (1, .int x1), (2, .int x2), (3, .int x3), (4, .ref o)] := hl
  have hS : va_S A s.heap s.heap [] := va_S.rf
  have hx := X.1
  have hb := X.2.1
  unfold Law_link at h
  obtain ⟨p1, e1, h⟩ := bd_some h
  refine lv_aload hx hb d_Law_link_0 (lv_at hl 4 rfl) ?_
  refine lv_iconst (v := 0) hx hb d_Law_link_2 (by decide) ?_
  refine lv_aload_n hx hb d_Law_link_3 rfl (lv_at hl 0 rfl) ?_
  refine lv_iload_n hx hb d_Law_link_4 rfl (lv_at hl 1 rfl) ?_
  refine lv_iload_n hx hb d_Law_link_5 rfl (lv_at hl 2 rfl) ?_
  refine lv_iload_n hx hb d_Law_link_6 rfl (lv_at hl 3 rfl) ?_
  refine xf_V (pre := []) (As := [.int x1, .int x2, .int x3]) (X.on (vk_l X.2.2.2.2.2.2.2.1)) (m_FF_link e1) hZ htr hP hD hS kv_Law_30 ⟨⟨Nat.le_of_ble_eq_true rfl, Nat.le_of_ble_eq_true rfl⟩, Nat.le_of_ble_eq_true rfl, Nat.le_of_ble_eq_true rfl⟩ 0 rfl rfl rfl hl.1 rfl (Nat.le_of_ble_eq_true rfl) d_Law_link_7 (fun hk H locs hP hD hS => ?_) (fun hk H locs q9 ce hP hD hS hce hcv hcl => ?_)
  · have h := if_t hk h
    cases h
    have hP : va_P D cls (wL ad ca adM caM o cO p1.2.2 gM f) H := hP
    have hD : va_D A (wL ad ca adM caM o cO p1.2.2 gM f) := hD
    refine W.eq (g2 := F0 m 10 ls [.int p1.2.1, .int 0, .ref o]) rfl ?_
    refine lv_i2l (v := p1.2.1.toInt64) hx hb d_Law_link_10 rfl ?_
    refine lw_last X hP hD hS d_Law_link_11 (fun H locs hP hD hS => ?_)
    refine lv_goto (tgt := 27) hx hb d_Law_link_12 (by decide) ?_
    refine lv_iconst (v := 0) hx hb d_Law_link_27 (by decide) ?_
    exact hx_iret X hP hD hS (by decide) (by decide) d_Law_link_28
  · have h := if_f hk h
    have hP : va_P D cls (wL ad ca adM caM o cO p1.2.2 gM f) H := hP
    have hD : va_D A (wL ad ca adM caM o cO p1.2.2 gM f) := hD
    have hown : s.vm.findClass "FlashFilesLaw" = some m.cls := X.2.2.2.2.2.1
    have hTB := X.2.2.2.2.2.2.1
    obtain ⟨hc0, h9⟩ | ⟨hc0, h9⟩ := if_some h
    · cases h9
      have hcl : s.vm.findClass "java/lang/IllegalArgumentException" = some ce.cls := by rw [hc0] at hcl; exact hcl
      refine xx_catch (h := 15) hce hcv (Vm.classAt_of_findClass hcl) (fun hpl => by rw [htab]; exact sel_hit (E := "java/lang/IllegalArgumentException") hpl hown hTB q2_104 q2_111 hcl (by decide) (by decide) rfl) ?_
      refine lv_astore hx hb d_Law_link_15 hl (by decide) rfl (fun ls hl => ?_)
      refine lv_iconst (v := 1) hx hb d_Law_link_17 (by decide) ?_
      exact hx_iret X hP hD hS (by decide) (by decide) d_Law_link_18
    have h := h9
    obtain ⟨hc1, h9⟩ | ⟨hc1, h9⟩ := if_some h
    · cases h9
      have hcl : s.vm.findClass "java/lang/IllegalStateException" = some ce.cls := by rw [hc1] at hcl; exact hcl
      refine xx_catch (h := 19) hce hcv (Vm.classAt_of_findClass hcl) (fun hpl => by rw [htab]; exact sel_pass (E := "java/lang/IllegalStateException") (N := "java/lang/IllegalArgumentException") hpl hown hTB q2_104 hN.1 hcl (by decide) (by decide) (sel_hit (E := "java/lang/IllegalStateException") hpl hown hTB q4_195 q4_202 hcl (by decide) (by decide) rfl)) ?_
      refine lv_astore hx hb d_Law_link_19 hl (by decide) rfl (fun ls hl => ?_)
      refine lv_iconst (v := 2) hx hb d_Law_link_21 (by decide) ?_
      exact hx_iret X hP hD hS (by decide) (by decide) d_Law_link_22
    have h := h9
    obtain ⟨hc2, h9⟩ | ⟨hc2, h9⟩ := if_some h
    · cases h9
      have hcl : s.vm.findClass "java/lang/UnsupportedOperationException" = some ce.cls := by rw [hc2] at hcl; exact hcl
      refine xx_catch (h := 23) hce hcv (Vm.classAt_of_findClass hcl) (fun hpl => by rw [htab]; exact sel_pass (E := "java/lang/UnsupportedOperationException") (N := "java/lang/IllegalArgumentException") hpl hown hTB q2_104 hN.2.1 hcl (by decide) (by decide) (sel_pass (E := "java/lang/UnsupportedOperationException") (N := "java/lang/IllegalStateException") hpl hown hTB q4_195 hN.2.2 hcl (by decide) (by decide) (sel_hit (E := "java/lang/UnsupportedOperationException") hpl hown hTB q4_227 q5_76 hcl (by decide) (by decide) rfl))) ?_
      refine lv_astore hx hb d_Law_link_23 hl (by decide) rfl (fun ls hl => ?_)
      refine lv_iconst (v := 3) hx hb d_Law_link_25 (by decide) ?_
      exact hx_iret X hP hD hS (by decide) (by decide) d_Law_link_26
    have h := h9
    cases h
theorem d_Law_unlink_0 : decode method_8_code 0 = .ok (.aload_n 3, 1) := by decide +kernel
theorem d_Law_unlink_1 : decode method_8_code 1 = .ok (.iconst 0, 1) := by decide +kernel
theorem d_Law_unlink_2 : decode method_8_code 2 = .ok (.aload_n 0, 1) := by decide +kernel
theorem d_Law_unlink_3 : decode method_8_code 3 = .ok (.iload_n 1, 1) := by decide +kernel
theorem d_Law_unlink_4 : decode method_8_code 4 = .ok (.iload_n 2, 1) := by decide +kernel
theorem d_Law_unlink_5 : decode method_8_code 5 = .ok (.invokevirtual 34, 3) := by decide +kernel
theorem d_Law_unlink_8 : decode method_8_code 8 = .ok (.i2l, 1) := by decide +kernel
theorem d_Law_unlink_9 : decode method_8_code 9 = .ok (.lastore, 1) := by decide +kernel
theorem d_Law_unlink_10 : decode method_8_code 10 = .ok (.goto 15, 3) := by decide +kernel
theorem d_Law_unlink_13 : decode method_8_code 13 = .ok (.astore 4, 2) := by decide +kernel
theorem d_Law_unlink_15 : decode method_8_code 15 = .ok (.iconst 1, 1) := by decide +kernel
theorem d_Law_unlink_16 : decode method_8_code 16 = .ok (.ireturn, 1) := by decide +kernel
theorem d_Law_unlink_17 : decode method_8_code 17 = .ok (.astore 4, 2) := by decide +kernel
theorem d_Law_unlink_19 : decode method_8_code 19 = .ok (.iconst 2, 1) := by decide +kernel
theorem d_Law_unlink_20 : decode method_8_code 20 = .ok (.ireturn, 1) := by decide +kernel
theorem d_Law_unlink_21 : decode method_8_code 21 = .ok (.astore 4, 2) := by decide +kernel
theorem d_Law_unlink_23 : decode method_8_code 23 = .ok (.iconst 3, 1) := by decide +kernel
theorem d_Law_unlink_24 : decode method_8_code 24 = .ok (.ireturn, 1) := by decide +kernel
theorem d_Law_unlink_25 : decode method_8_code 25 = .ok (.iconst 0, 1) := by decide +kernel
theorem d_Law_unlink_26 : decode method_8_code 26 = .ok (.ireturn, 1) := by decide +kernel
set_option maxHeartbeats 4000000 in
set_option maxRecDepth 100000 in
theorem h_unlink {l : Launch} {D : va_G} {ad : Nat → Nat} {ca : Nat → ClassId} {adM : Nat → Nat} {caM : Nat → ClassId} {o : Nat} {cO : ClassId} {FU : Nat} {x1 : Int32} {x2 : Int32} {g gM : St} {f : Nat → Int64} {q : Int32 × (Nat → Int64) × St} (h : Law_unlink FU x1 x2 f g = some q) : HC l ⟨"FlashFilesLaw", "unlink", "(LFlashFiles;II[J)I"⟩ method_8_code 5 [(0, 10, 13, 13), (0, 10, 17, 19), (0, 10, 21, 25)] 11 D (tyL ca caM cO) (wL ad ca adM caM o cO g gM f) [.ref (ad 0), .int x1, .int x2, .ref o] q.1 (wL ad ca adM caM o cO q.2.2 gM q.2.1) := by
  refine HC.fx (by decide) (Nat.le_of_ble_eq_true rfl) ?_
  intro p e s m below meth c A ls X htab hZ hN htr hP hD hl
  have hl : lv_has ls 5 [(0, .ref (ad 0)), (1, .int x1), (2, .int x2), (3, .ref o)] := hl
  have hS : va_S A s.heap s.heap [] := va_S.rf
  have hx := X.1
  have hb := X.2.1
  unfold Law_unlink at h
  obtain ⟨p1, e1, h⟩ := bd_some h
  refine lv_aload_n hx hb d_Law_unlink_0 rfl (lv_at hl 3 rfl) ?_
  refine lv_iconst (v := 0) hx hb d_Law_unlink_1 (by decide) ?_
  refine lv_aload_n hx hb d_Law_unlink_2 rfl (lv_at hl 0 rfl) ?_
  refine lv_iload_n hx hb d_Law_unlink_3 rfl (lv_at hl 1 rfl) ?_
  refine lv_iload_n hx hb d_Law_unlink_4 rfl (lv_at hl 2 rfl) ?_
  refine xf_V (pre := []) (As := [.int x1, .int x2]) (X.on (vk_l X.2.2.2.2.2.2.2.1)) (m_FF_unlink e1) hZ htr hP hD hS kv_Law_34 ⟨⟨Nat.le_of_ble_eq_true rfl, Nat.le_of_ble_eq_true rfl⟩, Nat.le_of_ble_eq_true rfl, Nat.le_of_ble_eq_true rfl⟩ 0 rfl rfl rfl hl.1 rfl (Nat.le_of_ble_eq_true rfl) d_Law_unlink_5 (fun hk H locs hP hD hS => ?_) (fun hk H locs q9 ce hP hD hS hce hcv hcl => ?_)
  · have h := if_t hk h
    cases h
    have hP : va_P D cls (wL ad ca adM caM o cO p1.2.2 gM f) H := hP
    have hD : va_D A (wL ad ca adM caM o cO p1.2.2 gM f) := hD
    refine W.eq (g2 := F0 m 8 ls [.int p1.2.1, .int 0, .ref o]) rfl ?_
    refine lv_i2l (v := p1.2.1.toInt64) hx hb d_Law_unlink_8 rfl ?_
    refine lw_last X hP hD hS d_Law_unlink_9 (fun H locs hP hD hS => ?_)
    refine lv_goto (tgt := 25) hx hb d_Law_unlink_10 (by decide) ?_
    refine lv_iconst (v := 0) hx hb d_Law_unlink_25 (by decide) ?_
    exact hx_iret X hP hD hS (by decide) (by decide) d_Law_unlink_26
  · have h := if_f hk h
    have hP : va_P D cls (wL ad ca adM caM o cO p1.2.2 gM f) H := hP
    have hD : va_D A (wL ad ca adM caM o cO p1.2.2 gM f) := hD
    have hown : s.vm.findClass "FlashFilesLaw" = some m.cls := X.2.2.2.2.2.1
    have hTB := X.2.2.2.2.2.2.1
    obtain ⟨hc0, h9⟩ | ⟨hc0, h9⟩ := if_some h
    · cases h9
      have hcl : s.vm.findClass "java/lang/IllegalArgumentException" = some ce.cls := by rw [hc0] at hcl; exact hcl
      refine xx_catch (h := 13) hce hcv (Vm.classAt_of_findClass hcl) (fun hpl => by rw [htab]; exact sel_hit (E := "java/lang/IllegalArgumentException") hpl hown hTB q2_104 q2_111 hcl (by decide) (by decide) rfl) ?_
      refine lv_astore hx hb d_Law_unlink_13 hl (by decide) rfl (fun ls hl => ?_)
      refine lv_iconst (v := 1) hx hb d_Law_unlink_15 (by decide) ?_
      exact hx_iret X hP hD hS (by decide) (by decide) d_Law_unlink_16
    have h := h9
    obtain ⟨hc1, h9⟩ | ⟨hc1, h9⟩ := if_some h
    · cases h9
      have hcl : s.vm.findClass "java/lang/IllegalStateException" = some ce.cls := by rw [hc1] at hcl; exact hcl
      refine xx_catch (h := 17) hce hcv (Vm.classAt_of_findClass hcl) (fun hpl => by rw [htab]; exact sel_pass (E := "java/lang/IllegalStateException") (N := "java/lang/IllegalArgumentException") hpl hown hTB q2_104 hN.1 hcl (by decide) (by decide) (sel_hit (E := "java/lang/IllegalStateException") hpl hown hTB q4_195 q4_202 hcl (by decide) (by decide) rfl)) ?_
      refine lv_astore hx hb d_Law_unlink_17 hl (by decide) rfl (fun ls hl => ?_)
      refine lv_iconst (v := 2) hx hb d_Law_unlink_19 (by decide) ?_
      exact hx_iret X hP hD hS (by decide) (by decide) d_Law_unlink_20
    have h := h9
    obtain ⟨hc2, h9⟩ | ⟨hc2, h9⟩ := if_some h
    · cases h9
      have hcl : s.vm.findClass "java/lang/UnsupportedOperationException" = some ce.cls := by rw [hc2] at hcl; exact hcl
      refine xx_catch (h := 21) hce hcv (Vm.classAt_of_findClass hcl) (fun hpl => by rw [htab]; exact sel_pass (E := "java/lang/UnsupportedOperationException") (N := "java/lang/IllegalArgumentException") hpl hown hTB q2_104 hN.2.1 hcl (by decide) (by decide) (sel_pass (E := "java/lang/UnsupportedOperationException") (N := "java/lang/IllegalStateException") hpl hown hTB q4_195 hN.2.2 hcl (by decide) (by decide) (sel_hit (E := "java/lang/UnsupportedOperationException") hpl hown hTB q4_227 q5_76 hcl (by decide) (by decide) rfl))) ?_
      refine lv_astore hx hb d_Law_unlink_21 hl (by decide) rfl (fun ls hl => ?_)
      refine lv_iconst (v := 3) hx hb d_Law_unlink_23 (by decide) ?_
      exact hx_iret X hP hD hS (by decide) (by decide) d_Law_unlink_24
    have h := h9
    cases h
theorem d_Law_removeDirectory_0 : decode method_9_code 0 = .ok (.aload_n 0, 1) := by decide +kernel
theorem d_Law_removeDirectory_1 : decode method_9_code 1 = .ok (.iload_n 1, 1) := by decide +kernel
theorem d_Law_removeDirectory_2 : decode method_9_code 2 = .ok (.iload_n 2, 1) := by decide +kernel
theorem d_Law_removeDirectory_3 : decode method_9_code 3 = .ok (.invokevirtual 37, 3) := by decide +kernel
theorem d_Law_removeDirectory_6 : decode method_9_code 6 = .ok (.goto 12, 3) := by decide +kernel
theorem d_Law_removeDirectory_9 : decode method_9_code 9 = .ok (.astore_n 3, 1) := by decide +kernel
theorem d_Law_removeDirectory_10 : decode method_9_code 10 = .ok (.iconst 1, 1) := by decide +kernel
theorem d_Law_removeDirectory_11 : decode method_9_code 11 = .ok (.ireturn, 1) := by decide +kernel
theorem d_Law_removeDirectory_12 : decode method_9_code 12 = .ok (.astore_n 3, 1) := by decide +kernel
theorem d_Law_removeDirectory_13 : decode method_9_code 13 = .ok (.iconst 2, 1) := by decide +kernel
theorem d_Law_removeDirectory_14 : decode method_9_code 14 = .ok (.ireturn, 1) := by decide +kernel
theorem d_Law_removeDirectory_15 : decode method_9_code 15 = .ok (.astore_n 3, 1) := by decide +kernel
theorem d_Law_removeDirectory_16 : decode method_9_code 16 = .ok (.iconst 3, 1) := by decide +kernel
theorem d_Law_removeDirectory_17 : decode method_9_code 17 = .ok (.ireturn, 1) := by decide +kernel
theorem d_Law_removeDirectory_18 : decode method_9_code 18 = .ok (.iconst 0, 1) := by decide +kernel
theorem d_Law_removeDirectory_19 : decode method_9_code 19 = .ok (.ireturn, 1) := by decide +kernel
set_option maxHeartbeats 4000000 in
set_option maxRecDepth 100000 in
theorem h_removeDirectory {l : Launch} {D : va_G} {ad : Nat → Nat} {ca : Nat → ClassId} {adM : Nat → Nat} {caM : Nat → ClassId} {o : Nat} {cO : ClassId} {FU : Nat} {x1 : Int32} {x2 : Int32} {g gM : St} {f : Nat → Int64} {q : Int32 × (Nat → Int64) × St} (h : Law_removeDirectory FU x1 x2 f g = some q) : HC l ⟨"FlashFilesLaw", "removeDirectory", "(LFlashFiles;II)I"⟩ method_9_code 4 [(0, 6, 9, 13), (0, 6, 12, 19), (0, 6, 15, 25)] 11 D (tyL ca caM cO) (wL ad ca adM caM o cO g gM f) [.ref (ad 0), .int x1, .int x2] q.1 (wL ad ca adM caM o cO q.2.2 gM q.2.1) := by
  refine HC.fx (by decide) (Nat.le_of_ble_eq_true rfl) ?_
  intro p e s m below meth c A ls X htab hZ hN htr hP hD hl
  have hl : lv_has ls 4 [(0, .ref (ad 0)), (1, .int x1), (2, .int x2)] := hl
  have hS : va_S A s.heap s.heap [] := va_S.rf
  have hx := X.1
  have hb := X.2.1
  unfold Law_removeDirectory at h
  obtain ⟨p1, e1, h⟩ := bd_some h
  refine lv_aload_n hx hb d_Law_removeDirectory_0 rfl (lv_at hl 0 rfl) ?_
  refine lv_iload_n hx hb d_Law_removeDirectory_1 rfl (lv_at hl 1 rfl) ?_
  refine lv_iload_n hx hb d_Law_removeDirectory_2 rfl (lv_at hl 2 rfl) ?_
  refine xf_V (pre := []) (As := [.int x1, .int x2]) (X.on (vk_l X.2.2.2.2.2.2.2.1)) (m_FF_removeDirectory e1) hZ htr hP hD hS kv_Law_37 ⟨⟨Nat.le_of_ble_eq_true rfl, Nat.le_of_ble_eq_true rfl⟩, Nat.le_of_ble_eq_true rfl, Nat.le_of_ble_eq_true rfl⟩ 0 rfl rfl rfl hl.1 rfl (Nat.le_of_ble_eq_true rfl) d_Law_removeDirectory_3 (fun hk H locs hP hD hS => ?_) (fun hk H locs q9 ce hP hD hS hce hcv hcl => ?_)
  · have h := if_t hk h
    cases h
    have hP : va_P D cls (wL ad ca adM caM o cO p1.2.2 gM f) H := hP
    have hD : va_D A (wL ad ca adM caM o cO p1.2.2 gM f) := hD
    refine W.eq (g2 := F0 m 6 ls []) rfl ?_
    refine lv_goto (tgt := 18) hx hb d_Law_removeDirectory_6 (by decide) ?_
    refine lv_iconst (v := 0) hx hb d_Law_removeDirectory_18 (by decide) ?_
    exact hx_iret X hP hD hS (by decide) (by decide) d_Law_removeDirectory_19
  · have h := if_f hk h
    have hP : va_P D cls (wL ad ca adM caM o cO p1.2.2 gM f) H := hP
    have hD : va_D A (wL ad ca adM caM o cO p1.2.2 gM f) := hD
    have hown : s.vm.findClass "FlashFilesLaw" = some m.cls := X.2.2.2.2.2.1
    have hTB := X.2.2.2.2.2.2.1
    obtain ⟨hc0, h9⟩ | ⟨hc0, h9⟩ := if_some h
    · cases h9
      have hcl : s.vm.findClass "java/lang/IllegalArgumentException" = some ce.cls := by rw [hc0] at hcl; exact hcl
      refine xx_catch (h := 9) hce hcv (Vm.classAt_of_findClass hcl) (fun hpl => by rw [htab]; exact sel_hit (E := "java/lang/IllegalArgumentException") hpl hown hTB q2_104 q2_111 hcl (by decide) (by decide) rfl) ?_
      refine lv_astore_n hx hb d_Law_removeDirectory_9 rfl hl (by decide) rfl (fun ls hl => ?_)
      refine lv_iconst (v := 1) hx hb d_Law_removeDirectory_10 (by decide) ?_
      exact hx_iret X hP hD hS (by decide) (by decide) d_Law_removeDirectory_11
    have h := h9
    obtain ⟨hc1, h9⟩ | ⟨hc1, h9⟩ := if_some h
    · cases h9
      have hcl : s.vm.findClass "java/lang/IllegalStateException" = some ce.cls := by rw [hc1] at hcl; exact hcl
      refine xx_catch (h := 12) hce hcv (Vm.classAt_of_findClass hcl) (fun hpl => by rw [htab]; exact sel_pass (E := "java/lang/IllegalStateException") (N := "java/lang/IllegalArgumentException") hpl hown hTB q2_104 hN.1 hcl (by decide) (by decide) (sel_hit (E := "java/lang/IllegalStateException") hpl hown hTB q4_195 q4_202 hcl (by decide) (by decide) rfl)) ?_
      refine lv_astore_n hx hb d_Law_removeDirectory_12 rfl hl (by decide) rfl (fun ls hl => ?_)
      refine lv_iconst (v := 2) hx hb d_Law_removeDirectory_13 (by decide) ?_
      exact hx_iret X hP hD hS (by decide) (by decide) d_Law_removeDirectory_14
    have h := h9
    obtain ⟨hc2, h9⟩ | ⟨hc2, h9⟩ := if_some h
    · cases h9
      have hcl : s.vm.findClass "java/lang/UnsupportedOperationException" = some ce.cls := by rw [hc2] at hcl; exact hcl
      refine xx_catch (h := 15) hce hcv (Vm.classAt_of_findClass hcl) (fun hpl => by rw [htab]; exact sel_pass (E := "java/lang/UnsupportedOperationException") (N := "java/lang/IllegalArgumentException") hpl hown hTB q2_104 hN.2.1 hcl (by decide) (by decide) (sel_pass (E := "java/lang/UnsupportedOperationException") (N := "java/lang/IllegalStateException") hpl hown hTB q4_195 hN.2.2 hcl (by decide) (by decide) (sel_hit (E := "java/lang/UnsupportedOperationException") hpl hown hTB q4_227 q5_76 hcl (by decide) (by decide) rfl))) ?_
      refine lv_astore_n hx hb d_Law_removeDirectory_15 rfl hl (by decide) rfl (fun ls hl => ?_)
      refine lv_iconst (v := 3) hx hb d_Law_removeDirectory_16 (by decide) ?_
      exact hx_iret X hP hD hS (by decide) (by decide) d_Law_removeDirectory_17
    have h := h9
    cases h
theorem d_Law_rename_0 : decode method_10_code 0 = .ok (.aload_n 0, 1) := by decide +kernel
theorem d_Law_rename_1 : decode method_10_code 1 = .ok (.iload_n 1, 1) := by decide +kernel
theorem d_Law_rename_2 : decode method_10_code 2 = .ok (.iload_n 2, 1) := by decide +kernel
theorem d_Law_rename_3 : decode method_10_code 3 = .ok (.iload_n 3, 1) := by decide +kernel
theorem d_Law_rename_4 : decode method_10_code 4 = .ok (.iload 4, 2) := by decide +kernel
theorem d_Law_rename_6 : decode method_10_code 6 = .ok (.invokevirtual 40, 3) := by decide +kernel
theorem d_Law_rename_9 : decode method_10_code 9 = .ok (.goto 15, 3) := by decide +kernel
theorem d_Law_rename_12 : decode method_10_code 12 = .ok (.astore 5, 2) := by decide +kernel
theorem d_Law_rename_14 : decode method_10_code 14 = .ok (.iconst 1, 1) := by decide +kernel
theorem d_Law_rename_15 : decode method_10_code 15 = .ok (.ireturn, 1) := by decide +kernel
theorem d_Law_rename_16 : decode method_10_code 16 = .ok (.astore 5, 2) := by decide +kernel
theorem d_Law_rename_18 : decode method_10_code 18 = .ok (.iconst 2, 1) := by decide +kernel
theorem d_Law_rename_19 : decode method_10_code 19 = .ok (.ireturn, 1) := by decide +kernel
theorem d_Law_rename_20 : decode method_10_code 20 = .ok (.astore 5, 2) := by decide +kernel
theorem d_Law_rename_22 : decode method_10_code 22 = .ok (.iconst 3, 1) := by decide +kernel
theorem d_Law_rename_23 : decode method_10_code 23 = .ok (.ireturn, 1) := by decide +kernel
theorem d_Law_rename_24 : decode method_10_code 24 = .ok (.iconst 0, 1) := by decide +kernel
theorem d_Law_rename_25 : decode method_10_code 25 = .ok (.ireturn, 1) := by decide +kernel
set_option maxHeartbeats 4000000 in
set_option maxRecDepth 100000 in
theorem h_rename {l : Launch} {D : va_G} {ad : Nat → Nat} {ca : Nat → ClassId} {adM : Nat → Nat} {caM : Nat → ClassId} {o : Nat} {cO : ClassId} {FU : Nat} {x1 : Int32} {x2 : Int32} {x3 : Int32} {x4 : Int32} {g gM : St} {f : Nat → Int64} {q : Int32 × (Nat → Int64) × St} (h : Law_rename FU x1 x2 x3 x4 f g = some q) : HC l ⟨"FlashFilesLaw", "rename", "(LFlashFiles;IIII)I"⟩ method_10_code 6 [(0, 9, 12, 13), (0, 9, 16, 19), (0, 9, 20, 25)] 11 D (tyL ca caM cO) (wL ad ca adM caM o cO g gM f) [.ref (ad 0), .int x1, .int x2, .int x3, .int x4] q.1 (wL ad ca adM caM o cO q.2.2 gM q.2.1) := by
  refine HC.fx (by decide) (Nat.le_of_ble_eq_true rfl) ?_
  intro p e s m below meth c A ls X htab hZ hN htr hP hD hl
  have hl : lv_has ls 6 [(0, .ref (ad 0)), (1, .int x1), (2, .int x2), (3, .int x3), (4, .int x4)] := hl
  have hS : va_S A s.heap s.heap [] := va_S.rf
  have hx := X.1
  have hb := X.2.1
  unfold Law_rename at h
  obtain ⟨p1, e1, h⟩ := bd_some h
  refine lv_aload_n hx hb d_Law_rename_0 rfl (lv_at hl 0 rfl) ?_
  refine lv_iload_n hx hb d_Law_rename_1 rfl (lv_at hl 1 rfl) ?_
  refine lv_iload_n hx hb d_Law_rename_2 rfl (lv_at hl 2 rfl) ?_
  refine lv_iload_n hx hb d_Law_rename_3 rfl (lv_at hl 3 rfl) ?_
  refine lv_iload hx hb d_Law_rename_4 (lv_at hl 4 rfl) ?_
  refine xf_V (pre := []) (As := [.int x1, .int x2, .int x3, .int x4]) (X.on (vk_l X.2.2.2.2.2.2.2.1)) (m_FF_rename e1) hZ htr hP hD hS kv_Law_40 ⟨⟨Nat.le_of_ble_eq_true rfl, Nat.le_of_ble_eq_true rfl⟩, Nat.le_of_ble_eq_true rfl, Nat.le_of_ble_eq_true rfl⟩ 0 rfl rfl rfl hl.1 rfl (Nat.le_of_ble_eq_true rfl) d_Law_rename_6 (fun hk H locs hP hD hS => ?_) (fun hk H locs q9 ce hP hD hS hce hcv hcl => ?_)
  · have h := if_t hk h
    cases h
    have hP : va_P D cls (wL ad ca adM caM o cO p1.2.2 gM f) H := hP
    have hD : va_D A (wL ad ca adM caM o cO p1.2.2 gM f) := hD
    refine W.eq (g2 := F0 m 9 ls []) rfl ?_
    refine lv_goto (tgt := 24) hx hb d_Law_rename_9 (by decide) ?_
    refine lv_iconst (v := 0) hx hb d_Law_rename_24 (by decide) ?_
    exact hx_iret X hP hD hS (by decide) (by decide) d_Law_rename_25
  · have h := if_f hk h
    have hP : va_P D cls (wL ad ca adM caM o cO p1.2.2 gM f) H := hP
    have hD : va_D A (wL ad ca adM caM o cO p1.2.2 gM f) := hD
    have hown : s.vm.findClass "FlashFilesLaw" = some m.cls := X.2.2.2.2.2.1
    have hTB := X.2.2.2.2.2.2.1
    obtain ⟨hc0, h9⟩ | ⟨hc0, h9⟩ := if_some h
    · cases h9
      have hcl : s.vm.findClass "java/lang/IllegalArgumentException" = some ce.cls := by rw [hc0] at hcl; exact hcl
      refine xx_catch (h := 12) hce hcv (Vm.classAt_of_findClass hcl) (fun hpl => by rw [htab]; exact sel_hit (E := "java/lang/IllegalArgumentException") hpl hown hTB q2_104 q2_111 hcl (by decide) (by decide) rfl) ?_
      refine lv_astore hx hb d_Law_rename_12 hl (by decide) rfl (fun ls hl => ?_)
      refine lv_iconst (v := 1) hx hb d_Law_rename_14 (by decide) ?_
      exact hx_iret X hP hD hS (by decide) (by decide) d_Law_rename_15
    have h := h9
    obtain ⟨hc1, h9⟩ | ⟨hc1, h9⟩ := if_some h
    · cases h9
      have hcl : s.vm.findClass "java/lang/IllegalStateException" = some ce.cls := by rw [hc1] at hcl; exact hcl
      refine xx_catch (h := 16) hce hcv (Vm.classAt_of_findClass hcl) (fun hpl => by rw [htab]; exact sel_pass (E := "java/lang/IllegalStateException") (N := "java/lang/IllegalArgumentException") hpl hown hTB q2_104 hN.1 hcl (by decide) (by decide) (sel_hit (E := "java/lang/IllegalStateException") hpl hown hTB q4_195 q4_202 hcl (by decide) (by decide) rfl)) ?_
      refine lv_astore hx hb d_Law_rename_16 hl (by decide) rfl (fun ls hl => ?_)
      refine lv_iconst (v := 2) hx hb d_Law_rename_18 (by decide) ?_
      exact hx_iret X hP hD hS (by decide) (by decide) d_Law_rename_19
    have h := h9
    obtain ⟨hc2, h9⟩ | ⟨hc2, h9⟩ := if_some h
    · cases h9
      have hcl : s.vm.findClass "java/lang/UnsupportedOperationException" = some ce.cls := by rw [hc2] at hcl; exact hcl
      refine xx_catch (h := 20) hce hcv (Vm.classAt_of_findClass hcl) (fun hpl => by rw [htab]; exact sel_pass (E := "java/lang/UnsupportedOperationException") (N := "java/lang/IllegalArgumentException") hpl hown hTB q2_104 hN.2.1 hcl (by decide) (by decide) (sel_pass (E := "java/lang/UnsupportedOperationException") (N := "java/lang/IllegalStateException") hpl hown hTB q4_195 hN.2.2 hcl (by decide) (by decide) (sel_hit (E := "java/lang/UnsupportedOperationException") hpl hown hTB q4_227 q5_76 hcl (by decide) (by decide) rfl))) ?_
      refine lv_astore hx hb d_Law_rename_20 hl (by decide) rfl (fun ls hl => ?_)
      refine lv_iconst (v := 3) hx hb d_Law_rename_22 (by decide) ?_
      exact hx_iret X hP hD hS (by decide) (by decide) d_Law_rename_23
    have h := h9
    cases h
theorem d_Law_find_0 : decode method_11_code 0 = .ok (.aload_n 3, 1) := by decide +kernel
theorem d_Law_find_1 : decode method_11_code 1 = .ok (.iconst 0, 1) := by decide +kernel
theorem d_Law_find_2 : decode method_11_code 2 = .ok (.aload_n 0, 1) := by decide +kernel
theorem d_Law_find_3 : decode method_11_code 3 = .ok (.iload_n 1, 1) := by decide +kernel
theorem d_Law_find_4 : decode method_11_code 4 = .ok (.iload_n 2, 1) := by decide +kernel
theorem d_Law_find_5 : decode method_11_code 5 = .ok (.invokevirtual 44, 3) := by decide +kernel
theorem d_Law_find_8 : decode method_11_code 8 = .ok (.i2l, 1) := by decide +kernel
theorem d_Law_find_9 : decode method_11_code 9 = .ok (.lastore, 1) := by decide +kernel
theorem d_Law_find_10 : decode method_11_code 10 = .ok (.goto 11, 3) := by decide +kernel
theorem d_Law_find_13 : decode method_11_code 13 = .ok (.astore 4, 2) := by decide +kernel
theorem d_Law_find_15 : decode method_11_code 15 = .ok (.iconst 1, 1) := by decide +kernel
theorem d_Law_find_16 : decode method_11_code 16 = .ok (.ireturn, 1) := by decide +kernel
theorem d_Law_find_17 : decode method_11_code 17 = .ok (.astore 4, 2) := by decide +kernel
theorem d_Law_find_19 : decode method_11_code 19 = .ok (.iconst 2, 1) := by decide +kernel
theorem d_Law_find_20 : decode method_11_code 20 = .ok (.ireturn, 1) := by decide +kernel
theorem d_Law_find_21 : decode method_11_code 21 = .ok (.iconst 0, 1) := by decide +kernel
theorem d_Law_find_22 : decode method_11_code 22 = .ok (.ireturn, 1) := by decide +kernel
set_option maxHeartbeats 4000000 in
set_option maxRecDepth 100000 in
theorem h_find {l : Launch} {D : va_G} {ad : Nat → Nat} {ca : Nat → ClassId} {adM : Nat → Nat} {caM : Nat → ClassId} {o : Nat} {cO : ClassId} {FU : Nat} {x1 : Int32} {x2 : Int32} {g gM : St} {f : Nat → Int64} {q : Int32 × (Nat → Int64) × St} (h : Law_find FU x1 x2 f g = some q) : HC l ⟨"FlashFilesLaw", "find", "(LFlashFiles;II[J)I"⟩ method_11_code 5 [(0, 10, 13, 13), (0, 10, 17, 19)] 11 D (tyL ca caM cO) (wL ad ca adM caM o cO g gM f) [.ref (ad 0), .int x1, .int x2, .ref o] q.1 (wL ad ca adM caM o cO q.2.2 gM q.2.1) := by
  refine HC.fx (by decide) (Nat.le_of_ble_eq_true rfl) ?_
  intro p e s m below meth c A ls X htab hZ hN htr hP hD hl
  have hl : lv_has ls 5 [(0, .ref (ad 0)), (1, .int x1), (2, .int x2), (3, .ref o)] := hl
  have hS : va_S A s.heap s.heap [] := va_S.rf
  have hx := X.1
  have hb := X.2.1
  unfold Law_find at h
  obtain ⟨p1, e1, h⟩ := bd_some h
  refine lv_aload_n hx hb d_Law_find_0 rfl (lv_at hl 3 rfl) ?_
  refine lv_iconst (v := 0) hx hb d_Law_find_1 (by decide) ?_
  refine lv_aload_n hx hb d_Law_find_2 rfl (lv_at hl 0 rfl) ?_
  refine lv_iload_n hx hb d_Law_find_3 rfl (lv_at hl 1 rfl) ?_
  refine lv_iload_n hx hb d_Law_find_4 rfl (lv_at hl 2 rfl) ?_
  refine xf_V (pre := []) (As := [.int x1, .int x2]) (X.on (vk_l X.2.2.2.2.2.2.2.1)) (m_FF_find e1) hZ htr hP hD hS kv_Law_44 ⟨⟨Nat.le_of_ble_eq_true rfl, Nat.le_of_ble_eq_true rfl⟩, Nat.le_of_ble_eq_true rfl, Nat.le_of_ble_eq_true rfl⟩ 0 rfl rfl rfl hl.1 rfl (Nat.le_of_ble_eq_true rfl) d_Law_find_5 (fun hk H locs hP hD hS => ?_) (fun hk H locs q9 ce hP hD hS hce hcv hcl => ?_)
  · have h := if_t hk h
    cases h
    have hP : va_P D cls (wL ad ca adM caM o cO p1.2.2 gM f) H := hP
    have hD : va_D A (wL ad ca adM caM o cO p1.2.2 gM f) := hD
    refine W.eq (g2 := F0 m 8 ls [.int p1.2.1, .int 0, .ref o]) rfl ?_
    refine lv_i2l (v := p1.2.1.toInt64) hx hb d_Law_find_8 rfl ?_
    refine lw_last X hP hD hS d_Law_find_9 (fun H locs hP hD hS => ?_)
    refine lv_goto (tgt := 21) hx hb d_Law_find_10 (by decide) ?_
    refine lv_iconst (v := 0) hx hb d_Law_find_21 (by decide) ?_
    exact hx_iret X hP hD hS (by decide) (by decide) d_Law_find_22
  · have h := if_f hk h
    have hP : va_P D cls (wL ad ca adM caM o cO p1.2.2 gM f) H := hP
    have hD : va_D A (wL ad ca adM caM o cO p1.2.2 gM f) := hD
    have hown : s.vm.findClass "FlashFilesLaw" = some m.cls := X.2.2.2.2.2.1
    have hTB := X.2.2.2.2.2.2.1
    obtain ⟨hc0, h9⟩ | ⟨hc0, h9⟩ := if_some h
    · cases h9
      have hcl : s.vm.findClass "java/lang/IllegalArgumentException" = some ce.cls := by rw [hc0] at hcl; exact hcl
      refine xx_catch (h := 13) hce hcv (Vm.classAt_of_findClass hcl) (fun hpl => by rw [htab]; exact sel_hit (E := "java/lang/IllegalArgumentException") hpl hown hTB q2_104 q2_111 hcl (by decide) (by decide) rfl) ?_
      refine lv_astore hx hb d_Law_find_13 hl (by decide) rfl (fun ls hl => ?_)
      refine lv_iconst (v := 1) hx hb d_Law_find_15 (by decide) ?_
      exact hx_iret X hP hD hS (by decide) (by decide) d_Law_find_16
    have h := h9
    obtain ⟨hc1, h9⟩ | ⟨hc1, h9⟩ := if_some h
    · cases h9
      have hcl : s.vm.findClass "java/lang/IllegalStateException" = some ce.cls := by rw [hc1] at hcl; exact hcl
      refine xx_catch (h := 17) hce hcv (Vm.classAt_of_findClass hcl) (fun hpl => by rw [htab]; exact sel_pass (E := "java/lang/IllegalStateException") (N := "java/lang/IllegalArgumentException") hpl hown hTB q2_104 hN.1 hcl (by decide) (by decide) (sel_hit (E := "java/lang/IllegalStateException") hpl hown hTB q4_195 q4_202 hcl (by decide) (by decide) rfl)) ?_
      refine lv_astore hx hb d_Law_find_17 hl (by decide) rfl (fun ls hl => ?_)
      refine lv_iconst (v := 2) hx hb d_Law_find_19 (by decide) ?_
      exact hx_iret X hP hD hS (by decide) (by decide) d_Law_find_20
    have h := h9
    cases h
theorem d_Law_write_0 : decode method_12_code 0 = .ok (.aload 4, 2) := by decide +kernel
theorem d_Law_write_2 : decode method_12_code 2 = .ok (.iconst 0, 1) := by decide +kernel
theorem d_Law_write_3 : decode method_12_code 3 = .ok (.aload_n 0, 1) := by decide +kernel
theorem d_Law_write_4 : decode method_12_code 4 = .ok (.iload_n 1, 1) := by decide +kernel
theorem d_Law_write_5 : decode method_12_code 5 = .ok (.iload_n 2, 1) := by decide +kernel
theorem d_Law_write_6 : decode method_12_code 6 = .ok (.iload_n 3, 1) := by decide +kernel
theorem d_Law_write_7 : decode method_12_code 7 = .ok (.invokevirtual 47, 3) := by decide +kernel
theorem d_Law_write_10 : decode method_12_code 10 = .ok (.i2l, 1) := by decide +kernel
theorem d_Law_write_11 : decode method_12_code 11 = .ok (.lastore, 1) := by decide +kernel
theorem d_Law_write_12 : decode method_12_code 12 = .ok (.goto 15, 3) := by decide +kernel
theorem d_Law_write_15 : decode method_12_code 15 = .ok (.astore 5, 2) := by decide +kernel
theorem d_Law_write_17 : decode method_12_code 17 = .ok (.iconst 1, 1) := by decide +kernel
theorem d_Law_write_18 : decode method_12_code 18 = .ok (.ireturn, 1) := by decide +kernel
theorem d_Law_write_19 : decode method_12_code 19 = .ok (.astore 5, 2) := by decide +kernel
theorem d_Law_write_21 : decode method_12_code 21 = .ok (.iconst 2, 1) := by decide +kernel
theorem d_Law_write_22 : decode method_12_code 22 = .ok (.ireturn, 1) := by decide +kernel
theorem d_Law_write_23 : decode method_12_code 23 = .ok (.astore 5, 2) := by decide +kernel
theorem d_Law_write_25 : decode method_12_code 25 = .ok (.iconst 3, 1) := by decide +kernel
theorem d_Law_write_26 : decode method_12_code 26 = .ok (.ireturn, 1) := by decide +kernel
theorem d_Law_write_27 : decode method_12_code 27 = .ok (.iconst 0, 1) := by decide +kernel
theorem d_Law_write_28 : decode method_12_code 28 = .ok (.ireturn, 1) := by decide +kernel
set_option maxHeartbeats 4000000 in
set_option maxRecDepth 100000 in
theorem h_write {l : Launch} {D : va_G} {ad : Nat → Nat} {ca : Nat → ClassId} {adM : Nat → Nat} {caM : Nat → ClassId} {o : Nat} {cO : ClassId} {FU : Nat} {x1 : Int32} {x2 : Int32} {x3 : Int32} {g gM : St} {f : Nat → Int64} {q : Int32 × (Nat → Int64) × St} (h : Law_write FU x1 x2 x3 f g = some q) : HC l ⟨"FlashFilesLaw", "write", "(LFlashFiles;III[J)I"⟩ method_12_code 6 [(0, 12, 15, 13), (0, 12, 19, 19), (0, 12, 23, 25)] 11 D (tyL ca caM cO) (wL ad ca adM caM o cO g gM f) [.ref (ad 0), .int x1, .int x2, .int x3, .ref o] q.1 (wL ad ca adM caM o cO q.2.2 gM q.2.1) := by
  refine HC.fx (by decide) (Nat.le_of_ble_eq_true rfl) ?_
  intro p e s m below meth c A ls X htab hZ hN htr hP hD hl
  have hl : lv_has ls 6 [(0, .ref (ad 0)), (1, .int x1), (2, .int x2), (3, .int x3), (4, .ref o)] := hl
  have hS : va_S A s.heap s.heap [] := va_S.rf
  have hx := X.1
  have hb := X.2.1
  unfold Law_write at h
  obtain ⟨p1, e1, h⟩ := bd_some h
  refine lv_aload hx hb d_Law_write_0 (lv_at hl 4 rfl) ?_
  refine lv_iconst (v := 0) hx hb d_Law_write_2 (by decide) ?_
  refine lv_aload_n hx hb d_Law_write_3 rfl (lv_at hl 0 rfl) ?_
  refine lv_iload_n hx hb d_Law_write_4 rfl (lv_at hl 1 rfl) ?_
  refine lv_iload_n hx hb d_Law_write_5 rfl (lv_at hl 2 rfl) ?_
  refine lv_iload_n hx hb d_Law_write_6 rfl (lv_at hl 3 rfl) ?_
  refine xf_V (pre := []) (As := [.int x1, .int x2, .int x3]) (X.on (vk_l X.2.2.2.2.2.2.2.1)) (m_FF_write e1) hZ htr hP hD hS kv_Law_47 ⟨⟨Nat.le_of_ble_eq_true rfl, Nat.le_of_ble_eq_true rfl⟩, Nat.le_of_ble_eq_true rfl, Nat.le_of_ble_eq_true rfl⟩ 0 rfl rfl rfl hl.1 rfl (Nat.le_of_ble_eq_true rfl) d_Law_write_7 (fun hk H locs hP hD hS => ?_) (fun hk H locs q9 ce hP hD hS hce hcv hcl => ?_)
  · have h := if_t hk h
    cases h
    have hP : va_P D cls (wL ad ca adM caM o cO p1.2.2 gM f) H := hP
    have hD : va_D A (wL ad ca adM caM o cO p1.2.2 gM f) := hD
    refine W.eq (g2 := F0 m 10 ls [.int p1.2.1, .int 0, .ref o]) rfl ?_
    refine lv_i2l (v := p1.2.1.toInt64) hx hb d_Law_write_10 rfl ?_
    refine lw_last X hP hD hS d_Law_write_11 (fun H locs hP hD hS => ?_)
    refine lv_goto (tgt := 27) hx hb d_Law_write_12 (by decide) ?_
    refine lv_iconst (v := 0) hx hb d_Law_write_27 (by decide) ?_
    exact hx_iret X hP hD hS (by decide) (by decide) d_Law_write_28
  · have h := if_f hk h
    have hP : va_P D cls (wL ad ca adM caM o cO p1.2.2 gM f) H := hP
    have hD : va_D A (wL ad ca adM caM o cO p1.2.2 gM f) := hD
    have hown : s.vm.findClass "FlashFilesLaw" = some m.cls := X.2.2.2.2.2.1
    have hTB := X.2.2.2.2.2.2.1
    obtain ⟨hc0, h9⟩ | ⟨hc0, h9⟩ := if_some h
    · cases h9
      have hcl : s.vm.findClass "java/lang/IllegalArgumentException" = some ce.cls := by rw [hc0] at hcl; exact hcl
      refine xx_catch (h := 15) hce hcv (Vm.classAt_of_findClass hcl) (fun hpl => by rw [htab]; exact sel_hit (E := "java/lang/IllegalArgumentException") hpl hown hTB q2_104 q2_111 hcl (by decide) (by decide) rfl) ?_
      refine lv_astore hx hb d_Law_write_15 hl (by decide) rfl (fun ls hl => ?_)
      refine lv_iconst (v := 1) hx hb d_Law_write_17 (by decide) ?_
      exact hx_iret X hP hD hS (by decide) (by decide) d_Law_write_18
    have h := h9
    obtain ⟨hc1, h9⟩ | ⟨hc1, h9⟩ := if_some h
    · cases h9
      have hcl : s.vm.findClass "java/lang/IllegalStateException" = some ce.cls := by rw [hc1] at hcl; exact hcl
      refine xx_catch (h := 19) hce hcv (Vm.classAt_of_findClass hcl) (fun hpl => by rw [htab]; exact sel_pass (E := "java/lang/IllegalStateException") (N := "java/lang/IllegalArgumentException") hpl hown hTB q2_104 hN.1 hcl (by decide) (by decide) (sel_hit (E := "java/lang/IllegalStateException") hpl hown hTB q4_195 q4_202 hcl (by decide) (by decide) rfl)) ?_
      refine lv_astore hx hb d_Law_write_19 hl (by decide) rfl (fun ls hl => ?_)
      refine lv_iconst (v := 2) hx hb d_Law_write_21 (by decide) ?_
      exact hx_iret X hP hD hS (by decide) (by decide) d_Law_write_22
    have h := h9
    obtain ⟨hc2, h9⟩ | ⟨hc2, h9⟩ := if_some h
    · cases h9
      have hcl : s.vm.findClass "java/lang/UnsupportedOperationException" = some ce.cls := by rw [hc2] at hcl; exact hcl
      refine xx_catch (h := 23) hce hcv (Vm.classAt_of_findClass hcl) (fun hpl => by rw [htab]; exact sel_pass (E := "java/lang/UnsupportedOperationException") (N := "java/lang/IllegalArgumentException") hpl hown hTB q2_104 hN.2.1 hcl (by decide) (by decide) (sel_pass (E := "java/lang/UnsupportedOperationException") (N := "java/lang/IllegalStateException") hpl hown hTB q4_195 hN.2.2 hcl (by decide) (by decide) (sel_hit (E := "java/lang/UnsupportedOperationException") hpl hown hTB q4_227 q5_76 hcl (by decide) (by decide) rfl))) ?_
      refine lv_astore hx hb d_Law_write_23 hl (by decide) rfl (fun ls hl => ?_)
      refine lv_iconst (v := 3) hx hb d_Law_write_25 (by decide) ?_
      exact hx_iret X hP hD hS (by decide) (by decide) d_Law_write_26
    have h := h9
    cases h
theorem d_Law_read_0 : decode method_13_code 0 = .ok (.aload 4, 2) := by decide +kernel
theorem d_Law_read_2 : decode method_13_code 2 = .ok (.iconst 0, 1) := by decide +kernel
theorem d_Law_read_3 : decode method_13_code 3 = .ok (.aload_n 0, 1) := by decide +kernel
theorem d_Law_read_4 : decode method_13_code 4 = .ok (.iload_n 1, 1) := by decide +kernel
theorem d_Law_read_5 : decode method_13_code 5 = .ok (.iload_n 2, 1) := by decide +kernel
theorem d_Law_read_6 : decode method_13_code 6 = .ok (.iload_n 3, 1) := by decide +kernel
theorem d_Law_read_7 : decode method_13_code 7 = .ok (.invokevirtual 50, 3) := by decide +kernel
theorem d_Law_read_10 : decode method_13_code 10 = .ok (.i2l, 1) := by decide +kernel
theorem d_Law_read_11 : decode method_13_code 11 = .ok (.lastore, 1) := by decide +kernel
theorem d_Law_read_12 : decode method_13_code 12 = .ok (.goto 11, 3) := by decide +kernel
theorem d_Law_read_15 : decode method_13_code 15 = .ok (.astore 5, 2) := by decide +kernel
theorem d_Law_read_17 : decode method_13_code 17 = .ok (.iconst 1, 1) := by decide +kernel
theorem d_Law_read_18 : decode method_13_code 18 = .ok (.ireturn, 1) := by decide +kernel
theorem d_Law_read_19 : decode method_13_code 19 = .ok (.astore 5, 2) := by decide +kernel
theorem d_Law_read_21 : decode method_13_code 21 = .ok (.iconst 2, 1) := by decide +kernel
theorem d_Law_read_22 : decode method_13_code 22 = .ok (.ireturn, 1) := by decide +kernel
theorem d_Law_read_23 : decode method_13_code 23 = .ok (.iconst 0, 1) := by decide +kernel
theorem d_Law_read_24 : decode method_13_code 24 = .ok (.ireturn, 1) := by decide +kernel
set_option maxHeartbeats 4000000 in
set_option maxRecDepth 100000 in
theorem h_read {l : Launch} {D : va_G} {ad : Nat → Nat} {ca : Nat → ClassId} {adM : Nat → Nat} {caM : Nat → ClassId} {o : Nat} {cO : ClassId} {FU : Nat} {x1 : Int32} {x2 : Int32} {x3 : Int32} {g gM : St} {f : Nat → Int64} {q : Int32 × (Nat → Int64) × St} (h : Law_read FU x1 x2 x3 f g = some q) : HC l ⟨"FlashFilesLaw", "read", "(LFlashFiles;III[J)I"⟩ method_13_code 6 [(0, 12, 15, 13), (0, 12, 19, 19)] 11 D (tyL ca caM cO) (wL ad ca adM caM o cO g gM f) [.ref (ad 0), .int x1, .int x2, .int x3, .ref o] q.1 (wL ad ca adM caM o cO q.2.2 gM q.2.1) := by
  refine HC.fx (by decide) (Nat.le_of_ble_eq_true rfl) ?_
  intro p e s m below meth c A ls X htab hZ hN htr hP hD hl
  have hl : lv_has ls 6 [(0, .ref (ad 0)), (1, .int x1), (2, .int x2), (3, .int x3), (4, .ref o)] := hl
  have hS : va_S A s.heap s.heap [] := va_S.rf
  have hx := X.1
  have hb := X.2.1
  unfold Law_read at h
  obtain ⟨p1, e1, h⟩ := bd_some h
  refine lv_aload hx hb d_Law_read_0 (lv_at hl 4 rfl) ?_
  refine lv_iconst (v := 0) hx hb d_Law_read_2 (by decide) ?_
  refine lv_aload_n hx hb d_Law_read_3 rfl (lv_at hl 0 rfl) ?_
  refine lv_iload_n hx hb d_Law_read_4 rfl (lv_at hl 1 rfl) ?_
  refine lv_iload_n hx hb d_Law_read_5 rfl (lv_at hl 2 rfl) ?_
  refine lv_iload_n hx hb d_Law_read_6 rfl (lv_at hl 3 rfl) ?_
  refine xf_V (pre := []) (As := [.int x1, .int x2, .int x3]) (X.on (vk_l X.2.2.2.2.2.2.2.1)) (m_FF_read e1) hZ htr hP hD hS kv_Law_50 ⟨⟨Nat.le_of_ble_eq_true rfl, Nat.le_of_ble_eq_true rfl⟩, Nat.le_of_ble_eq_true rfl, Nat.le_of_ble_eq_true rfl⟩ 0 rfl rfl rfl hl.1 rfl (Nat.le_of_ble_eq_true rfl) d_Law_read_7 (fun hk H locs hP hD hS => ?_) (fun hk H locs q9 ce hP hD hS hce hcv hcl => ?_)
  · have h := if_t hk h
    cases h
    have hP : va_P D cls (wL ad ca adM caM o cO p1.2.2 gM f) H := hP
    have hD : va_D A (wL ad ca adM caM o cO p1.2.2 gM f) := hD
    refine W.eq (g2 := F0 m 10 ls [.int p1.2.1, .int 0, .ref o]) rfl ?_
    refine lv_i2l (v := p1.2.1.toInt64) hx hb d_Law_read_10 rfl ?_
    refine lw_last X hP hD hS d_Law_read_11 (fun H locs hP hD hS => ?_)
    refine lv_goto (tgt := 23) hx hb d_Law_read_12 (by decide) ?_
    refine lv_iconst (v := 0) hx hb d_Law_read_23 (by decide) ?_
    exact hx_iret X hP hD hS (by decide) (by decide) d_Law_read_24
  · have h := if_f hk h
    have hP : va_P D cls (wL ad ca adM caM o cO p1.2.2 gM f) H := hP
    have hD : va_D A (wL ad ca adM caM o cO p1.2.2 gM f) := hD
    have hown : s.vm.findClass "FlashFilesLaw" = some m.cls := X.2.2.2.2.2.1
    have hTB := X.2.2.2.2.2.2.1
    obtain ⟨hc0, h9⟩ | ⟨hc0, h9⟩ := if_some h
    · cases h9
      have hcl : s.vm.findClass "java/lang/IllegalArgumentException" = some ce.cls := by rw [hc0] at hcl; exact hcl
      refine xx_catch (h := 15) hce hcv (Vm.classAt_of_findClass hcl) (fun hpl => by rw [htab]; exact sel_hit (E := "java/lang/IllegalArgumentException") hpl hown hTB q2_104 q2_111 hcl (by decide) (by decide) rfl) ?_
      refine lv_astore hx hb d_Law_read_15 hl (by decide) rfl (fun ls hl => ?_)
      refine lv_iconst (v := 1) hx hb d_Law_read_17 (by decide) ?_
      exact hx_iret X hP hD hS (by decide) (by decide) d_Law_read_18
    have h := h9
    obtain ⟨hc1, h9⟩ | ⟨hc1, h9⟩ := if_some h
    · cases h9
      have hcl : s.vm.findClass "java/lang/IllegalStateException" = some ce.cls := by rw [hc1] at hcl; exact hcl
      refine xx_catch (h := 19) hce hcv (Vm.classAt_of_findClass hcl) (fun hpl => by rw [htab]; exact sel_pass (E := "java/lang/IllegalStateException") (N := "java/lang/IllegalArgumentException") hpl hown hTB q2_104 hN.1 hcl (by decide) (by decide) (sel_hit (E := "java/lang/IllegalStateException") hpl hown hTB q4_195 q4_202 hcl (by decide) (by decide) rfl)) ?_
      refine lv_astore hx hb d_Law_read_19 hl (by decide) rfl (fun ls hl => ?_)
      refine lv_iconst (v := 2) hx hb d_Law_read_21 (by decide) ?_
      exact hx_iret X hP hD hS (by decide) (by decide) d_Law_read_22
    have h := h9
    cases h
theorem d_Law_byteAt_0 : decode method_14_code 0 = .ok (.aload_n 2, 1) := by decide +kernel
theorem d_Law_byteAt_1 : decode method_14_code 1 = .ok (.iconst 0, 1) := by decide +kernel
theorem d_Law_byteAt_2 : decode method_14_code 2 = .ok (.aload_n 0, 1) := by decide +kernel
theorem d_Law_byteAt_3 : decode method_14_code 3 = .ok (.iload_n 1, 1) := by decide +kernel
theorem d_Law_byteAt_4 : decode method_14_code 4 = .ok (.invokevirtual 53, 3) := by decide +kernel
theorem d_Law_byteAt_7 : decode method_14_code 7 = .ok (.i2l, 1) := by decide +kernel
theorem d_Law_byteAt_8 : decode method_14_code 8 = .ok (.lastore, 1) := by decide +kernel
theorem d_Law_byteAt_9 : decode method_14_code 9 = .ok (.goto 6, 3) := by decide +kernel
theorem d_Law_byteAt_12 : decode method_14_code 12 = .ok (.astore_n 3, 1) := by decide +kernel
theorem d_Law_byteAt_13 : decode method_14_code 13 = .ok (.iconst 1, 1) := by decide +kernel
theorem d_Law_byteAt_14 : decode method_14_code 14 = .ok (.ireturn, 1) := by decide +kernel
theorem d_Law_byteAt_15 : decode method_14_code 15 = .ok (.iconst 0, 1) := by decide +kernel
theorem d_Law_byteAt_16 : decode method_14_code 16 = .ok (.ireturn, 1) := by decide +kernel
set_option maxHeartbeats 4000000 in
set_option maxRecDepth 100000 in
theorem h_byteAt {l : Launch} {D : va_G} {ad : Nat → Nat} {ca : Nat → ClassId} {adM : Nat → Nat} {caM : Nat → ClassId} {o : Nat} {cO : ClassId} {FU : Nat} {x1 : Int32} {g gM : St} {f : Nat → Int64} {q : Int32 × (Nat → Int64) × St} (h : Law_byteAt FU x1 f g = some q) : HC l ⟨"FlashFilesLaw", "byteAt", "(LFlashFiles;I[J)I"⟩ method_14_code 4 [(0, 9, 12, 13)] 11 D (tyL ca caM cO) (wL ad ca adM caM o cO g gM f) [.ref (ad 0), .int x1, .ref o] q.1 (wL ad ca adM caM o cO q.2.2 gM q.2.1) := by
  refine HC.fx (by decide) (Nat.le_of_ble_eq_true rfl) ?_
  intro p e s m below meth c A ls X htab hZ hN htr hP hD hl
  have hl : lv_has ls 4 [(0, .ref (ad 0)), (1, .int x1), (2, .ref o)] := hl
  have hS : va_S A s.heap s.heap [] := va_S.rf
  have hx := X.1
  have hb := X.2.1
  unfold Law_byteAt at h
  obtain ⟨p1, e1, h⟩ := bd_some h
  refine lv_aload_n hx hb d_Law_byteAt_0 rfl (lv_at hl 2 rfl) ?_
  refine lv_iconst (v := 0) hx hb d_Law_byteAt_1 (by decide) ?_
  refine lv_aload_n hx hb d_Law_byteAt_2 rfl (lv_at hl 0 rfl) ?_
  refine lv_iload_n hx hb d_Law_byteAt_3 rfl (lv_at hl 1 rfl) ?_
  refine xf_V (pre := []) (As := [.int x1]) (X.on (vk_l X.2.2.2.2.2.2.2.1)) (m_FF_byteAt e1) hZ htr hP hD hS kv_Law_53 ⟨⟨Nat.le_of_ble_eq_true rfl, Nat.le_of_ble_eq_true rfl⟩, Nat.le_of_ble_eq_true rfl, Nat.le_of_ble_eq_true rfl⟩ 0 rfl rfl rfl hl.1 rfl (Nat.le_of_ble_eq_true rfl) d_Law_byteAt_4 (fun hk H locs hP hD hS => ?_) (fun hk H locs q9 ce hP hD hS hce hcv hcl => ?_)
  · have h := if_t hk h
    cases h
    have hP : va_P D cls (wL ad ca adM caM o cO p1.2.2 gM f) H := hP
    have hD : va_D A (wL ad ca adM caM o cO p1.2.2 gM f) := hD
    refine W.eq (g2 := F0 m 7 ls [.int p1.2.1, .int 0, .ref o]) rfl ?_
    refine lv_i2l (v := p1.2.1.toInt64) hx hb d_Law_byteAt_7 rfl ?_
    refine lw_last X hP hD hS d_Law_byteAt_8 (fun H locs hP hD hS => ?_)
    refine lv_goto (tgt := 15) hx hb d_Law_byteAt_9 (by decide) ?_
    refine lv_iconst (v := 0) hx hb d_Law_byteAt_15 (by decide) ?_
    exact hx_iret X hP hD hS (by decide) (by decide) d_Law_byteAt_16
  · have h := if_f hk h
    have hP : va_P D cls (wL ad ca adM caM o cO p1.2.2 gM f) H := hP
    have hD : va_D A (wL ad ca adM caM o cO p1.2.2 gM f) := hD
    have hown : s.vm.findClass "FlashFilesLaw" = some m.cls := X.2.2.2.2.2.1
    have hTB := X.2.2.2.2.2.2.1
    obtain ⟨hc0, h9⟩ | ⟨hc0, h9⟩ := if_some h
    · cases h9
      have hcl : s.vm.findClass "java/lang/IllegalArgumentException" = some ce.cls := by rw [hc0] at hcl; exact hcl
      refine xx_catch (h := 12) hce hcv (Vm.classAt_of_findClass hcl) (fun hpl => by rw [htab]; exact sel_hit (E := "java/lang/IllegalArgumentException") hpl hown hTB q2_104 q2_111 hcl (by decide) (by decide) rfl) ?_
      refine lv_astore_n hx hb d_Law_byteAt_12 rfl hl (by decide) rfl (fun ls hl => ?_)
      refine lv_iconst (v := 1) hx hb d_Law_byteAt_13 (by decide) ?_
      exact hx_iret X hP hD hS (by decide) (by decide) d_Law_byteAt_14
    have h := h9
    cases h
theorem d_Law_truncate_0 : decode method_15_code 0 = .ok (.aload_n 0, 1) := by decide +kernel
theorem d_Law_truncate_1 : decode method_15_code 1 = .ok (.iload_n 1, 1) := by decide +kernel
theorem d_Law_truncate_2 : decode method_15_code 2 = .ok (.iload_n 2, 1) := by decide +kernel
theorem d_Law_truncate_3 : decode method_15_code 3 = .ok (.invokevirtual 57, 3) := by decide +kernel
theorem d_Law_truncate_6 : decode method_15_code 6 = .ok (.goto 12, 3) := by decide +kernel
theorem d_Law_truncate_9 : decode method_15_code 9 = .ok (.astore_n 3, 1) := by decide +kernel
theorem d_Law_truncate_10 : decode method_15_code 10 = .ok (.iconst 1, 1) := by decide +kernel
theorem d_Law_truncate_11 : decode method_15_code 11 = .ok (.ireturn, 1) := by decide +kernel
theorem d_Law_truncate_12 : decode method_15_code 12 = .ok (.astore_n 3, 1) := by decide +kernel
theorem d_Law_truncate_13 : decode method_15_code 13 = .ok (.iconst 2, 1) := by decide +kernel
theorem d_Law_truncate_14 : decode method_15_code 14 = .ok (.ireturn, 1) := by decide +kernel
theorem d_Law_truncate_15 : decode method_15_code 15 = .ok (.astore_n 3, 1) := by decide +kernel
theorem d_Law_truncate_16 : decode method_15_code 16 = .ok (.iconst 3, 1) := by decide +kernel
theorem d_Law_truncate_17 : decode method_15_code 17 = .ok (.ireturn, 1) := by decide +kernel
theorem d_Law_truncate_18 : decode method_15_code 18 = .ok (.iconst 0, 1) := by decide +kernel
theorem d_Law_truncate_19 : decode method_15_code 19 = .ok (.ireturn, 1) := by decide +kernel
set_option maxHeartbeats 4000000 in
set_option maxRecDepth 100000 in
theorem h_truncate {l : Launch} {D : va_G} {ad : Nat → Nat} {ca : Nat → ClassId} {adM : Nat → Nat} {caM : Nat → ClassId} {o : Nat} {cO : ClassId} {FU : Nat} {x1 : Int32} {x2 : Int32} {g gM : St} {f : Nat → Int64} {q : Int32 × (Nat → Int64) × St} (h : Law_truncate FU x1 x2 f g = some q) : HC l ⟨"FlashFilesLaw", "truncate", "(LFlashFiles;II)I"⟩ method_15_code 4 [(0, 6, 9, 13), (0, 6, 12, 19), (0, 6, 15, 25)] 11 D (tyL ca caM cO) (wL ad ca adM caM o cO g gM f) [.ref (ad 0), .int x1, .int x2] q.1 (wL ad ca adM caM o cO q.2.2 gM q.2.1) := by
  refine HC.fx (by decide) (Nat.le_of_ble_eq_true rfl) ?_
  intro p e s m below meth c A ls X htab hZ hN htr hP hD hl
  have hl : lv_has ls 4 [(0, .ref (ad 0)), (1, .int x1), (2, .int x2)] := hl
  have hS : va_S A s.heap s.heap [] := va_S.rf
  have hx := X.1
  have hb := X.2.1
  unfold Law_truncate at h
  obtain ⟨p1, e1, h⟩ := bd_some h
  refine lv_aload_n hx hb d_Law_truncate_0 rfl (lv_at hl 0 rfl) ?_
  refine lv_iload_n hx hb d_Law_truncate_1 rfl (lv_at hl 1 rfl) ?_
  refine lv_iload_n hx hb d_Law_truncate_2 rfl (lv_at hl 2 rfl) ?_
  refine xf_V (pre := []) (As := [.int x1, .int x2]) (X.on (vk_l X.2.2.2.2.2.2.2.1)) (m_FF_truncate e1) hZ htr hP hD hS kv_Law_57 ⟨⟨Nat.le_of_ble_eq_true rfl, Nat.le_of_ble_eq_true rfl⟩, Nat.le_of_ble_eq_true rfl, Nat.le_of_ble_eq_true rfl⟩ 0 rfl rfl rfl hl.1 rfl (Nat.le_of_ble_eq_true rfl) d_Law_truncate_3 (fun hk H locs hP hD hS => ?_) (fun hk H locs q9 ce hP hD hS hce hcv hcl => ?_)
  · have h := if_t hk h
    cases h
    have hP : va_P D cls (wL ad ca adM caM o cO p1.2.2 gM f) H := hP
    have hD : va_D A (wL ad ca adM caM o cO p1.2.2 gM f) := hD
    refine W.eq (g2 := F0 m 6 ls []) rfl ?_
    refine lv_goto (tgt := 18) hx hb d_Law_truncate_6 (by decide) ?_
    refine lv_iconst (v := 0) hx hb d_Law_truncate_18 (by decide) ?_
    exact hx_iret X hP hD hS (by decide) (by decide) d_Law_truncate_19
  · have h := if_f hk h
    have hP : va_P D cls (wL ad ca adM caM o cO p1.2.2 gM f) H := hP
    have hD : va_D A (wL ad ca adM caM o cO p1.2.2 gM f) := hD
    have hown : s.vm.findClass "FlashFilesLaw" = some m.cls := X.2.2.2.2.2.1
    have hTB := X.2.2.2.2.2.2.1
    obtain ⟨hc0, h9⟩ | ⟨hc0, h9⟩ := if_some h
    · cases h9
      have hcl : s.vm.findClass "java/lang/IllegalArgumentException" = some ce.cls := by rw [hc0] at hcl; exact hcl
      refine xx_catch (h := 9) hce hcv (Vm.classAt_of_findClass hcl) (fun hpl => by rw [htab]; exact sel_hit (E := "java/lang/IllegalArgumentException") hpl hown hTB q2_104 q2_111 hcl (by decide) (by decide) rfl) ?_
      refine lv_astore_n hx hb d_Law_truncate_9 rfl hl (by decide) rfl (fun ls hl => ?_)
      refine lv_iconst (v := 1) hx hb d_Law_truncate_10 (by decide) ?_
      exact hx_iret X hP hD hS (by decide) (by decide) d_Law_truncate_11
    have h := h9
    obtain ⟨hc1, h9⟩ | ⟨hc1, h9⟩ := if_some h
    · cases h9
      have hcl : s.vm.findClass "java/lang/IllegalStateException" = some ce.cls := by rw [hc1] at hcl; exact hcl
      refine xx_catch (h := 12) hce hcv (Vm.classAt_of_findClass hcl) (fun hpl => by rw [htab]; exact sel_pass (E := "java/lang/IllegalStateException") (N := "java/lang/IllegalArgumentException") hpl hown hTB q2_104 hN.1 hcl (by decide) (by decide) (sel_hit (E := "java/lang/IllegalStateException") hpl hown hTB q4_195 q4_202 hcl (by decide) (by decide) rfl)) ?_
      refine lv_astore_n hx hb d_Law_truncate_12 rfl hl (by decide) rfl (fun ls hl => ?_)
      refine lv_iconst (v := 2) hx hb d_Law_truncate_13 (by decide) ?_
      exact hx_iret X hP hD hS (by decide) (by decide) d_Law_truncate_14
    have h := h9
    obtain ⟨hc2, h9⟩ | ⟨hc2, h9⟩ := if_some h
    · cases h9
      have hcl : s.vm.findClass "java/lang/UnsupportedOperationException" = some ce.cls := by rw [hc2] at hcl; exact hcl
      refine xx_catch (h := 15) hce hcv (Vm.classAt_of_findClass hcl) (fun hpl => by rw [htab]; exact sel_pass (E := "java/lang/UnsupportedOperationException") (N := "java/lang/IllegalArgumentException") hpl hown hTB q2_104 hN.2.1 hcl (by decide) (by decide) (sel_pass (E := "java/lang/UnsupportedOperationException") (N := "java/lang/IllegalStateException") hpl hown hTB q4_195 hN.2.2 hcl (by decide) (by decide) (sel_hit (E := "java/lang/UnsupportedOperationException") hpl hown hTB q4_227 q5_76 hcl (by decide) (by decide) rfl))) ?_
      refine lv_astore_n hx hb d_Law_truncate_15 rfl hl (by decide) rfl (fun ls hl => ?_)
      refine lv_iconst (v := 3) hx hb d_Law_truncate_16 (by decide) ?_
      exact hx_iret X hP hD hS (by decide) (by decide) d_Law_truncate_17
    have h := h9
    cases h
theorem d_Law_fsync_0 : decode method_16_code 0 = .ok (.aload_n 2, 1) := by decide +kernel
theorem d_Law_fsync_1 : decode method_16_code 1 = .ok (.iconst 0, 1) := by decide +kernel
theorem d_Law_fsync_2 : decode method_16_code 2 = .ok (.aload_n 0, 1) := by decide +kernel
theorem d_Law_fsync_3 : decode method_16_code 3 = .ok (.iload_n 1, 1) := by decide +kernel
theorem d_Law_fsync_4 : decode method_16_code 4 = .ok (.invokevirtual 60, 3) := by decide +kernel
theorem d_Law_fsync_7 : decode method_16_code 7 = .ok (.i2l, 1) := by decide +kernel
theorem d_Law_fsync_8 : decode method_16_code 8 = .ok (.lastore, 1) := by decide +kernel
theorem d_Law_fsync_9 : decode method_16_code 9 = .ok (.goto 12, 3) := by decide +kernel
theorem d_Law_fsync_12 : decode method_16_code 12 = .ok (.astore_n 3, 1) := by decide +kernel
theorem d_Law_fsync_13 : decode method_16_code 13 = .ok (.iconst 1, 1) := by decide +kernel
theorem d_Law_fsync_14 : decode method_16_code 14 = .ok (.ireturn, 1) := by decide +kernel
theorem d_Law_fsync_15 : decode method_16_code 15 = .ok (.astore_n 3, 1) := by decide +kernel
theorem d_Law_fsync_16 : decode method_16_code 16 = .ok (.iconst 2, 1) := by decide +kernel
theorem d_Law_fsync_17 : decode method_16_code 17 = .ok (.ireturn, 1) := by decide +kernel
theorem d_Law_fsync_18 : decode method_16_code 18 = .ok (.astore_n 3, 1) := by decide +kernel
theorem d_Law_fsync_19 : decode method_16_code 19 = .ok (.iconst 3, 1) := by decide +kernel
theorem d_Law_fsync_20 : decode method_16_code 20 = .ok (.ireturn, 1) := by decide +kernel
theorem d_Law_fsync_21 : decode method_16_code 21 = .ok (.iconst 0, 1) := by decide +kernel
theorem d_Law_fsync_22 : decode method_16_code 22 = .ok (.ireturn, 1) := by decide +kernel
set_option maxHeartbeats 4000000 in
set_option maxRecDepth 100000 in
theorem h_fsync {l : Launch} {D : va_G} {ad : Nat → Nat} {ca : Nat → ClassId} {adM : Nat → Nat} {caM : Nat → ClassId} {o : Nat} {cO : ClassId} {FU : Nat} {x1 : Int32} {g gM : St} {f : Nat → Int64} {q : Int32 × (Nat → Int64) × St} (h : Law_fsync FU x1 f g = some q) : HC l ⟨"FlashFilesLaw", "fsync", "(LFlashFiles;I[J)I"⟩ method_16_code 4 [(0, 9, 12, 13), (0, 9, 15, 19), (0, 9, 18, 25)] 11 D (tyL ca caM cO) (wL ad ca adM caM o cO g gM f) [.ref (ad 0), .int x1, .ref o] q.1 (wL ad ca adM caM o cO q.2.2 gM q.2.1) := by
  refine HC.fx (by decide) (Nat.le_of_ble_eq_true rfl) ?_
  intro p e s m below meth c A ls X htab hZ hN htr hP hD hl
  have hl : lv_has ls 4 [(0, .ref (ad 0)), (1, .int x1), (2, .ref o)] := hl
  have hS : va_S A s.heap s.heap [] := va_S.rf
  have hx := X.1
  have hb := X.2.1
  unfold Law_fsync at h
  obtain ⟨p1, e1, h⟩ := bd_some h
  refine lv_aload_n hx hb d_Law_fsync_0 rfl (lv_at hl 2 rfl) ?_
  refine lv_iconst (v := 0) hx hb d_Law_fsync_1 (by decide) ?_
  refine lv_aload_n hx hb d_Law_fsync_2 rfl (lv_at hl 0 rfl) ?_
  refine lv_iload_n hx hb d_Law_fsync_3 rfl (lv_at hl 1 rfl) ?_
  refine xf_V (pre := []) (As := [.int x1]) (X.on (vk_l X.2.2.2.2.2.2.2.1)) (m_FF_fsync e1) hZ htr hP hD hS kv_Law_60 ⟨⟨Nat.le_of_ble_eq_true rfl, Nat.le_of_ble_eq_true rfl⟩, Nat.le_of_ble_eq_true rfl, Nat.le_of_ble_eq_true rfl⟩ 0 rfl rfl rfl hl.1 rfl (Nat.le_of_ble_eq_true rfl) d_Law_fsync_4 (fun hk H locs hP hD hS => ?_) (fun hk H locs q9 ce hP hD hS hce hcv hcl => ?_)
  · have h := if_t hk h
    cases h
    have hP : va_P D cls (wL ad ca adM caM o cO p1.2.2 gM f) H := hP
    have hD : va_D A (wL ad ca adM caM o cO p1.2.2 gM f) := hD
    refine W.eq (g2 := F0 m 7 ls [.int p1.2.1, .int 0, .ref o]) rfl ?_
    refine lv_i2l (v := p1.2.1.toInt64) hx hb d_Law_fsync_7 rfl ?_
    refine lw_last X hP hD hS d_Law_fsync_8 (fun H locs hP hD hS => ?_)
    refine lv_goto (tgt := 21) hx hb d_Law_fsync_9 (by decide) ?_
    refine lv_iconst (v := 0) hx hb d_Law_fsync_21 (by decide) ?_
    exact hx_iret X hP hD hS (by decide) (by decide) d_Law_fsync_22
  · have h := if_f hk h
    have hP : va_P D cls (wL ad ca adM caM o cO p1.2.2 gM f) H := hP
    have hD : va_D A (wL ad ca adM caM o cO p1.2.2 gM f) := hD
    have hown : s.vm.findClass "FlashFilesLaw" = some m.cls := X.2.2.2.2.2.1
    have hTB := X.2.2.2.2.2.2.1
    obtain ⟨hc0, h9⟩ | ⟨hc0, h9⟩ := if_some h
    · cases h9
      have hcl : s.vm.findClass "java/lang/IllegalArgumentException" = some ce.cls := by rw [hc0] at hcl; exact hcl
      refine xx_catch (h := 12) hce hcv (Vm.classAt_of_findClass hcl) (fun hpl => by rw [htab]; exact sel_hit (E := "java/lang/IllegalArgumentException") hpl hown hTB q2_104 q2_111 hcl (by decide) (by decide) rfl) ?_
      refine lv_astore_n hx hb d_Law_fsync_12 rfl hl (by decide) rfl (fun ls hl => ?_)
      refine lv_iconst (v := 1) hx hb d_Law_fsync_13 (by decide) ?_
      exact hx_iret X hP hD hS (by decide) (by decide) d_Law_fsync_14
    have h := h9
    obtain ⟨hc1, h9⟩ | ⟨hc1, h9⟩ := if_some h
    · cases h9
      have hcl : s.vm.findClass "java/lang/IllegalStateException" = some ce.cls := by rw [hc1] at hcl; exact hcl
      refine xx_catch (h := 15) hce hcv (Vm.classAt_of_findClass hcl) (fun hpl => by rw [htab]; exact sel_pass (E := "java/lang/IllegalStateException") (N := "java/lang/IllegalArgumentException") hpl hown hTB q2_104 hN.1 hcl (by decide) (by decide) (sel_hit (E := "java/lang/IllegalStateException") hpl hown hTB q4_195 q4_202 hcl (by decide) (by decide) rfl)) ?_
      refine lv_astore_n hx hb d_Law_fsync_15 rfl hl (by decide) rfl (fun ls hl => ?_)
      refine lv_iconst (v := 2) hx hb d_Law_fsync_16 (by decide) ?_
      exact hx_iret X hP hD hS (by decide) (by decide) d_Law_fsync_17
    have h := h9
    obtain ⟨hc2, h9⟩ | ⟨hc2, h9⟩ := if_some h
    · cases h9
      have hcl : s.vm.findClass "java/lang/UnsupportedOperationException" = some ce.cls := by rw [hc2] at hcl; exact hcl
      refine xx_catch (h := 18) hce hcv (Vm.classAt_of_findClass hcl) (fun hpl => by rw [htab]; exact sel_pass (E := "java/lang/UnsupportedOperationException") (N := "java/lang/IllegalArgumentException") hpl hown hTB q2_104 hN.2.1 hcl (by decide) (by decide) (sel_pass (E := "java/lang/UnsupportedOperationException") (N := "java/lang/IllegalStateException") hpl hown hTB q4_195 hN.2.2 hcl (by decide) (by decide) (sel_hit (E := "java/lang/UnsupportedOperationException") hpl hown hTB q4_227 q5_76 hcl (by decide) (by decide) rfl))) ?_
      refine lv_astore_n hx hb d_Law_fsync_18 rfl hl (by decide) rfl (fun ls hl => ?_)
      refine lv_iconst (v := 3) hx hb d_Law_fsync_19 (by decide) ?_
      exact hx_iret X hP hD hS (by decide) (by decide) d_Law_fsync_20
    have h := h9
    cases h
theorem d_Law_sync_0 : decode method_17_code 0 = .ok (.aload_n 1, 1) := by decide +kernel
theorem d_Law_sync_1 : decode method_17_code 1 = .ok (.iconst 0, 1) := by decide +kernel
theorem d_Law_sync_2 : decode method_17_code 2 = .ok (.aload_n 0, 1) := by decide +kernel
theorem d_Law_sync_3 : decode method_17_code 3 = .ok (.invokevirtual 63, 3) := by decide +kernel
theorem d_Law_sync_6 : decode method_17_code 6 = .ok (.i2l, 1) := by decide +kernel
theorem d_Law_sync_7 : decode method_17_code 7 = .ok (.lastore, 1) := by decide +kernel
theorem d_Law_sync_8 : decode method_17_code 8 = .ok (.goto 9, 3) := by decide +kernel
theorem d_Law_sync_11 : decode method_17_code 11 = .ok (.astore_n 2, 1) := by decide +kernel
theorem d_Law_sync_12 : decode method_17_code 12 = .ok (.iconst 1, 1) := by decide +kernel
theorem d_Law_sync_13 : decode method_17_code 13 = .ok (.ireturn, 1) := by decide +kernel
theorem d_Law_sync_14 : decode method_17_code 14 = .ok (.astore_n 2, 1) := by decide +kernel
theorem d_Law_sync_15 : decode method_17_code 15 = .ok (.iconst 2, 1) := by decide +kernel
theorem d_Law_sync_16 : decode method_17_code 16 = .ok (.ireturn, 1) := by decide +kernel
theorem d_Law_sync_17 : decode method_17_code 17 = .ok (.iconst 0, 1) := by decide +kernel
theorem d_Law_sync_18 : decode method_17_code 18 = .ok (.ireturn, 1) := by decide +kernel
set_option maxHeartbeats 4000000 in
set_option maxRecDepth 100000 in
theorem h_sync {l : Launch} {D : va_G} {ad : Nat → Nat} {ca : Nat → ClassId} {adM : Nat → Nat} {caM : Nat → ClassId} {o : Nat} {cO : ClassId} {FU : Nat}  {g gM : St} {f : Nat → Int64} {q : Int32 × (Nat → Int64) × St} (h : Law_sync FU  f g = some q) : HC l ⟨"FlashFilesLaw", "sync", "(LFlashFiles;[J)I"⟩ method_17_code 3 [(0, 8, 11, 19), (0, 8, 14, 25)] 11 D (tyL ca caM cO) (wL ad ca adM caM o cO g gM f) [.ref (ad 0), .ref o] q.1 (wL ad ca adM caM o cO q.2.2 gM q.2.1) := by
  refine HC.fx (by decide) (Nat.le_of_ble_eq_true rfl) ?_
  intro p e s m below meth c A ls X htab hZ hN htr hP hD hl
  have hl : lv_has ls 3 [(0, .ref (ad 0)), (1, .ref o)] := hl
  have hS : va_S A s.heap s.heap [] := va_S.rf
  have hx := X.1
  have hb := X.2.1
  unfold Law_sync at h
  obtain ⟨p1, e1, h⟩ := bd_some h
  refine lv_aload_n hx hb d_Law_sync_0 rfl (lv_at hl 1 rfl) ?_
  refine lv_iconst (v := 0) hx hb d_Law_sync_1 (by decide) ?_
  refine lv_aload_n hx hb d_Law_sync_2 rfl (lv_at hl 0 rfl) ?_
  refine xf_V (pre := []) (As := []) (X.on (vk_l X.2.2.2.2.2.2.2.1)) (m_FF_sync e1) hZ htr hP hD hS kv_Law_63 ⟨⟨Nat.le_of_ble_eq_true rfl, Nat.le_of_ble_eq_true rfl⟩, Nat.le_of_ble_eq_true rfl, Nat.le_of_ble_eq_true rfl⟩ 0 rfl rfl rfl hl.1 rfl (Nat.le_of_ble_eq_true rfl) d_Law_sync_3 (fun hk H locs hP hD hS => ?_) (fun hk H locs q9 ce hP hD hS hce hcv hcl => ?_)
  · have h := if_t hk h
    cases h
    have hP : va_P D cls (wL ad ca adM caM o cO p1.2.2 gM f) H := hP
    have hD : va_D A (wL ad ca adM caM o cO p1.2.2 gM f) := hD
    refine W.eq (g2 := F0 m 6 ls [.int p1.2.1, .int 0, .ref o]) rfl ?_
    refine lv_i2l (v := p1.2.1.toInt64) hx hb d_Law_sync_6 rfl ?_
    refine lw_last X hP hD hS d_Law_sync_7 (fun H locs hP hD hS => ?_)
    refine lv_goto (tgt := 17) hx hb d_Law_sync_8 (by decide) ?_
    refine lv_iconst (v := 0) hx hb d_Law_sync_17 (by decide) ?_
    exact hx_iret X hP hD hS (by decide) (by decide) d_Law_sync_18
  · have h := if_f hk h
    have hP : va_P D cls (wL ad ca adM caM o cO p1.2.2 gM f) H := hP
    have hD : va_D A (wL ad ca adM caM o cO p1.2.2 gM f) := hD
    have hown : s.vm.findClass "FlashFilesLaw" = some m.cls := X.2.2.2.2.2.1
    have hTB := X.2.2.2.2.2.2.1
    obtain ⟨hc0, h9⟩ | ⟨hc0, h9⟩ := if_some h
    · cases h9
      have hcl : s.vm.findClass "java/lang/IllegalStateException" = some ce.cls := by rw [hc0] at hcl; exact hcl
      refine xx_catch (h := 11) hce hcv (Vm.classAt_of_findClass hcl) (fun hpl => by rw [htab]; exact sel_hit (E := "java/lang/IllegalStateException") hpl hown hTB q4_195 q4_202 hcl (by decide) (by decide) rfl) ?_
      refine lv_astore_n hx hb d_Law_sync_11 rfl hl (by decide) rfl (fun ls hl => ?_)
      refine lv_iconst (v := 1) hx hb d_Law_sync_12 (by decide) ?_
      exact hx_iret X hP hD hS (by decide) (by decide) d_Law_sync_13
    have h := h9
    obtain ⟨hc1, h9⟩ | ⟨hc1, h9⟩ := if_some h
    · cases h9
      have hcl : s.vm.findClass "java/lang/UnsupportedOperationException" = some ce.cls := by rw [hc1] at hcl; exact hcl
      refine xx_catch (h := 14) hce hcv (Vm.classAt_of_findClass hcl) (fun hpl => by rw [htab]; exact sel_pass (E := "java/lang/UnsupportedOperationException") (N := "java/lang/IllegalStateException") hpl hown hTB q4_195 hN.2.2 hcl (by decide) (by decide) (sel_hit (E := "java/lang/UnsupportedOperationException") hpl hown hTB q4_227 q5_76 hcl (by decide) (by decide) rfl)) ?_
      refine lv_astore_n hx hb d_Law_sync_14 rfl hl (by decide) rfl (fun ls hl => ?_)
      refine lv_iconst (v := 2) hx hb d_Law_sync_15 (by decide) ?_
      exact hx_iret X hP hD hS (by decide) (by decide) d_Law_sync_16
    have h := h9
    cases h
theorem d_Law_name_0 : decode method_18_code 0 = .ok (.aload_n 3, 1) := by decide +kernel
theorem d_Law_name_1 : decode method_18_code 1 = .ok (.iconst 0, 1) := by decide +kernel
theorem d_Law_name_2 : decode method_18_code 2 = .ok (.aload_n 0, 1) := by decide +kernel
theorem d_Law_name_3 : decode method_18_code 3 = .ok (.iload_n 1, 1) := by decide +kernel
theorem d_Law_name_4 : decode method_18_code 4 = .ok (.iload_n 2, 1) := by decide +kernel
theorem d_Law_name_5 : decode method_18_code 5 = .ok (.invokevirtual 67, 3) := by decide +kernel
theorem d_Law_name_8 : decode method_18_code 8 = .ok (.i2l, 1) := by decide +kernel
theorem d_Law_name_9 : decode method_18_code 9 = .ok (.lastore, 1) := by decide +kernel
theorem d_Law_name_10 : decode method_18_code 10 = .ok (.goto 11, 3) := by decide +kernel
theorem d_Law_name_13 : decode method_18_code 13 = .ok (.astore 4, 2) := by decide +kernel
theorem d_Law_name_15 : decode method_18_code 15 = .ok (.iconst 1, 1) := by decide +kernel
theorem d_Law_name_16 : decode method_18_code 16 = .ok (.ireturn, 1) := by decide +kernel
theorem d_Law_name_17 : decode method_18_code 17 = .ok (.astore 4, 2) := by decide +kernel
theorem d_Law_name_19 : decode method_18_code 19 = .ok (.iconst 2, 1) := by decide +kernel
theorem d_Law_name_20 : decode method_18_code 20 = .ok (.ireturn, 1) := by decide +kernel
theorem d_Law_name_21 : decode method_18_code 21 = .ok (.iconst 0, 1) := by decide +kernel
theorem d_Law_name_22 : decode method_18_code 22 = .ok (.ireturn, 1) := by decide +kernel
set_option maxHeartbeats 4000000 in
set_option maxRecDepth 100000 in
theorem h_name {l : Launch} {D : va_G} {ad : Nat → Nat} {ca : Nat → ClassId} {adM : Nat → Nat} {caM : Nat → ClassId} {o : Nat} {cO : ClassId} {FU : Nat} {x1 : Int32} {x2 : Int32} {g gM : St} {f : Nat → Int64} {q : Int32 × (Nat → Int64) × St} (h : Law_name FU x1 x2 f g = some q) : HC l ⟨"FlashFilesLaw", "name", "(LFlashFiles;II[J)I"⟩ method_18_code 5 [(0, 10, 13, 13), (0, 10, 17, 19)] 11 D (tyL ca caM cO) (wL ad ca adM caM o cO g gM f) [.ref (ad 0), .int x1, .int x2, .ref o] q.1 (wL ad ca adM caM o cO q.2.2 gM q.2.1) := by
  refine HC.fx (by decide) (Nat.le_of_ble_eq_true rfl) ?_
  intro p e s m below meth c A ls X htab hZ hN htr hP hD hl
  have hl : lv_has ls 5 [(0, .ref (ad 0)), (1, .int x1), (2, .int x2), (3, .ref o)] := hl
  have hS : va_S A s.heap s.heap [] := va_S.rf
  have hx := X.1
  have hb := X.2.1
  unfold Law_name at h
  obtain ⟨p1, e1, h⟩ := bd_some h
  refine lv_aload_n hx hb d_Law_name_0 rfl (lv_at hl 3 rfl) ?_
  refine lv_iconst (v := 0) hx hb d_Law_name_1 (by decide) ?_
  refine lv_aload_n hx hb d_Law_name_2 rfl (lv_at hl 0 rfl) ?_
  refine lv_iload_n hx hb d_Law_name_3 rfl (lv_at hl 1 rfl) ?_
  refine lv_iload_n hx hb d_Law_name_4 rfl (lv_at hl 2 rfl) ?_
  refine xf_V (pre := []) (As := [.int x1, .int x2]) (X.on (vk_l X.2.2.2.2.2.2.2.1)) (m_FF_name e1) hZ htr hP hD hS kv_Law_67 ⟨⟨Nat.le_of_ble_eq_true rfl, Nat.le_of_ble_eq_true rfl⟩, Nat.le_of_ble_eq_true rfl, Nat.le_of_ble_eq_true rfl⟩ 0 rfl rfl rfl hl.1 rfl (Nat.le_of_ble_eq_true rfl) d_Law_name_5 (fun hk H locs hP hD hS => ?_) (fun hk H locs q9 ce hP hD hS hce hcv hcl => ?_)
  · have h := if_t hk h
    cases h
    have hP : va_P D cls (wL ad ca adM caM o cO p1.2.2 gM f) H := hP
    have hD : va_D A (wL ad ca adM caM o cO p1.2.2 gM f) := hD
    refine W.eq (g2 := F0 m 8 ls [.int p1.2.1, .int 0, .ref o]) rfl ?_
    refine lv_i2l (v := p1.2.1.toInt64) hx hb d_Law_name_8 rfl ?_
    refine lw_last X hP hD hS d_Law_name_9 (fun H locs hP hD hS => ?_)
    refine lv_goto (tgt := 21) hx hb d_Law_name_10 (by decide) ?_
    refine lv_iconst (v := 0) hx hb d_Law_name_21 (by decide) ?_
    exact hx_iret X hP hD hS (by decide) (by decide) d_Law_name_22
  · have h := if_f hk h
    have hP : va_P D cls (wL ad ca adM caM o cO p1.2.2 gM f) H := hP
    have hD : va_D A (wL ad ca adM caM o cO p1.2.2 gM f) := hD
    have hown : s.vm.findClass "FlashFilesLaw" = some m.cls := X.2.2.2.2.2.1
    have hTB := X.2.2.2.2.2.2.1
    obtain ⟨hc0, h9⟩ | ⟨hc0, h9⟩ := if_some h
    · cases h9
      have hcl : s.vm.findClass "java/lang/IllegalArgumentException" = some ce.cls := by rw [hc0] at hcl; exact hcl
      refine xx_catch (h := 13) hce hcv (Vm.classAt_of_findClass hcl) (fun hpl => by rw [htab]; exact sel_hit (E := "java/lang/IllegalArgumentException") hpl hown hTB q2_104 q2_111 hcl (by decide) (by decide) rfl) ?_
      refine lv_astore hx hb d_Law_name_13 hl (by decide) rfl (fun ls hl => ?_)
      refine lv_iconst (v := 1) hx hb d_Law_name_15 (by decide) ?_
      exact hx_iret X hP hD hS (by decide) (by decide) d_Law_name_16
    have h := h9
    obtain ⟨hc1, h9⟩ | ⟨hc1, h9⟩ := if_some h
    · cases h9
      have hcl : s.vm.findClass "java/lang/IllegalStateException" = some ce.cls := by rw [hc1] at hcl; exact hcl
      refine xx_catch (h := 17) hce hcv (Vm.classAt_of_findClass hcl) (fun hpl => by rw [htab]; exact sel_pass (E := "java/lang/IllegalStateException") (N := "java/lang/IllegalArgumentException") hpl hown hTB q2_104 hN.1 hcl (by decide) (by decide) (sel_hit (E := "java/lang/IllegalStateException") hpl hown hTB q4_195 q4_202 hcl (by decide) (by decide) rfl)) ?_
      refine lv_astore hx hb d_Law_name_17 hl (by decide) rfl (fun ls hl => ?_)
      refine lv_iconst (v := 2) hx hb d_Law_name_19 (by decide) ?_
      exact hx_iret X hP hD hS (by decide) (by decide) d_Law_name_20
    have h := h9
    cases h
theorem d_Law_look_0 : decode method_19_code 0 = .ok (.aload_n 3, 1) := by decide +kernel
theorem d_Law_look_1 : decode method_19_code 1 = .ok (.iconst 0, 1) := by decide +kernel
theorem d_Law_look_2 : decode method_19_code 2 = .ok (.aload_n 0, 1) := by decide +kernel
theorem d_Law_look_3 : decode method_19_code 3 = .ok (.iload_n 1, 1) := by decide +kernel
theorem d_Law_look_4 : decode method_19_code 4 = .ok (.iload_n 2, 1) := by decide +kernel
theorem d_Law_look_5 : decode method_19_code 5 = .ok (.invokevirtual 70, 3) := by decide +kernel
theorem d_Law_look_8 : decode method_19_code 8 = .ok (.i2l, 1) := by decide +kernel
theorem d_Law_look_9 : decode method_19_code 9 = .ok (.lastore, 1) := by decide +kernel
theorem d_Law_look_10 : decode method_19_code 10 = .ok (.goto 11, 3) := by decide +kernel
theorem d_Law_look_13 : decode method_19_code 13 = .ok (.astore 4, 2) := by decide +kernel
theorem d_Law_look_15 : decode method_19_code 15 = .ok (.iconst 1, 1) := by decide +kernel
theorem d_Law_look_16 : decode method_19_code 16 = .ok (.ireturn, 1) := by decide +kernel
theorem d_Law_look_17 : decode method_19_code 17 = .ok (.astore 4, 2) := by decide +kernel
theorem d_Law_look_19 : decode method_19_code 19 = .ok (.iconst 2, 1) := by decide +kernel
theorem d_Law_look_20 : decode method_19_code 20 = .ok (.ireturn, 1) := by decide +kernel
theorem d_Law_look_21 : decode method_19_code 21 = .ok (.iconst 0, 1) := by decide +kernel
theorem d_Law_look_22 : decode method_19_code 22 = .ok (.ireturn, 1) := by decide +kernel
set_option maxHeartbeats 4000000 in
set_option maxRecDepth 100000 in
theorem h_look {l : Launch} {D : va_G} {ad : Nat → Nat} {ca : Nat → ClassId} {adM : Nat → Nat} {caM : Nat → ClassId} {o : Nat} {cO : ClassId} {FU : Nat} {x1 : Int32} {x2 : Int32} {g gM : St} {f : Nat → Int64} {q : Int32 × (Nat → Int64) × St} (h : Law_look FU x1 x2 f g = some q) : HC l ⟨"FlashFilesLaw", "look", "(LFlashFiles;II[J)I"⟩ method_19_code 5 [(0, 10, 13, 13), (0, 10, 17, 19)] 11 D (tyL ca caM cO) (wL ad ca adM caM o cO g gM f) [.ref (ad 0), .int x1, .int x2, .ref o] q.1 (wL ad ca adM caM o cO q.2.2 gM q.2.1) := by
  refine HC.fx (by decide) (Nat.le_of_ble_eq_true rfl) ?_
  intro p e s m below meth c A ls X htab hZ hN htr hP hD hl
  have hl : lv_has ls 5 [(0, .ref (ad 0)), (1, .int x1), (2, .int x2), (3, .ref o)] := hl
  have hS : va_S A s.heap s.heap [] := va_S.rf
  have hx := X.1
  have hb := X.2.1
  unfold Law_look at h
  obtain ⟨p1, e1, h⟩ := bd_some h
  refine lv_aload_n hx hb d_Law_look_0 rfl (lv_at hl 3 rfl) ?_
  refine lv_iconst (v := 0) hx hb d_Law_look_1 (by decide) ?_
  refine lv_aload_n hx hb d_Law_look_2 rfl (lv_at hl 0 rfl) ?_
  refine lv_iload_n hx hb d_Law_look_3 rfl (lv_at hl 1 rfl) ?_
  refine lv_iload_n hx hb d_Law_look_4 rfl (lv_at hl 2 rfl) ?_
  refine xf_V (pre := []) (As := [.int x1, .int x2]) (X.on (vk_l X.2.2.2.2.2.2.2.1)) (m_FF_look e1) hZ htr hP hD hS kv_Law_70 ⟨⟨Nat.le_of_ble_eq_true rfl, Nat.le_of_ble_eq_true rfl⟩, Nat.le_of_ble_eq_true rfl, Nat.le_of_ble_eq_true rfl⟩ 0 rfl rfl rfl hl.1 rfl (Nat.le_of_ble_eq_true rfl) d_Law_look_5 (fun hk H locs hP hD hS => ?_) (fun hk H locs q9 ce hP hD hS hce hcv hcl => ?_)
  · have h := if_t hk h
    cases h
    have hP : va_P D cls (wL ad ca adM caM o cO p1.2.2 gM f) H := hP
    have hD : va_D A (wL ad ca adM caM o cO p1.2.2 gM f) := hD
    refine W.eq (g2 := F0 m 8 ls [.int p1.2.1, .int 0, .ref o]) rfl ?_
    refine lv_i2l (v := p1.2.1.toInt64) hx hb d_Law_look_8 rfl ?_
    refine lw_last X hP hD hS d_Law_look_9 (fun H locs hP hD hS => ?_)
    refine lv_goto (tgt := 21) hx hb d_Law_look_10 (by decide) ?_
    refine lv_iconst (v := 0) hx hb d_Law_look_21 (by decide) ?_
    exact hx_iret X hP hD hS (by decide) (by decide) d_Law_look_22
  · have h := if_f hk h
    have hP : va_P D cls (wL ad ca adM caM o cO p1.2.2 gM f) H := hP
    have hD : va_D A (wL ad ca adM caM o cO p1.2.2 gM f) := hD
    have hown : s.vm.findClass "FlashFilesLaw" = some m.cls := X.2.2.2.2.2.1
    have hTB := X.2.2.2.2.2.2.1
    obtain ⟨hc0, h9⟩ | ⟨hc0, h9⟩ := if_some h
    · cases h9
      have hcl : s.vm.findClass "java/lang/IllegalArgumentException" = some ce.cls := by rw [hc0] at hcl; exact hcl
      refine xx_catch (h := 13) hce hcv (Vm.classAt_of_findClass hcl) (fun hpl => by rw [htab]; exact sel_hit (E := "java/lang/IllegalArgumentException") hpl hown hTB q2_104 q2_111 hcl (by decide) (by decide) rfl) ?_
      refine lv_astore hx hb d_Law_look_13 hl (by decide) rfl (fun ls hl => ?_)
      refine lv_iconst (v := 1) hx hb d_Law_look_15 (by decide) ?_
      exact hx_iret X hP hD hS (by decide) (by decide) d_Law_look_16
    have h := h9
    obtain ⟨hc1, h9⟩ | ⟨hc1, h9⟩ := if_some h
    · cases h9
      have hcl : s.vm.findClass "java/lang/IllegalStateException" = some ce.cls := by rw [hc1] at hcl; exact hcl
      refine xx_catch (h := 17) hce hcv (Vm.classAt_of_findClass hcl) (fun hpl => by rw [htab]; exact sel_pass (E := "java/lang/IllegalStateException") (N := "java/lang/IllegalArgumentException") hpl hown hTB q2_104 hN.1 hcl (by decide) (by decide) (sel_hit (E := "java/lang/IllegalStateException") hpl hown hTB q4_195 q4_202 hcl (by decide) (by decide) rfl)) ?_
      refine lv_astore hx hb d_Law_look_17 hl (by decide) rfl (fun ls hl => ?_)
      refine lv_iconst (v := 2) hx hb d_Law_look_19 (by decide) ?_
      exact hx_iret X hP hD hS (by decide) (by decide) d_Law_look_20
    have h := h9
    cases h
theorem d_Law_count_0 : decode method_20_code 0 = .ok (.aload_n 2, 1) := by decide +kernel
theorem d_Law_count_1 : decode method_20_code 1 = .ok (.iconst 0, 1) := by decide +kernel
theorem d_Law_count_2 : decode method_20_code 2 = .ok (.aload_n 0, 1) := by decide +kernel
theorem d_Law_count_3 : decode method_20_code 3 = .ok (.iload_n 1, 1) := by decide +kernel
theorem d_Law_count_4 : decode method_20_code 4 = .ok (.invokevirtual 73, 3) := by decide +kernel
theorem d_Law_count_7 : decode method_20_code 7 = .ok (.i2l, 1) := by decide +kernel
theorem d_Law_count_8 : decode method_20_code 8 = .ok (.lastore, 1) := by decide +kernel
theorem d_Law_count_9 : decode method_20_code 9 = .ok (.goto 9, 3) := by decide +kernel
theorem d_Law_count_12 : decode method_20_code 12 = .ok (.astore_n 3, 1) := by decide +kernel
theorem d_Law_count_13 : decode method_20_code 13 = .ok (.iconst 1, 1) := by decide +kernel
theorem d_Law_count_14 : decode method_20_code 14 = .ok (.ireturn, 1) := by decide +kernel
theorem d_Law_count_15 : decode method_20_code 15 = .ok (.astore_n 3, 1) := by decide +kernel
theorem d_Law_count_16 : decode method_20_code 16 = .ok (.iconst 2, 1) := by decide +kernel
theorem d_Law_count_17 : decode method_20_code 17 = .ok (.ireturn, 1) := by decide +kernel
theorem d_Law_count_18 : decode method_20_code 18 = .ok (.iconst 0, 1) := by decide +kernel
theorem d_Law_count_19 : decode method_20_code 19 = .ok (.ireturn, 1) := by decide +kernel
set_option maxHeartbeats 4000000 in
set_option maxRecDepth 100000 in
theorem h_count {l : Launch} {D : va_G} {ad : Nat → Nat} {ca : Nat → ClassId} {adM : Nat → Nat} {caM : Nat → ClassId} {o : Nat} {cO : ClassId} {FU : Nat} {x1 : Int32} {g gM : St} {f : Nat → Int64} {q : Int32 × (Nat → Int64) × St} (h : Law_count FU x1 f g = some q) : HC l ⟨"FlashFilesLaw", "count", "(LFlashFiles;I[J)I"⟩ method_20_code 4 [(0, 9, 12, 13), (0, 9, 15, 19)] 11 D (tyL ca caM cO) (wL ad ca adM caM o cO g gM f) [.ref (ad 0), .int x1, .ref o] q.1 (wL ad ca adM caM o cO q.2.2 gM q.2.1) := by
  refine HC.fx (by decide) (Nat.le_of_ble_eq_true rfl) ?_
  intro p e s m below meth c A ls X htab hZ hN htr hP hD hl
  have hl : lv_has ls 4 [(0, .ref (ad 0)), (1, .int x1), (2, .ref o)] := hl
  have hS : va_S A s.heap s.heap [] := va_S.rf
  have hx := X.1
  have hb := X.2.1
  unfold Law_count at h
  obtain ⟨p1, e1, h⟩ := bd_some h
  refine lv_aload_n hx hb d_Law_count_0 rfl (lv_at hl 2 rfl) ?_
  refine lv_iconst (v := 0) hx hb d_Law_count_1 (by decide) ?_
  refine lv_aload_n hx hb d_Law_count_2 rfl (lv_at hl 0 rfl) ?_
  refine lv_iload_n hx hb d_Law_count_3 rfl (lv_at hl 1 rfl) ?_
  refine xf_V (pre := []) (As := [.int x1]) (X.on (vk_l X.2.2.2.2.2.2.2.1)) (m_FF_count e1) hZ htr hP hD hS kv_Law_73 ⟨⟨Nat.le_of_ble_eq_true rfl, Nat.le_of_ble_eq_true rfl⟩, Nat.le_of_ble_eq_true rfl, Nat.le_of_ble_eq_true rfl⟩ 0 rfl rfl rfl hl.1 rfl (Nat.le_of_ble_eq_true rfl) d_Law_count_4 (fun hk H locs hP hD hS => ?_) (fun hk H locs q9 ce hP hD hS hce hcv hcl => ?_)
  · have h := if_t hk h
    cases h
    have hP : va_P D cls (wL ad ca adM caM o cO p1.2.2 gM f) H := hP
    have hD : va_D A (wL ad ca adM caM o cO p1.2.2 gM f) := hD
    refine W.eq (g2 := F0 m 7 ls [.int p1.2.1, .int 0, .ref o]) rfl ?_
    refine lv_i2l (v := p1.2.1.toInt64) hx hb d_Law_count_7 rfl ?_
    refine lw_last X hP hD hS d_Law_count_8 (fun H locs hP hD hS => ?_)
    refine lv_goto (tgt := 18) hx hb d_Law_count_9 (by decide) ?_
    refine lv_iconst (v := 0) hx hb d_Law_count_18 (by decide) ?_
    exact hx_iret X hP hD hS (by decide) (by decide) d_Law_count_19
  · have h := if_f hk h
    have hP : va_P D cls (wL ad ca adM caM o cO p1.2.2 gM f) H := hP
    have hD : va_D A (wL ad ca adM caM o cO p1.2.2 gM f) := hD
    have hown : s.vm.findClass "FlashFilesLaw" = some m.cls := X.2.2.2.2.2.1
    have hTB := X.2.2.2.2.2.2.1
    obtain ⟨hc0, h9⟩ | ⟨hc0, h9⟩ := if_some h
    · cases h9
      have hcl : s.vm.findClass "java/lang/IllegalArgumentException" = some ce.cls := by rw [hc0] at hcl; exact hcl
      refine xx_catch (h := 12) hce hcv (Vm.classAt_of_findClass hcl) (fun hpl => by rw [htab]; exact sel_hit (E := "java/lang/IllegalArgumentException") hpl hown hTB q2_104 q2_111 hcl (by decide) (by decide) rfl) ?_
      refine lv_astore_n hx hb d_Law_count_12 rfl hl (by decide) rfl (fun ls hl => ?_)
      refine lv_iconst (v := 1) hx hb d_Law_count_13 (by decide) ?_
      exact hx_iret X hP hD hS (by decide) (by decide) d_Law_count_14
    have h := h9
    obtain ⟨hc1, h9⟩ | ⟨hc1, h9⟩ := if_some h
    · cases h9
      have hcl : s.vm.findClass "java/lang/IllegalStateException" = some ce.cls := by rw [hc1] at hcl; exact hcl
      refine xx_catch (h := 15) hce hcv (Vm.classAt_of_findClass hcl) (fun hpl => by rw [htab]; exact sel_pass (E := "java/lang/IllegalStateException") (N := "java/lang/IllegalArgumentException") hpl hown hTB q2_104 hN.1 hcl (by decide) (by decide) (sel_hit (E := "java/lang/IllegalStateException") hpl hown hTB q4_195 q4_202 hcl (by decide) (by decide) rfl)) ?_
      refine lv_astore_n hx hb d_Law_count_15 rfl hl (by decide) rfl (fun ls hl => ?_)
      refine lv_iconst (v := 2) hx hb d_Law_count_16 (by decide) ?_
      exact hx_iret X hP hD hS (by decide) (by decide) d_Law_count_17
    have h := h9
    cases h
theorem d_Law_power_0 : decode method_21_code 0 = .ok (.aload_n 0, 1) := by decide +kernel
theorem d_Law_power_1 : decode method_21_code 1 = .ok (.invokevirtual 76, 3) := by decide +kernel
theorem d_Law_power_4 : decode method_21_code 4 = .ok (.goto 6, 3) := by decide +kernel
theorem d_Law_power_7 : decode method_21_code 7 = .ok (.astore_n 1, 1) := by decide +kernel
theorem d_Law_power_8 : decode method_21_code 8 = .ok (.iconst 1, 1) := by decide +kernel
theorem d_Law_power_9 : decode method_21_code 9 = .ok (.ireturn, 1) := by decide +kernel
theorem d_Law_power_10 : decode method_21_code 10 = .ok (.iconst 0, 1) := by decide +kernel
theorem d_Law_power_11 : decode method_21_code 11 = .ok (.ireturn, 1) := by decide +kernel
set_option maxHeartbeats 4000000 in
set_option maxRecDepth 100000 in
theorem h_power {l : Launch} {D : va_G} {ad : Nat → Nat} {ca : Nat → ClassId} {adM : Nat → Nat} {caM : Nat → ClassId} {o : Nat} {cO : ClassId} {FU : Nat}  {g gM : St} {f : Nat → Int64} {q : Int32 × (Nat → Int64) × St} (h : Law_power FU  f g = some q) : HC l ⟨"FlashFilesLaw", "power", "(LFlashFiles;)I"⟩ method_21_code 2 [(0, 4, 7, 19)] 11 D (tyL ca caM cO) (wL ad ca adM caM o cO g gM f) [.ref (ad 0)] q.1 (wL ad ca adM caM o cO q.2.2 gM q.2.1) := by
  refine HC.fx (by decide) (Nat.le_of_ble_eq_true rfl) ?_
  intro p e s m below meth c A ls X htab hZ hN htr hP hD hl
  have hl : lv_has ls 2 [(0, .ref (ad 0))] := hl
  have hS : va_S A s.heap s.heap [] := va_S.rf
  have hx := X.1
  have hb := X.2.1
  unfold Law_power at h
  obtain ⟨p1, e1, h⟩ := bd_some h
  refine lv_aload_n hx hb d_Law_power_0 rfl (lv_at hl 0 rfl) ?_
  refine xf_V (pre := []) (As := []) (X.on (vk_l X.2.2.2.2.2.2.2.1)) (m_FF_power e1) hZ htr hP hD hS kv_Law_76 ⟨⟨Nat.le_of_ble_eq_true rfl, Nat.le_of_ble_eq_true rfl⟩, Nat.le_of_ble_eq_true rfl, Nat.le_of_ble_eq_true rfl⟩ 0 rfl rfl rfl hl.1 rfl (Nat.le_of_ble_eq_true rfl) d_Law_power_1 (fun hk H locs hP hD hS => ?_) (fun hk H locs q9 ce hP hD hS hce hcv hcl => ?_)
  · have h := if_t hk h
    cases h
    have hP : va_P D cls (wL ad ca adM caM o cO p1.2.2 gM f) H := hP
    have hD : va_D A (wL ad ca adM caM o cO p1.2.2 gM f) := hD
    refine W.eq (g2 := F0 m 4 ls []) rfl ?_
    refine lv_goto (tgt := 10) hx hb d_Law_power_4 (by decide) ?_
    refine lv_iconst (v := 0) hx hb d_Law_power_10 (by decide) ?_
    exact hx_iret X hP hD hS (by decide) (by decide) d_Law_power_11
  · have h := if_f hk h
    have hP : va_P D cls (wL ad ca adM caM o cO p1.2.2 gM f) H := hP
    have hD : va_D A (wL ad ca adM caM o cO p1.2.2 gM f) := hD
    have hown : s.vm.findClass "FlashFilesLaw" = some m.cls := X.2.2.2.2.2.1
    have hTB := X.2.2.2.2.2.2.1
    obtain ⟨hc0, h9⟩ | ⟨hc0, h9⟩ := if_some h
    · cases h9
      have hcl : s.vm.findClass "java/lang/IllegalStateException" = some ce.cls := by rw [hc0] at hcl; exact hcl
      refine xx_catch (h := 7) hce hcv (Vm.classAt_of_findClass hcl) (fun hpl => by rw [htab]; exact sel_hit (E := "java/lang/IllegalStateException") hpl hown hTB q4_195 q4_202 hcl (by decide) (by decide) rfl) ?_
      refine lv_astore_n hx hb d_Law_power_7 rfl hl (by decide) rfl (fun ls hl => ?_)
      refine lv_iconst (v := 1) hx hb d_Law_power_8 (by decide) ?_
      exact hx_iret X hP hD hS (by decide) (by decide) d_Law_power_9
    have h := h9
    cases h
theorem d_Law_cut_0 : decode method_22_code 0 = .ok (.aload_n 0, 1) := by decide +kernel
theorem d_Law_cut_1 : decode method_22_code 1 = .ok (.iload_n 1, 1) := by decide +kernel
theorem d_Law_cut_2 : decode method_22_code 2 = .ok (.invokevirtual 79, 3) := by decide +kernel
theorem d_Law_cut_5 : decode method_22_code 5 = .ok (.goto 6, 3) := by decide +kernel
theorem d_Law_cut_8 : decode method_22_code 8 = .ok (.astore_n 2, 1) := by decide +kernel
theorem d_Law_cut_9 : decode method_22_code 9 = .ok (.iconst 1, 1) := by decide +kernel
theorem d_Law_cut_10 : decode method_22_code 10 = .ok (.ireturn, 1) := by decide +kernel
theorem d_Law_cut_11 : decode method_22_code 11 = .ok (.iconst 0, 1) := by decide +kernel
theorem d_Law_cut_12 : decode method_22_code 12 = .ok (.ireturn, 1) := by decide +kernel
set_option maxHeartbeats 4000000 in
set_option maxRecDepth 100000 in
theorem h_cut {l : Launch} {D : va_G} {ad : Nat → Nat} {ca : Nat → ClassId} {adM : Nat → Nat} {caM : Nat → ClassId} {o : Nat} {cO : ClassId} {FU : Nat} {x1 : Int32} {g gM : St} {f : Nat → Int64} {q : Int32 × (Nat → Int64) × St} (h : Law_cut FU x1 f g = some q) : HC l ⟨"FlashFilesLaw", "cut", "(LFlashFiles;I)I"⟩ method_22_code 3 [(0, 5, 8, 19)] 11 D (tyL ca caM cO) (wL ad ca adM caM o cO g gM f) [.ref (ad 0), .int x1] q.1 (wL ad ca adM caM o cO q.2.2 gM q.2.1) := by
  refine HC.fx (by decide) (Nat.le_of_ble_eq_true rfl) ?_
  intro p e s m below meth c A ls X htab hZ hN htr hP hD hl
  have hl : lv_has ls 3 [(0, .ref (ad 0)), (1, .int x1)] := hl
  have hS : va_S A s.heap s.heap [] := va_S.rf
  have hx := X.1
  have hb := X.2.1
  unfold Law_cut at h
  obtain ⟨p1, e1, h⟩ := bd_some h
  refine lv_aload_n hx hb d_Law_cut_0 rfl (lv_at hl 0 rfl) ?_
  refine lv_iload_n hx hb d_Law_cut_1 rfl (lv_at hl 1 rfl) ?_
  refine xf_V (pre := []) (As := [.int x1]) (X.on (vk_l X.2.2.2.2.2.2.2.1)) (m_FF_cut e1) hZ htr hP hD hS kv_Law_79 ⟨⟨Nat.le_of_ble_eq_true rfl, Nat.le_of_ble_eq_true rfl⟩, Nat.le_of_ble_eq_true rfl, Nat.le_of_ble_eq_true rfl⟩ 0 rfl rfl rfl hl.1 rfl (Nat.le_of_ble_eq_true rfl) d_Law_cut_2 (fun hk H locs hP hD hS => ?_) (fun hk H locs q9 ce hP hD hS hce hcv hcl => ?_)
  · have h := if_t hk h
    cases h
    have hP : va_P D cls (wL ad ca adM caM o cO p1.2.2 gM f) H := hP
    have hD : va_D A (wL ad ca adM caM o cO p1.2.2 gM f) := hD
    refine W.eq (g2 := F0 m 5 ls []) rfl ?_
    refine lv_goto (tgt := 11) hx hb d_Law_cut_5 (by decide) ?_
    refine lv_iconst (v := 0) hx hb d_Law_cut_11 (by decide) ?_
    exact hx_iret X hP hD hS (by decide) (by decide) d_Law_cut_12
  · have h := if_f hk h
    have hP : va_P D cls (wL ad ca adM caM o cO p1.2.2 gM f) H := hP
    have hD : va_D A (wL ad ca adM caM o cO p1.2.2 gM f) := hD
    have hown : s.vm.findClass "FlashFilesLaw" = some m.cls := X.2.2.2.2.2.1
    have hTB := X.2.2.2.2.2.2.1
    obtain ⟨hc0, h9⟩ | ⟨hc0, h9⟩ := if_some h
    · cases h9
      have hcl : s.vm.findClass "java/lang/IllegalStateException" = some ce.cls := by rw [hc0] at hcl; exact hcl
      refine xx_catch (h := 8) hce hcv (Vm.classAt_of_findClass hcl) (fun hpl => by rw [htab]; exact sel_hit (E := "java/lang/IllegalStateException") hpl hown hTB q4_195 q4_202 hcl (by decide) (by decide) rfl) ?_
      refine lv_astore_n hx hb d_Law_cut_8 rfl hl (by decide) rfl (fun ls hl => ?_)
      refine lv_iconst (v := 1) hx hb d_Law_cut_9 (by decide) ?_
      exact hx_iret X hP hD hS (by decide) (by decide) d_Law_cut_10
    have h := h9
    cases h
theorem d_Law_mount_0 : decode method_23_code 0 = .ok (.aload_n 1, 1) := by decide +kernel
theorem d_Law_mount_1 : decode method_23_code 1 = .ok (.iconst 0, 1) := by decide +kernel
theorem d_Law_mount_2 : decode method_23_code 2 = .ok (.aload_n 0, 1) := by decide +kernel
theorem d_Law_mount_3 : decode method_23_code 3 = .ok (.invokevirtual 83, 3) := by decide +kernel
theorem d_Law_mount_6 : decode method_23_code 6 = .ok (.i2l, 1) := by decide +kernel
theorem d_Law_mount_7 : decode method_23_code 7 = .ok (.lastore, 1) := by decide +kernel
theorem d_Law_mount_8 : decode method_23_code 8 = .ok (.goto 6, 3) := by decide +kernel
theorem d_Law_mount_11 : decode method_23_code 11 = .ok (.astore_n 2, 1) := by decide +kernel
theorem d_Law_mount_12 : decode method_23_code 12 = .ok (.iconst 1, 1) := by decide +kernel
theorem d_Law_mount_13 : decode method_23_code 13 = .ok (.ireturn, 1) := by decide +kernel
theorem d_Law_mount_14 : decode method_23_code 14 = .ok (.iconst 0, 1) := by decide +kernel
theorem d_Law_mount_15 : decode method_23_code 15 = .ok (.ireturn, 1) := by decide +kernel
set_option maxHeartbeats 4000000 in
set_option maxRecDepth 100000 in
theorem h_mount {l : Launch} {D : va_G} {ad : Nat → Nat} {ca : Nat → ClassId} {adM : Nat → Nat} {caM : Nat → ClassId} {o : Nat} {cO : ClassId} {FU : Nat}  {g gM : St} {f : Nat → Int64} {q : Int32 × (Nat → Int64) × St} (h : Law_mount FU  f g = some q) : HC l ⟨"FlashFilesLaw", "mount", "(LFlashFiles;[J)I"⟩ method_23_code 3 [(0, 8, 11, 19)] 11 D (tyL ca caM cO) (wL ad ca adM caM o cO g gM f) [.ref (ad 0), .ref o] q.1 (wL ad ca adM caM o cO q.2.2 gM q.2.1) := by
  refine HC.fx (by decide) (Nat.le_of_ble_eq_true rfl) ?_
  intro p e s m below meth c A ls X htab hZ hN htr hP hD hl
  have hl : lv_has ls 3 [(0, .ref (ad 0)), (1, .ref o)] := hl
  have hS : va_S A s.heap s.heap [] := va_S.rf
  have hx := X.1
  have hb := X.2.1
  unfold Law_mount at h
  obtain ⟨p1, e1, h⟩ := bd_some h
  refine lv_aload_n hx hb d_Law_mount_0 rfl (lv_at hl 1 rfl) ?_
  refine lv_iconst (v := 0) hx hb d_Law_mount_1 (by decide) ?_
  refine lv_aload_n hx hb d_Law_mount_2 rfl (lv_at hl 0 rfl) ?_
  refine xf_V (pre := []) (As := []) (X.on (vk_l X.2.2.2.2.2.2.2.1)) (m_FF_mount e1) hZ htr hP hD hS kv_Law_83 ⟨⟨Nat.le_of_ble_eq_true rfl, Nat.le_of_ble_eq_true rfl⟩, Nat.le_of_ble_eq_true rfl, Nat.le_of_ble_eq_true rfl⟩ 0 rfl rfl rfl hl.1 rfl (Nat.le_of_ble_eq_true rfl) d_Law_mount_3 (fun hk H locs hP hD hS => ?_) (fun hk H locs q9 ce hP hD hS hce hcv hcl => ?_)
  · have h := if_t hk h
    cases h
    have hP : va_P D cls (wL ad ca adM caM o cO p1.2.2 gM f) H := hP
    have hD : va_D A (wL ad ca adM caM o cO p1.2.2 gM f) := hD
    refine W.eq (g2 := F0 m 6 ls [.int p1.2.1, .int 0, .ref o]) rfl ?_
    refine lv_i2l (v := p1.2.1.toInt64) hx hb d_Law_mount_6 rfl ?_
    refine lw_last X hP hD hS d_Law_mount_7 (fun H locs hP hD hS => ?_)
    refine lv_goto (tgt := 14) hx hb d_Law_mount_8 (by decide) ?_
    refine lv_iconst (v := 0) hx hb d_Law_mount_14 (by decide) ?_
    exact hx_iret X hP hD hS (by decide) (by decide) d_Law_mount_15
  · have h := if_f hk h
    have hP : va_P D cls (wL ad ca adM caM o cO p1.2.2 gM f) H := hP
    have hD : va_D A (wL ad ca adM caM o cO p1.2.2 gM f) := hD
    have hown : s.vm.findClass "FlashFilesLaw" = some m.cls := X.2.2.2.2.2.1
    have hTB := X.2.2.2.2.2.2.1
    obtain ⟨hc0, h9⟩ | ⟨hc0, h9⟩ := if_some h
    · cases h9
      have hcl : s.vm.findClass "java/lang/IllegalStateException" = some ce.cls := by rw [hc0] at hcl; exact hcl
      refine xx_catch (h := 11) hce hcv (Vm.classAt_of_findClass hcl) (fun hpl => by rw [htab]; exact sel_hit (E := "java/lang/IllegalStateException") hpl hown hTB q4_195 q4_202 hcl (by decide) (by decide) rfl) ?_
      refine lv_astore_n hx hb d_Law_mount_11 rfl hl (by decide) rfl (fun ls hl => ?_)
      refine lv_iconst (v := 1) hx hb d_Law_mount_12 (by decide) ?_
      exact hx_iret X hP hD hS (by decide) (by decide) d_Law_mount_13
    have h := h9
    cases h
theorem d_Law_clean_0 : decode method_24_code 0 = .ok (.aload_n 0, 1) := by decide +kernel
theorem d_Law_clean_1 : decode method_24_code 1 = .ok (.invokevirtual 86, 3) := by decide +kernel
theorem d_Law_clean_4 : decode method_24_code 4 = .ok (.goto 6, 3) := by decide +kernel
theorem d_Law_clean_7 : decode method_24_code 7 = .ok (.astore_n 1, 1) := by decide +kernel
theorem d_Law_clean_8 : decode method_24_code 8 = .ok (.iconst 1, 1) := by decide +kernel
theorem d_Law_clean_9 : decode method_24_code 9 = .ok (.ireturn, 1) := by decide +kernel
theorem d_Law_clean_10 : decode method_24_code 10 = .ok (.iconst 0, 1) := by decide +kernel
theorem d_Law_clean_11 : decode method_24_code 11 = .ok (.ireturn, 1) := by decide +kernel
set_option maxHeartbeats 4000000 in
set_option maxRecDepth 100000 in
theorem h_clean {l : Launch} {D : va_G} {ad : Nat → Nat} {ca : Nat → ClassId} {adM : Nat → Nat} {caM : Nat → ClassId} {o : Nat} {cO : ClassId} {FU : Nat}  {g gM : St} {f : Nat → Int64} {q : Int32 × (Nat → Int64) × St} (h : Law_clean FU  f g = some q) : HC l ⟨"FlashFilesLaw", "clean", "(LFlashFiles;)I"⟩ method_24_code 2 [(0, 4, 7, 19)] 11 D (tyL ca caM cO) (wL ad ca adM caM o cO g gM f) [.ref (ad 0)] q.1 (wL ad ca adM caM o cO q.2.2 gM q.2.1) := by
  refine HC.fx (by decide) (Nat.le_of_ble_eq_true rfl) ?_
  intro p e s m below meth c A ls X htab hZ hN htr hP hD hl
  have hl : lv_has ls 2 [(0, .ref (ad 0))] := hl
  have hS : va_S A s.heap s.heap [] := va_S.rf
  have hx := X.1
  have hb := X.2.1
  unfold Law_clean at h
  obtain ⟨p1, e1, h⟩ := bd_some h
  refine lv_aload_n hx hb d_Law_clean_0 rfl (lv_at hl 0 rfl) ?_
  refine xf_V (pre := []) (As := []) (X.on (vk_l X.2.2.2.2.2.2.2.1)) (m_FF_clean e1) hZ htr hP hD hS kv_Law_86 ⟨⟨Nat.le_of_ble_eq_true rfl, Nat.le_of_ble_eq_true rfl⟩, Nat.le_of_ble_eq_true rfl, Nat.le_of_ble_eq_true rfl⟩ 0 rfl rfl rfl hl.1 rfl (Nat.le_of_ble_eq_true rfl) d_Law_clean_1 (fun hk H locs hP hD hS => ?_) (fun hk H locs q9 ce hP hD hS hce hcv hcl => ?_)
  · have h := if_t hk h
    cases h
    have hP : va_P D cls (wL ad ca adM caM o cO p1.2.2 gM f) H := hP
    have hD : va_D A (wL ad ca adM caM o cO p1.2.2 gM f) := hD
    refine W.eq (g2 := F0 m 4 ls []) rfl ?_
    refine lv_goto (tgt := 10) hx hb d_Law_clean_4 (by decide) ?_
    refine lv_iconst (v := 0) hx hb d_Law_clean_10 (by decide) ?_
    exact hx_iret X hP hD hS (by decide) (by decide) d_Law_clean_11
  · have h := if_f hk h
    have hP : va_P D cls (wL ad ca adM caM o cO p1.2.2 gM f) H := hP
    have hD : va_D A (wL ad ca adM caM o cO p1.2.2 gM f) := hD
    have hown : s.vm.findClass "FlashFilesLaw" = some m.cls := X.2.2.2.2.2.1
    have hTB := X.2.2.2.2.2.2.1
    obtain ⟨hc0, h9⟩ | ⟨hc0, h9⟩ := if_some h
    · cases h9
      have hcl : s.vm.findClass "java/lang/IllegalStateException" = some ce.cls := by rw [hc0] at hcl; exact hcl
      refine xx_catch (h := 7) hce hcv (Vm.classAt_of_findClass hcl) (fun hpl => by rw [htab]; exact sel_hit (E := "java/lang/IllegalStateException") hpl hown hTB q4_195 q4_202 hcl (by decide) (by decide) rfl) ?_
      refine lv_astore_n hx hb d_Law_clean_7 rfl hl (by decide) rfl (fun ls hl => ?_)
      refine lv_iconst (v := 1) hx hb d_Law_clean_8 (by decide) ?_
      exact hx_iret X hP hD hS (by decide) (by decide) d_Law_clean_9
    have h := h9
    cases h
theorem d_Law_faults_0 : decode method_25_code 0 = .ok (.aload_n 1, 1) := by decide +kernel
theorem d_Law_faults_1 : decode method_25_code 1 = .ok (.iconst 0, 1) := by decide +kernel
theorem d_Law_faults_2 : decode method_25_code 2 = .ok (.aload_n 0, 1) := by decide +kernel
theorem d_Law_faults_3 : decode method_25_code 3 = .ok (.invokevirtual 89, 3) := by decide +kernel
theorem d_Law_faults_6 : decode method_25_code 6 = .ok (.i2l, 1) := by decide +kernel
theorem d_Law_faults_7 : decode method_25_code 7 = .ok (.lastore, 1) := by decide +kernel
theorem d_Law_faults_8 : decode method_25_code 8 = .ok (.goto 6, 3) := by decide +kernel
theorem d_Law_faults_11 : decode method_25_code 11 = .ok (.astore_n 2, 1) := by decide +kernel
theorem d_Law_faults_12 : decode method_25_code 12 = .ok (.iconst 1, 1) := by decide +kernel
theorem d_Law_faults_13 : decode method_25_code 13 = .ok (.ireturn, 1) := by decide +kernel
theorem d_Law_faults_14 : decode method_25_code 14 = .ok (.iconst 0, 1) := by decide +kernel
theorem d_Law_faults_15 : decode method_25_code 15 = .ok (.ireturn, 1) := by decide +kernel
set_option maxHeartbeats 4000000 in
set_option maxRecDepth 100000 in
theorem h_faults {l : Launch} {D : va_G} {ad : Nat → Nat} {ca : Nat → ClassId} {adM : Nat → Nat} {caM : Nat → ClassId} {o : Nat} {cO : ClassId} {FU : Nat}  {g gM : St} {f : Nat → Int64} {q : Int32 × (Nat → Int64) × St} (h : Law_faults FU  f g = some q) : HC l ⟨"FlashFilesLaw", "faults", "(LFlashFiles;[J)I"⟩ method_25_code 3 [(0, 8, 11, 19)] 11 D (tyL ca caM cO) (wL ad ca adM caM o cO g gM f) [.ref (ad 0), .ref o] q.1 (wL ad ca adM caM o cO q.2.2 gM q.2.1) := by
  refine HC.fx (by decide) (Nat.le_of_ble_eq_true rfl) ?_
  intro p e s m below meth c A ls X htab hZ hN htr hP hD hl
  have hl : lv_has ls 3 [(0, .ref (ad 0)), (1, .ref o)] := hl
  have hS : va_S A s.heap s.heap [] := va_S.rf
  have hx := X.1
  have hb := X.2.1
  unfold Law_faults at h
  obtain ⟨p1, e1, h⟩ := bd_some h
  refine lv_aload_n hx hb d_Law_faults_0 rfl (lv_at hl 1 rfl) ?_
  refine lv_iconst (v := 0) hx hb d_Law_faults_1 (by decide) ?_
  refine lv_aload_n hx hb d_Law_faults_2 rfl (lv_at hl 0 rfl) ?_
  refine xf_V (pre := []) (As := []) (X.on (vk_l X.2.2.2.2.2.2.2.1)) (m_FF_faults e1) hZ htr hP hD hS kv_Law_89 ⟨⟨Nat.le_of_ble_eq_true rfl, Nat.le_of_ble_eq_true rfl⟩, Nat.le_of_ble_eq_true rfl, Nat.le_of_ble_eq_true rfl⟩ 0 rfl rfl rfl hl.1 rfl (Nat.le_of_ble_eq_true rfl) d_Law_faults_3 (fun hk H locs hP hD hS => ?_) (fun hk H locs q9 ce hP hD hS hce hcv hcl => ?_)
  · have h := if_t hk h
    cases h
    have hP : va_P D cls (wL ad ca adM caM o cO p1.2.2 gM f) H := hP
    have hD : va_D A (wL ad ca adM caM o cO p1.2.2 gM f) := hD
    refine W.eq (g2 := F0 m 6 ls [.int p1.2.1, .int 0, .ref o]) rfl ?_
    refine lv_i2l (v := p1.2.1.toInt64) hx hb d_Law_faults_6 rfl ?_
    refine lw_last X hP hD hS d_Law_faults_7 (fun H locs hP hD hS => ?_)
    refine lv_goto (tgt := 14) hx hb d_Law_faults_8 (by decide) ?_
    refine lv_iconst (v := 0) hx hb d_Law_faults_14 (by decide) ?_
    exact hx_iret X hP hD hS (by decide) (by decide) d_Law_faults_15
  · have h := if_f hk h
    have hP : va_P D cls (wL ad ca adM caM o cO p1.2.2 gM f) H := hP
    have hD : va_D A (wL ad ca adM caM o cO p1.2.2 gM f) := hD
    have hown : s.vm.findClass "FlashFilesLaw" = some m.cls := X.2.2.2.2.2.1
    have hTB := X.2.2.2.2.2.2.1
    obtain ⟨hc0, h9⟩ | ⟨hc0, h9⟩ := if_some h
    · cases h9
      have hcl : s.vm.findClass "java/lang/IllegalStateException" = some ce.cls := by rw [hc0] at hcl; exact hcl
      refine xx_catch (h := 11) hce hcv (Vm.classAt_of_findClass hcl) (fun hpl => by rw [htab]; exact sel_hit (E := "java/lang/IllegalStateException") hpl hown hTB q4_195 q4_202 hcl (by decide) (by decide) rfl) ?_
      refine lv_astore_n hx hb d_Law_faults_11 rfl hl (by decide) rfl (fun ls hl => ?_)
      refine lv_iconst (v := 1) hx hb d_Law_faults_12 (by decide) ?_
      exact hx_iret X hP hD hS (by decide) (by decide) d_Law_faults_13
    have h := h9
    cases h
