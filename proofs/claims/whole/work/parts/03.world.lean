theorem q1_1 : (Cond.initialized "FlashFiles" : Cond) ∈ TT := tt1 (List.mem_of_getElem? (i := 1) rfl) rfl
theorem q1_2 : (Cond.initialized "FlashFiles$Row" : Cond) ∈ TT := tt1 (List.mem_of_getElem? (i := 2) rfl) rfl
theorem q1_3 : (Cond.initialized "FlashFiles$Device" : Cond) ∈ TT := tt1 (List.mem_of_getElem? (i := 3) rfl) rfl
theorem q1_4 : (Cond.initialized "FlashFiles$Table" : Cond) ∈ TT := tt1 (List.mem_of_getElem? (i := 4) rfl) rfl
theorem q1_5 : (Cond.initialized "FlashFiles$Log" : Cond) ∈ TT := tt1 (List.mem_of_getElem? (i := 5) rfl) rfl
theorem q1_6 : (Cond.initialized "FlashFiles$Files" : Cond) ∈ TT := tt1 (List.mem_of_getElem? (i := 6) rfl) rfl
theorem q1_7 : (Cond.initialized "FlashFiles$Tree" : Cond) ∈ TT := tt1 (List.mem_of_getElem? (i := 7) rfl) rfl
theorem q1_8 : (Cond.initialized "FlashFiles$Checkpoints" : Cond) ∈ TT := tt1 (List.mem_of_getElem? (i := 8) rfl) rfl
theorem q1_9 : (Cond.initialized "FlashFiles$Cleaner" : Cond) ∈ TT := tt1 (List.mem_of_getElem? (i := 9) rfl) rfl
theorem q1_10 : (Cond.initialized "FlashFiles$Inspector" : Cond) ∈ TT := tt1 (List.mem_of_getElem? (i := 10) rfl) rfl
theorem q1_11 : (Cond.initialized "FlashFilesModel" : Cond) ∈ TT := tt1 (List.mem_of_getElem? (i := 11) rfl) rfl
theorem q1_12 : (Cond.initialized "java/lang/Throwable" : Cond) ∈ TT := tt1 (List.mem_of_getElem? (i := 12) rfl) rfl
theorem q1_15 : (Cond.initialized "java/lang/IllegalArgumentException" : Cond) ∈ TT := tt1 (List.mem_of_getElem? (i := 15) rfl) rfl
theorem q1_16 : (Cond.initialized "java/lang/Math" : Cond) ∈ TT := tt1 (List.mem_of_getElem? (i := 16) rfl) rfl
theorem q1_17 : (Cond.initialized "java/util/Arrays" : Cond) ∈ TT := tt1 (List.mem_of_getElem? (i := 17) rfl) rfl
theorem q1_23 : (Cond.initialized "java/lang/System" : Cond) ∈ TT := tt1 (List.mem_of_getElem? (i := 23) rfl) rfl
theorem q1_27 : (Cond.initialized "java/lang/IllegalStateException" : Cond) ∈ TT := tt1 (List.mem_of_getElem? (i := 27) rfl) rfl
theorem q1_28 : (Cond.initialized "java/lang/UnsupportedOperationException" : Cond) ∈ TT := tt1 (List.mem_of_getElem? (i := 28) rfl) rfl
theorem q1_35 : (Cond.instanceMethod ⟨"java/lang/Object", "<init>", "()V"⟩ : Cond) ∈ TT := tt1 (List.mem_of_getElem? (i := 35) rfl) rfl
theorem q1_36 : (Cond.code ⟨"java/lang/Object", "<init>", "()V"⟩ object_method_1_code (1) none : Cond) ∈ TT := tt1 (List.mem_of_getElem? (i := 36) rfl) rfl
theorem q1_43 : (Cond.fieldLink "FlashFiles$Row" (9) "FlashFiles$Row" "bytes" "[I" : Cond) ∈ TT := tt1 (List.mem_of_getElem? (i := 43) rfl) rfl
theorem q1_44 : (Cond.fieldLink "FlashFiles$Row" (15) "FlashFiles$Row" "length" "I" : Cond) ∈ TT := tt1 (List.mem_of_getElem? (i := 44) rfl) rfl
theorem q1_45 : (Cond.laysFinal "FlashFiles$Row" "FlashFiles$Row" "bytes" "[I" : Cond) ∈ TT := tt1 (List.mem_of_getElem? (i := 45) rfl) rfl
theorem q1_47 : (Cond.lays "FlashFiles$Row" "FlashFiles$Row" "length" "I" : Cond) ∈ TT := tt1 (List.mem_of_getElem? (i := 47) rfl) rfl
theorem q1_58 : (Cond.fieldLink "FlashFiles$Device" (10) "FlashFiles$Device" "words" "[I" : Cond) ∈ TT := tt1 (List.mem_of_getElem? (i := 58) rfl) rfl
theorem q1_59 : (Cond.fieldLink "FlashFiles$Device" (16) "FlashFiles$Device" "written" "[Z" : Cond) ∈ TT := tt1 (List.mem_of_getElem? (i := 59) rfl) rfl
theorem q1_60 : (Cond.fieldLink "FlashFiles$Device" (20) "FlashFiles$Device" "spoiled" "I" : Cond) ∈ TT := tt1 (List.mem_of_getElem? (i := 60) rfl) rfl
theorem q1_61 : (Cond.laysFinal "FlashFiles$Device" "FlashFiles$Device" "words" "[I" : Cond) ∈ TT := tt1 (List.mem_of_getElem? (i := 61) rfl) rfl
theorem q1_63 : (Cond.laysFinal "FlashFiles$Device" "FlashFiles$Device" "written" "[Z" : Cond) ∈ TT := tt1 (List.mem_of_getElem? (i := 63) rfl) rfl
theorem q1_65 : (Cond.lays "FlashFiles$Device" "FlashFiles$Device" "spoiled" "I" : Cond) ∈ TT := tt1 (List.mem_of_getElem? (i := 65) rfl) rfl
theorem q1_75 : (Cond.fieldLink "FlashFiles$Table" (9) "FlashFiles$Table" "places" "[I" : Cond) ∈ TT := tt1 (List.mem_of_getElem? (i := 75) rfl) rfl
theorem q1_76 : (Cond.fieldLink "FlashFiles$Table" (15) "FlashFiles$Table" "kept" "[I" : Cond) ∈ TT := tt1 (List.mem_of_getElem? (i := 76) rfl) rfl
theorem q1_77 : (Cond.fieldLink "FlashFiles$Table" (18) "FlashFiles$Table" "stirred" "[Z" : Cond) ∈ TT := tt1 (List.mem_of_getElem? (i := 77) rfl) rfl
theorem q1_78 : (Cond.laysFinal "FlashFiles$Table" "FlashFiles$Table" "places" "[I" : Cond) ∈ TT := tt1 (List.mem_of_getElem? (i := 78) rfl) rfl
theorem q1_80 : (Cond.laysFinal "FlashFiles$Table" "FlashFiles$Table" "kept" "[I" : Cond) ∈ TT := tt1 (List.mem_of_getElem? (i := 80) rfl) rfl
theorem q1_82 : (Cond.laysFinal "FlashFiles$Table" "FlashFiles$Table" "stirred" "[Z" : Cond) ∈ TT := tt1 (List.mem_of_getElem? (i := 82) rfl) rfl
theorem q1_91 : (Cond.fieldLink "FlashFiles$Log" (9) "FlashFiles$Log" "device" "LFlashFiles$Device;" : Cond) ∈ TT := tt1 (List.mem_of_getElem? (i := 91) rfl) rfl
theorem q1_92 : (Cond.fieldLink "FlashFiles$Log" (15) "FlashFiles$Log" "table" "LFlashFiles$Table;" : Cond) ∈ TT := tt1 (List.mem_of_getElem? (i := 92) rfl) rfl
theorem q1_93 : (Cond.fieldLink "FlashFiles$Log" (19) "FlashFiles$Log" "use" "[I" : Cond) ∈ TT := tt1 (List.mem_of_getElem? (i := 93) rfl) rfl
theorem q1_94 : (Cond.fieldLink "FlashFiles$Log" (23) "FlashFiles$Log" "nodes" "[I" : Cond) ∈ TT := tt1 (List.mem_of_getElem? (i := 94) rfl) rfl
theorem q1_95 : (Cond.fieldLink "FlashFiles$Log" (26) "FlashFiles$Log" "data" "[I" : Cond) ∈ TT := tt1 (List.mem_of_getElem? (i := 95) rfl) rfl
theorem q1_96 : (Cond.fieldLink "FlashFiles$Log" (29) "FlashFiles$Log" "free" "[Z" : Cond) ∈ TT := tt1 (List.mem_of_getElem? (i := 96) rfl) rfl
theorem q1_97 : (Cond.fieldLink "FlashFiles$Log" (39) "FlashFiles$Log" "segments" "I" : Cond) ∈ TT := tt1 (List.mem_of_getElem? (i := 97) rfl) rfl
theorem q1_98 : (Cond.fieldLink "FlashFiles$Log" (43) "FlashFiles$Log" "freeSegments" "I" : Cond) ∈ TT := tt1 (List.mem_of_getElem? (i := 98) rfl) rfl
theorem q1_99 : (Cond.fieldLink "FlashFiles$Log" (46) "FlashFiles$Log" "nodeEnd" "I" : Cond) ∈ TT := tt1 (List.mem_of_getElem? (i := 99) rfl) rfl
theorem q1_100 : (Cond.fieldLink "FlashFiles$Log" (49) "FlashFiles$Log" "dataEnd" "I" : Cond) ∈ TT := tt1 (List.mem_of_getElem? (i := 100) rfl) rfl
theorem q1_101 : (Cond.fieldLink "FlashFiles$Log" (52) "FlashFiles$Log" "lastOpened" "I" : Cond) ∈ TT := tt1 (List.mem_of_getElem? (i := 101) rfl) rfl
theorem q1_102 : (Cond.fieldLink "FlashFiles$Log" (55) "FlashFiles$Log" "serial" "I" : Cond) ∈ TT := tt1 (List.mem_of_getElem? (i := 102) rfl) rfl
theorem q1_103 : (Cond.laysFinal "FlashFiles$Log" "FlashFiles$Log" "device" "LFlashFiles$Device;" : Cond) ∈ TT := tt1 (List.mem_of_getElem? (i := 103) rfl) rfl
theorem q1_105 : (Cond.laysFinal "FlashFiles$Log" "FlashFiles$Log" "table" "LFlashFiles$Table;" : Cond) ∈ TT := tt1 (List.mem_of_getElem? (i := 105) rfl) rfl
theorem q1_107 : (Cond.laysFinal "FlashFiles$Log" "FlashFiles$Log" "use" "[I" : Cond) ∈ TT := tt1 (List.mem_of_getElem? (i := 107) rfl) rfl
theorem q1_109 : (Cond.laysFinal "FlashFiles$Log" "FlashFiles$Log" "nodes" "[I" : Cond) ∈ TT := tt1 (List.mem_of_getElem? (i := 109) rfl) rfl
theorem q1_111 : (Cond.laysFinal "FlashFiles$Log" "FlashFiles$Log" "data" "[I" : Cond) ∈ TT := tt1 (List.mem_of_getElem? (i := 111) rfl) rfl
theorem q1_113 : (Cond.laysFinal "FlashFiles$Log" "FlashFiles$Log" "free" "[Z" : Cond) ∈ TT := tt1 (List.mem_of_getElem? (i := 113) rfl) rfl
theorem q1_115 : (Cond.lays "FlashFiles$Log" "FlashFiles$Log" "segments" "I" : Cond) ∈ TT := tt1 (List.mem_of_getElem? (i := 115) rfl) rfl
theorem q1_117 : (Cond.lays "FlashFiles$Log" "FlashFiles$Log" "freeSegments" "I" : Cond) ∈ TT := tt1 (List.mem_of_getElem? (i := 117) rfl) rfl
theorem q1_119 : (Cond.lays "FlashFiles$Log" "FlashFiles$Log" "nodeEnd" "I" : Cond) ∈ TT := tt1 (List.mem_of_getElem? (i := 119) rfl) rfl
theorem q1_121 : (Cond.lays "FlashFiles$Log" "FlashFiles$Log" "dataEnd" "I" : Cond) ∈ TT := tt1 (List.mem_of_getElem? (i := 121) rfl) rfl
theorem q1_123 : (Cond.lays "FlashFiles$Log" "FlashFiles$Log" "lastOpened" "I" : Cond) ∈ TT := tt1 (List.mem_of_getElem? (i := 123) rfl) rfl
theorem q1_125 : (Cond.lays "FlashFiles$Log" "FlashFiles$Log" "serial" "I" : Cond) ∈ TT := tt1 (List.mem_of_getElem? (i := 125) rfl) rfl
theorem q1_134 : (Cond.fieldLink "FlashFiles$Files" (9) "FlashFiles$Files" "device" "LFlashFiles$Device;" : Cond) ∈ TT := tt1 (List.mem_of_getElem? (i := 134) rfl) rfl
theorem q1_135 : (Cond.fieldLink "FlashFiles$Files" (15) "FlashFiles$Files" "table" "LFlashFiles$Table;" : Cond) ∈ TT := tt1 (List.mem_of_getElem? (i := 135) rfl) rfl
theorem q1_136 : (Cond.fieldLink "FlashFiles$Files" (19) "FlashFiles$Files" "log" "LFlashFiles$Log;" : Cond) ∈ TT := tt1 (List.mem_of_getElem? (i := 136) rfl) rfl
theorem q1_137 : (Cond.fieldLink "FlashFiles$Files" (23) "FlashFiles$Files" "inode" "[I" : Cond) ∈ TT := tt1 (List.mem_of_getElem? (i := 137) rfl) rfl
theorem q1_138 : (Cond.fieldLink "FlashFiles$Files" (27) "FlashFiles$Files" "indirect" "[I" : Cond) ∈ TT := tt1 (List.mem_of_getElem? (i := 138) rfl) rfl
theorem q1_139 : (Cond.fieldLink "FlashFiles$Files" (30) "FlashFiles$Files" "direct" "[I" : Cond) ∈ TT := tt1 (List.mem_of_getElem? (i := 139) rfl) rfl
theorem q1_140 : (Cond.fieldLink "FlashFiles$Files" (33) "FlashFiles$Files" "block" "[I" : Cond) ∈ TT := tt1 (List.mem_of_getElem? (i := 140) rfl) rfl
theorem q1_141 : (Cond.fieldLink "FlashFiles$Files" (140) "FlashFiles$Files" "id" "I" : Cond) ∈ TT := tt1 (List.mem_of_getElem? (i := 141) rfl) rfl
theorem q1_142 : (Cond.fieldLink "FlashFiles$Files" (144) "FlashFiles$Files" "opened" "I" : Cond) ∈ TT := tt1 (List.mem_of_getElem? (i := 142) rfl) rfl
theorem q1_143 : (Cond.fieldLink "FlashFiles$Files" (147) "FlashFiles$Files" "directChanged" "Z" : Cond) ∈ TT := tt1 (List.mem_of_getElem? (i := 143) rfl) rfl
theorem q1_144 : (Cond.fieldLink "FlashFiles$Files" (151) "FlashFiles$Files" "indirectChanged" "Z" : Cond) ∈ TT := tt1 (List.mem_of_getElem? (i := 144) rfl) rfl
theorem q1_145 : (Cond.laysFinal "FlashFiles$Files" "FlashFiles$Files" "device" "LFlashFiles$Device;" : Cond) ∈ TT := tt1 (List.mem_of_getElem? (i := 145) rfl) rfl
theorem q1_147 : (Cond.laysFinal "FlashFiles$Files" "FlashFiles$Files" "table" "LFlashFiles$Table;" : Cond) ∈ TT := tt1 (List.mem_of_getElem? (i := 147) rfl) rfl
theorem q1_149 : (Cond.laysFinal "FlashFiles$Files" "FlashFiles$Files" "log" "LFlashFiles$Log;" : Cond) ∈ TT := tt1 (List.mem_of_getElem? (i := 149) rfl) rfl
theorem q1_151 : (Cond.laysFinal "FlashFiles$Files" "FlashFiles$Files" "inode" "[I" : Cond) ∈ TT := tt1 (List.mem_of_getElem? (i := 151) rfl) rfl
theorem q1_153 : (Cond.laysFinal "FlashFiles$Files" "FlashFiles$Files" "indirect" "[I" : Cond) ∈ TT := tt1 (List.mem_of_getElem? (i := 153) rfl) rfl
theorem q1_155 : (Cond.laysFinal "FlashFiles$Files" "FlashFiles$Files" "direct" "[I" : Cond) ∈ TT := tt1 (List.mem_of_getElem? (i := 155) rfl) rfl
theorem q1_157 : (Cond.laysFinal "FlashFiles$Files" "FlashFiles$Files" "block" "[I" : Cond) ∈ TT := tt1 (List.mem_of_getElem? (i := 157) rfl) rfl
theorem q1_159 : (Cond.lays "FlashFiles$Files" "FlashFiles$Files" "id" "I" : Cond) ∈ TT := tt1 (List.mem_of_getElem? (i := 159) rfl) rfl
theorem q1_161 : (Cond.lays "FlashFiles$Files" "FlashFiles$Files" "opened" "I" : Cond) ∈ TT := tt1 (List.mem_of_getElem? (i := 161) rfl) rfl
theorem q1_163 : (Cond.lays "FlashFiles$Files" "FlashFiles$Files" "directChanged" "Z" : Cond) ∈ TT := tt1 (List.mem_of_getElem? (i := 163) rfl) rfl
theorem q1_165 : (Cond.lays "FlashFiles$Files" "FlashFiles$Files" "indirectChanged" "Z" : Cond) ∈ TT := tt1 (List.mem_of_getElem? (i := 165) rfl) rfl
theorem q1_174 : (Cond.fieldLink "FlashFiles$Tree" (9) "FlashFiles$Tree" "device" "LFlashFiles$Device;" : Cond) ∈ TT := tt1 (List.mem_of_getElem? (i := 174) rfl) rfl
theorem q1_175 : (Cond.fieldLink "FlashFiles$Tree" (15) "FlashFiles$Tree" "table" "LFlashFiles$Table;" : Cond) ∈ TT := tt1 (List.mem_of_getElem? (i := 175) rfl) rfl
theorem q1_176 : (Cond.fieldLink "FlashFiles$Tree" (19) "FlashFiles$Tree" "log" "LFlashFiles$Log;" : Cond) ∈ TT := tt1 (List.mem_of_getElem? (i := 176) rfl) rfl
theorem q1_177 : (Cond.fieldLink "FlashFiles$Tree" (23) "FlashFiles$Tree" "inode" "[I" : Cond) ∈ TT := tt1 (List.mem_of_getElem? (i := 177) rfl) rfl
theorem q1_178 : (Cond.fieldLink "FlashFiles$Tree" (27) "FlashFiles$Tree" "entry" "[I" : Cond) ∈ TT := tt1 (List.mem_of_getElem? (i := 178) rfl) rfl
theorem q1_179 : (Cond.laysFinal "FlashFiles$Tree" "FlashFiles$Tree" "device" "LFlashFiles$Device;" : Cond) ∈ TT := tt1 (List.mem_of_getElem? (i := 179) rfl) rfl
theorem q1_181 : (Cond.laysFinal "FlashFiles$Tree" "FlashFiles$Tree" "table" "LFlashFiles$Table;" : Cond) ∈ TT := tt1 (List.mem_of_getElem? (i := 181) rfl) rfl
theorem q1_183 : (Cond.laysFinal "FlashFiles$Tree" "FlashFiles$Tree" "log" "LFlashFiles$Log;" : Cond) ∈ TT := tt1 (List.mem_of_getElem? (i := 183) rfl) rfl
theorem q1_185 : (Cond.laysFinal "FlashFiles$Tree" "FlashFiles$Tree" "inode" "[I" : Cond) ∈ TT := tt1 (List.mem_of_getElem? (i := 185) rfl) rfl
theorem q1_187 : (Cond.laysFinal "FlashFiles$Tree" "FlashFiles$Tree" "entry" "[I" : Cond) ∈ TT := tt1 (List.mem_of_getElem? (i := 187) rfl) rfl
theorem q1_198 : (Cond.fieldLink "FlashFiles$Cleaner" (9) "FlashFiles$Cleaner" "device" "LFlashFiles$Device;" : Cond) ∈ TT := tt1 (List.mem_of_getElem? (i := 198) rfl) rfl
theorem q1_199 : (Cond.fieldLink "FlashFiles$Cleaner" (15) "FlashFiles$Cleaner" "table" "LFlashFiles$Table;" : Cond) ∈ TT := tt1 (List.mem_of_getElem? (i := 199) rfl) rfl
theorem q1_200 : (Cond.fieldLink "FlashFiles$Cleaner" (19) "FlashFiles$Cleaner" "log" "LFlashFiles$Log;" : Cond) ∈ TT := tt1 (List.mem_of_getElem? (i := 200) rfl) rfl
theorem q1_201 : (Cond.fieldLink "FlashFiles$Cleaner" (23) "FlashFiles$Cleaner" "victims" "[Z" : Cond) ∈ TT := tt1 (List.mem_of_getElem? (i := 201) rfl) rfl
theorem q1_202 : (Cond.fieldLink "FlashFiles$Cleaner" (27) "FlashFiles$Cleaner" "node" "[I" : Cond) ∈ TT := tt1 (List.mem_of_getElem? (i := 202) rfl) rfl
theorem q1_203 : (Cond.fieldLink "FlashFiles$Cleaner" (31) "FlashFiles$Cleaner" "block" "[I" : Cond) ∈ TT := tt1 (List.mem_of_getElem? (i := 203) rfl) rfl
theorem q1_204 : (Cond.laysFinal "FlashFiles$Cleaner" "FlashFiles$Cleaner" "device" "LFlashFiles$Device;" : Cond) ∈ TT := tt1 (List.mem_of_getElem? (i := 204) rfl) rfl
theorem q1_206 : (Cond.laysFinal "FlashFiles$Cleaner" "FlashFiles$Cleaner" "table" "LFlashFiles$Table;" : Cond) ∈ TT := tt1 (List.mem_of_getElem? (i := 206) rfl) rfl
theorem q1_208 : (Cond.laysFinal "FlashFiles$Cleaner" "FlashFiles$Cleaner" "log" "LFlashFiles$Log;" : Cond) ∈ TT := tt1 (List.mem_of_getElem? (i := 208) rfl) rfl
theorem q1_210 : (Cond.laysFinal "FlashFiles$Cleaner" "FlashFiles$Cleaner" "victims" "[Z" : Cond) ∈ TT := tt1 (List.mem_of_getElem? (i := 210) rfl) rfl
theorem q1_212 : (Cond.laysFinal "FlashFiles$Cleaner" "FlashFiles$Cleaner" "node" "[I" : Cond) ∈ TT := tt1 (List.mem_of_getElem? (i := 212) rfl) rfl
theorem q1_214 : (Cond.laysFinal "FlashFiles$Cleaner" "FlashFiles$Cleaner" "block" "[I" : Cond) ∈ TT := tt1 (List.mem_of_getElem? (i := 214) rfl) rfl
theorem q1_221 : (Cond.fieldLink "FlashFiles$Checkpoints" (9) "FlashFiles$Checkpoints" "device" "LFlashFiles$Device;" : Cond) ∈ TT := tt1 (List.mem_of_getElem? (i := 221) rfl) rfl
theorem q1_222 : (Cond.fieldLink "FlashFiles$Checkpoints" (15) "FlashFiles$Checkpoints" "table" "LFlashFiles$Table;" : Cond) ∈ TT := tt1 (List.mem_of_getElem? (i := 222) rfl) rfl
theorem q1_223 : (Cond.fieldLink "FlashFiles$Checkpoints" (19) "FlashFiles$Checkpoints" "log" "LFlashFiles$Log;" : Cond) ∈ TT := tt1 (List.mem_of_getElem? (i := 223) rfl) rfl
theorem q1_224 : (Cond.fieldLink "FlashFiles$Checkpoints" (23) "FlashFiles$Checkpoints" "tree" "LFlashFiles$Tree;" : Cond) ∈ TT := tt1 (List.mem_of_getElem? (i := 224) rfl) rfl
theorem q1_225 : (Cond.fieldLink "FlashFiles$Checkpoints" (27) "FlashFiles$Checkpoints" "cleaner" "LFlashFiles$Cleaner;" : Cond) ∈ TT := tt1 (List.mem_of_getElem? (i := 225) rfl) rfl
theorem q1_226 : (Cond.fieldLink "FlashFiles$Checkpoints" (31) "FlashFiles$Checkpoints" "pack" "[I" : Cond) ∈ TT := tt1 (List.mem_of_getElem? (i := 226) rfl) rfl
theorem q1_227 : (Cond.fieldLink "FlashFiles$Checkpoints" (35) "FlashFiles$Checkpoints" "lastMark" "[I" : Cond) ∈ TT := tt1 (List.mem_of_getElem? (i := 227) rfl) rfl
theorem q1_228 : (Cond.fieldLink "FlashFiles$Checkpoints" (48) "FlashFiles$Checkpoints" "room" "I" : Cond) ∈ TT := tt1 (List.mem_of_getElem? (i := 228) rfl) rfl
theorem q1_229 : (Cond.fieldLink "FlashFiles$Checkpoints" (38) "FlashFiles$Checkpoints" "used" "I" : Cond) ∈ TT := tt1 (List.mem_of_getElem? (i := 229) rfl) rfl
theorem q1_230 : (Cond.fieldLink "FlashFiles$Checkpoints" (42) "FlashFiles$Checkpoints" "fresh" "I" : Cond) ∈ TT := tt1 (List.mem_of_getElem? (i := 230) rfl) rfl
theorem q1_231 : (Cond.fieldLink "FlashFiles$Checkpoints" (45) "FlashFiles$Checkpoints" "taken" "I" : Cond) ∈ TT := tt1 (List.mem_of_getElem? (i := 231) rfl) rfl
theorem q1_232 : (Cond.laysFinal "FlashFiles$Checkpoints" "FlashFiles$Checkpoints" "device" "LFlashFiles$Device;" : Cond) ∈ TT := tt1 (List.mem_of_getElem? (i := 232) rfl) rfl
theorem q1_234 : (Cond.laysFinal "FlashFiles$Checkpoints" "FlashFiles$Checkpoints" "table" "LFlashFiles$Table;" : Cond) ∈ TT := tt1 (List.mem_of_getElem? (i := 234) rfl) rfl
theorem q1_236 : (Cond.laysFinal "FlashFiles$Checkpoints" "FlashFiles$Checkpoints" "log" "LFlashFiles$Log;" : Cond) ∈ TT := tt1 (List.mem_of_getElem? (i := 236) rfl) rfl
theorem q1_238 : (Cond.laysFinal "FlashFiles$Checkpoints" "FlashFiles$Checkpoints" "tree" "LFlashFiles$Tree;" : Cond) ∈ TT := tt1 (List.mem_of_getElem? (i := 238) rfl) rfl
theorem q2_0 : (Cond.laysFinal "FlashFiles$Checkpoints" "FlashFiles$Checkpoints" "cleaner" "LFlashFiles$Cleaner;" : Cond) ∈ TT := tt2 (List.mem_of_getElem? (i := 0) rfl) rfl
theorem q2_2 : (Cond.laysFinal "FlashFiles$Checkpoints" "FlashFiles$Checkpoints" "pack" "[I" : Cond) ∈ TT := tt2 (List.mem_of_getElem? (i := 2) rfl) rfl
theorem q2_4 : (Cond.laysFinal "FlashFiles$Checkpoints" "FlashFiles$Checkpoints" "lastMark" "[I" : Cond) ∈ TT := tt2 (List.mem_of_getElem? (i := 4) rfl) rfl
theorem q2_6 : (Cond.lays "FlashFiles$Checkpoints" "FlashFiles$Checkpoints" "room" "I" : Cond) ∈ TT := tt2 (List.mem_of_getElem? (i := 6) rfl) rfl
theorem q2_8 : (Cond.lays "FlashFiles$Checkpoints" "FlashFiles$Checkpoints" "used" "I" : Cond) ∈ TT := tt2 (List.mem_of_getElem? (i := 8) rfl) rfl
theorem q2_10 : (Cond.lays "FlashFiles$Checkpoints" "FlashFiles$Checkpoints" "fresh" "I" : Cond) ∈ TT := tt2 (List.mem_of_getElem? (i := 10) rfl) rfl
theorem q2_12 : (Cond.lays "FlashFiles$Checkpoints" "FlashFiles$Checkpoints" "taken" "I" : Cond) ∈ TT := tt2 (List.mem_of_getElem? (i := 12) rfl) rfl
theorem q2_21 : (Cond.fieldLink "FlashFiles$Inspector" (9) "FlashFiles$Inspector" "device" "LFlashFiles$Device;" : Cond) ∈ TT := tt2 (List.mem_of_getElem? (i := 21) rfl) rfl
theorem q2_22 : (Cond.fieldLink "FlashFiles$Inspector" (15) "FlashFiles$Inspector" "table" "LFlashFiles$Table;" : Cond) ∈ TT := tt2 (List.mem_of_getElem? (i := 22) rfl) rfl
theorem q2_23 : (Cond.fieldLink "FlashFiles$Inspector" (19) "FlashFiles$Inspector" "log" "LFlashFiles$Log;" : Cond) ∈ TT := tt2 (List.mem_of_getElem? (i := 23) rfl) rfl
theorem q2_24 : (Cond.fieldLink "FlashFiles$Inspector" (23) "FlashFiles$Inspector" "checkpoints" "LFlashFiles$Checkpoints;" : Cond) ∈ TT := tt2 (List.mem_of_getElem? (i := 24) rfl) rfl
theorem q2_25 : (Cond.fieldLink "FlashFiles$Inspector" (27) "FlashFiles$Inspector" "owned" "[I" : Cond) ∈ TT := tt2 (List.mem_of_getElem? (i := 25) rfl) rfl
theorem q2_26 : (Cond.fieldLink "FlashFiles$Inspector" (31) "FlashFiles$Inspector" "led" "[I" : Cond) ∈ TT := tt2 (List.mem_of_getElem? (i := 26) rfl) rfl
theorem q2_27 : (Cond.fieldLink "FlashFiles$Inspector" (34) "FlashFiles$Inspector" "entry" "[I" : Cond) ∈ TT := tt2 (List.mem_of_getElem? (i := 27) rfl) rfl
theorem q2_28 : (Cond.fieldLink "FlashFiles$Inspector" (49) "FlashFiles$Inspector" "found" "I" : Cond) ∈ TT := tt2 (List.mem_of_getElem? (i := 28) rfl) rfl
theorem q2_29 : (Cond.laysFinal "FlashFiles$Inspector" "FlashFiles$Inspector" "device" "LFlashFiles$Device;" : Cond) ∈ TT := tt2 (List.mem_of_getElem? (i := 29) rfl) rfl
theorem q2_31 : (Cond.laysFinal "FlashFiles$Inspector" "FlashFiles$Inspector" "table" "LFlashFiles$Table;" : Cond) ∈ TT := tt2 (List.mem_of_getElem? (i := 31) rfl) rfl
theorem q2_33 : (Cond.laysFinal "FlashFiles$Inspector" "FlashFiles$Inspector" "log" "LFlashFiles$Log;" : Cond) ∈ TT := tt2 (List.mem_of_getElem? (i := 33) rfl) rfl
theorem q2_35 : (Cond.laysFinal "FlashFiles$Inspector" "FlashFiles$Inspector" "checkpoints" "LFlashFiles$Checkpoints;" : Cond) ∈ TT := tt2 (List.mem_of_getElem? (i := 35) rfl) rfl
theorem q2_37 : (Cond.laysFinal "FlashFiles$Inspector" "FlashFiles$Inspector" "owned" "[I" : Cond) ∈ TT := tt2 (List.mem_of_getElem? (i := 37) rfl) rfl
theorem q2_39 : (Cond.laysFinal "FlashFiles$Inspector" "FlashFiles$Inspector" "led" "[I" : Cond) ∈ TT := tt2 (List.mem_of_getElem? (i := 39) rfl) rfl
theorem q2_41 : (Cond.laysFinal "FlashFiles$Inspector" "FlashFiles$Inspector" "entry" "[I" : Cond) ∈ TT := tt2 (List.mem_of_getElem? (i := 41) rfl) rfl
theorem q2_43 : (Cond.lays "FlashFiles$Inspector" "FlashFiles$Inspector" "found" "I" : Cond) ∈ TT := tt2 (List.mem_of_getElem? (i := 43) rfl) rfl
theorem q2_46 : (Cond.fieldLink "FlashFiles" (14) "FlashFiles" "onTape" "LFlashFiles$Row;" : Cond) ∈ TT := tt2 (List.mem_of_getElem? (i := 46) rfl) rfl
theorem q2_47 : (Cond.fieldLink "FlashFiles" (18) "FlashFiles" "told" "LFlashFiles$Row;" : Cond) ∈ TT := tt2 (List.mem_of_getElem? (i := 47) rfl) rfl
theorem q2_48 : (Cond.fieldLink "FlashFiles" (21) "FlashFiles" "first" "[I" : Cond) ∈ TT := tt2 (List.mem_of_getElem? (i := 48) rfl) rfl
theorem q2_49 : (Cond.fieldLink "FlashFiles" (25) "FlashFiles" "second" "[I" : Cond) ∈ TT := tt2 (List.mem_of_getElem? (i := 49) rfl) rfl
theorem q2_50 : (Cond.fieldLink "FlashFiles" (31) "FlashFiles" "device" "LFlashFiles$Device;" : Cond) ∈ TT := tt2 (List.mem_of_getElem? (i := 50) rfl) rfl
theorem q2_51 : (Cond.fieldLink "FlashFiles" (38) "FlashFiles" "table" "LFlashFiles$Table;" : Cond) ∈ TT := tt2 (List.mem_of_getElem? (i := 51) rfl) rfl
theorem q2_52 : (Cond.fieldLink "FlashFiles" (47) "FlashFiles" "log" "LFlashFiles$Log;" : Cond) ∈ TT := tt2 (List.mem_of_getElem? (i := 52) rfl) rfl
theorem q2_53 : (Cond.fieldLink "FlashFiles" (56) "FlashFiles" "files" "LFlashFiles$Files;" : Cond) ∈ TT := tt2 (List.mem_of_getElem? (i := 53) rfl) rfl
theorem q2_54 : (Cond.fieldLink "FlashFiles" (63) "FlashFiles" "tree" "LFlashFiles$Tree;" : Cond) ∈ TT := tt2 (List.mem_of_getElem? (i := 54) rfl) rfl
theorem q2_55 : (Cond.fieldLink "FlashFiles" (75) "FlashFiles" "checkpoints" "LFlashFiles$Checkpoints;" : Cond) ∈ TT := tt2 (List.mem_of_getElem? (i := 55) rfl) rfl
theorem q2_56 : (Cond.fieldLink "FlashFiles" (84) "FlashFiles" "inspector" "LFlashFiles$Inspector;" : Cond) ∈ TT := tt2 (List.mem_of_getElem? (i := 56) rfl) rfl
theorem q2_57 : (Cond.fieldLink "FlashFiles" (88) "FlashFiles" "state" "I" : Cond) ∈ TT := tt2 (List.mem_of_getElem? (i := 57) rfl) rfl
theorem q2_58 : (Cond.fieldLink "FlashFiles" (92) "FlashFiles" "cutAfter" "I" : Cond) ∈ TT := tt2 (List.mem_of_getElem? (i := 58) rfl) rfl
theorem q2_59 : (Cond.fieldLink "FlashFiles" (95) "FlashFiles" "broughtForward" "I" : Cond) ∈ TT := tt2 (List.mem_of_getElem? (i := 59) rfl) rfl
theorem q2_60 : (Cond.laysFinal "FlashFiles" "FlashFiles" "onTape" "LFlashFiles$Row;" : Cond) ∈ TT := tt2 (List.mem_of_getElem? (i := 60) rfl) rfl
theorem q2_62 : (Cond.laysFinal "FlashFiles" "FlashFiles" "told" "LFlashFiles$Row;" : Cond) ∈ TT := tt2 (List.mem_of_getElem? (i := 62) rfl) rfl
theorem q2_64 : (Cond.laysFinal "FlashFiles" "FlashFiles" "first" "[I" : Cond) ∈ TT := tt2 (List.mem_of_getElem? (i := 64) rfl) rfl
theorem q2_66 : (Cond.laysFinal "FlashFiles" "FlashFiles" "second" "[I" : Cond) ∈ TT := tt2 (List.mem_of_getElem? (i := 66) rfl) rfl
theorem q2_68 : (Cond.laysFinal "FlashFiles" "FlashFiles" "device" "LFlashFiles$Device;" : Cond) ∈ TT := tt2 (List.mem_of_getElem? (i := 68) rfl) rfl
theorem q2_70 : (Cond.laysFinal "FlashFiles" "FlashFiles" "table" "LFlashFiles$Table;" : Cond) ∈ TT := tt2 (List.mem_of_getElem? (i := 70) rfl) rfl
theorem q2_72 : (Cond.laysFinal "FlashFiles" "FlashFiles" "log" "LFlashFiles$Log;" : Cond) ∈ TT := tt2 (List.mem_of_getElem? (i := 72) rfl) rfl
theorem q2_74 : (Cond.laysFinal "FlashFiles" "FlashFiles" "files" "LFlashFiles$Files;" : Cond) ∈ TT := tt2 (List.mem_of_getElem? (i := 74) rfl) rfl
theorem q2_76 : (Cond.laysFinal "FlashFiles" "FlashFiles" "tree" "LFlashFiles$Tree;" : Cond) ∈ TT := tt2 (List.mem_of_getElem? (i := 76) rfl) rfl
theorem q2_78 : (Cond.laysFinal "FlashFiles" "FlashFiles" "checkpoints" "LFlashFiles$Checkpoints;" : Cond) ∈ TT := tt2 (List.mem_of_getElem? (i := 78) rfl) rfl
theorem q2_80 : (Cond.laysFinal "FlashFiles" "FlashFiles" "inspector" "LFlashFiles$Inspector;" : Cond) ∈ TT := tt2 (List.mem_of_getElem? (i := 80) rfl) rfl
theorem q2_82 : (Cond.lays "FlashFiles" "FlashFiles" "state" "I" : Cond) ∈ TT := tt2 (List.mem_of_getElem? (i := 82) rfl) rfl
theorem q2_84 : (Cond.lays "FlashFiles" "FlashFiles" "cutAfter" "I" : Cond) ∈ TT := tt2 (List.mem_of_getElem? (i := 84) rfl) rfl
theorem q2_86 : (Cond.lays "FlashFiles" "FlashFiles" "broughtForward" "I" : Cond) ∈ TT := tt2 (List.mem_of_getElem? (i := 86) rfl) rfl
theorem q2_93 : (Cond.methodLink "FlashFiles" (115) ⟨"FlashFiles$Row", "length", "()I"⟩ : Cond) ∈ TT := tt2 (List.mem_of_getElem? (i := 93) rfl) rfl
theorem q2_94 : (Cond.instanceMethod ⟨"FlashFiles$Row", "length", "()I"⟩ : Cond) ∈ TT := tt2 (List.mem_of_getElem? (i := 94) rfl) rfl
theorem q2_95 : (Cond.selects "FlashFiles$Row" ⟨"FlashFiles$Row", "length", "()I"⟩ ⟨"FlashFiles$Row", "length", "()I"⟩ : Cond) ∈ TT := tt2 (List.mem_of_getElem? (i := 95) rfl) rfl
theorem q2_96 : (Cond.code ⟨"FlashFiles$Row", "length", "()I"⟩ prog_8_method_2_code (1) (some .int) : Cond) ∈ TT := tt2 (List.mem_of_getElem? (i := 96) rfl) rfl
theorem q2_97 : (Cond.methodLink "FlashFiles" (127) ⟨"FlashFiles$Row", "setLength", "(I)V"⟩ : Cond) ∈ TT := tt2 (List.mem_of_getElem? (i := 97) rfl) rfl
theorem q2_98 : (Cond.instanceMethod ⟨"FlashFiles$Row", "setLength", "(I)V"⟩ : Cond) ∈ TT := tt2 (List.mem_of_getElem? (i := 98) rfl) rfl
theorem q2_99 : (Cond.selects "FlashFiles$Row" ⟨"FlashFiles$Row", "setLength", "(I)V"⟩ ⟨"FlashFiles$Row", "setLength", "(I)V"⟩ : Cond) ∈ TT := tt2 (List.mem_of_getElem? (i := 99) rfl) rfl
theorem q2_100 : (Cond.code ⟨"FlashFiles$Row", "setLength", "(I)V"⟩ prog_8_method_4_code (2) none : Cond) ∈ TT := tt2 (List.mem_of_getElem? (i := 100) rfl) rfl
theorem q2_109 : (Cond.classLink "FlashFiles" (98) "java/lang/IllegalArgumentException" : Cond) ∈ TT := tt2 (List.mem_of_getElem? (i := 109) rfl) rfl
theorem q2_110 : (Cond.instantiable "java/lang/IllegalArgumentException" (6) : Cond) ∈ TT := tt2 (List.mem_of_getElem? (i := 110) rfl) rfl
theorem q2_111 : (Cond.castable "java/lang/IllegalArgumentException" "java/lang/IllegalArgumentException" : Cond) ∈ TT := tt2 (List.mem_of_getElem? (i := 111) rfl) rfl
theorem q2_113 : (Cond.declares ⟨"java/lang/RuntimeException", "<init>", "(Ljava/lang/String;)V"⟩ : Cond) ∈ TT := tt2 (List.mem_of_getElem? (i := 113) rfl) rfl
theorem q2_115 : (Cond.declares ⟨"java/lang/Exception", "<init>", "(Ljava/lang/String;)V"⟩ : Cond) ∈ TT := tt2 (List.mem_of_getElem? (i := 115) rfl) rfl
theorem q2_117 : (Cond.declares ⟨"java/lang/Throwable", "<init>", "(Ljava/lang/String;)V"⟩ : Cond) ∈ TT := tt2 (List.mem_of_getElem? (i := 117) rfl) rfl
theorem q2_118 : (Cond.selects "java/lang/IllegalArgumentException" ⟨"java/lang/Throwable", "fillInStackTrace", "(I)Ljava/lang/Throwable;"⟩ ⟨"java/lang/Throwable", "fillInStackTrace", "(I)Ljava/lang/Throwable;"⟩ : Cond) ∈ TT := tt2 (List.mem_of_getElem? (i := 118) rfl) rfl
theorem q2_119 : (Cond.selects "java/lang/IllegalArgumentException" ⟨"java/lang/Throwable", "fillInStackTrace", "()Ljava/lang/Throwable;"⟩ ⟨"java/lang/Throwable", "fillInStackTrace", "()Ljava/lang/Throwable;"⟩ : Cond) ∈ TT := tt2 (List.mem_of_getElem? (i := 119) rfl) rfl
theorem q2_120 : (Cond.lays "java/lang/IllegalArgumentException" "java/lang/Throwable" "cause" "Ljava/lang/Throwable;" : Cond) ∈ TT := tt2 (List.mem_of_getElem? (i := 120) rfl) rfl
theorem q2_121 : (Cond.lays "java/lang/Throwable" "java/lang/Throwable" "cause" "Ljava/lang/Throwable;" : Cond) ∈ TT := tt2 (List.mem_of_getElem? (i := 121) rfl) rfl
theorem q2_122 : (Cond.lays "java/lang/IllegalArgumentException" "java/lang/Throwable" "stackTrace" "[Ljava/lang/StackTraceElement;" : Cond) ∈ TT := tt2 (List.mem_of_getElem? (i := 122) rfl) rfl
theorem q2_123 : (Cond.lays "java/lang/Throwable" "java/lang/Throwable" "stackTrace" "[Ljava/lang/StackTraceElement;" : Cond) ∈ TT := tt2 (List.mem_of_getElem? (i := 123) rfl) rfl
theorem q2_124 : (Cond.lays "java/lang/IllegalArgumentException" "java/lang/Throwable" "suppressedExceptions" "Ljava/util/List;" : Cond) ∈ TT := tt2 (List.mem_of_getElem? (i := 124) rfl) rfl
theorem q2_125 : (Cond.lays "java/lang/Throwable" "java/lang/Throwable" "suppressedExceptions" "Ljava/util/List;" : Cond) ∈ TT := tt2 (List.mem_of_getElem? (i := 125) rfl) rfl
theorem q2_126 : (Cond.lays "java/lang/IllegalArgumentException" "java/lang/Throwable" "detailMessage" "Ljava/lang/String;" : Cond) ∈ TT := tt2 (List.mem_of_getElem? (i := 126) rfl) rfl
theorem q2_127 : (Cond.lays "java/lang/Throwable" "java/lang/Throwable" "detailMessage" "Ljava/lang/String;" : Cond) ∈ TT := tt2 (List.mem_of_getElem? (i := 127) rfl) rfl
theorem q2_128 : (Cond.lays "java/lang/IllegalArgumentException" "java/lang/Throwable" "backtrace" "Ljava/lang/Object;" : Cond) ∈ TT := tt2 (List.mem_of_getElem? (i := 128) rfl) rfl
theorem q2_129 : (Cond.lays "java/lang/Throwable" "java/lang/Throwable" "backtrace" "Ljava/lang/Object;" : Cond) ∈ TT := tt2 (List.mem_of_getElem? (i := 129) rfl) rfl
theorem q2_130 : (Cond.fieldLink "java/lang/Throwable" (198) "java/lang/Throwable" "backtrace" "Ljava/lang/Object;" : Cond) ∈ TT := tt2 (List.mem_of_getElem? (i := 130) rfl) rfl
theorem q2_131 : (Cond.superclass "java/lang/Throwable" "java/lang/Object" : Cond) ∈ TT := tt2 (List.mem_of_getElem? (i := 131) rfl) rfl
theorem q2_132 : (Cond.instanceMethod ⟨"java/lang/Throwable", "<init>", "()V"⟩ : Cond) ∈ TT := tt2 (List.mem_of_getElem? (i := 132) rfl) rfl
theorem q2_133 : (Cond.code ⟨"java/lang/Throwable", "<init>", "()V"⟩ prog_26_method_1_code (1) none : Cond) ∈ TT := tt2 (List.mem_of_getElem? (i := 133) rfl) rfl
theorem q2_134 : (Cond.methodLink "java/lang/Throwable" (1) ⟨"java/lang/Object", "<init>", "()V"⟩ : Cond) ∈ TT := tt2 (List.mem_of_getElem? (i := 134) rfl) rfl
theorem q2_135 : (Cond.fieldLink "java/lang/Throwable" (13) "java/lang/Throwable" "UNASSIGNED_STACK" "[Ljava/lang/StackTraceElement;" : Cond) ∈ TT := tt2 (List.mem_of_getElem? (i := 135) rfl) rfl
theorem q2_137 : (Cond.fieldLink "java/lang/Throwable" (20) "java/lang/Throwable" "SUPPRESSED_SENTINEL" "Ljava/util/List;" : Cond) ∈ TT := tt2 (List.mem_of_getElem? (i := 137) rfl) rfl
theorem q2_139 : (Cond.methodLink "java/lang/Throwable" (27) ⟨"java/lang/Throwable", "fillInStackTrace", "()Ljava/lang/Throwable;"⟩ : Cond) ∈ TT := tt2 (List.mem_of_getElem? (i := 139) rfl) rfl
theorem q2_140 : (Cond.instanceMethod ⟨"java/lang/Throwable", "fillInStackTrace", "()Ljava/lang/Throwable;"⟩ : Cond) ∈ TT := tt2 (List.mem_of_getElem? (i := 140) rfl) rfl
theorem q2_142 : (Cond.selects "java/lang/IllegalStateException" ⟨"java/lang/Throwable", "fillInStackTrace", "()Ljava/lang/Throwable;"⟩ ⟨"java/lang/Throwable", "fillInStackTrace", "()Ljava/lang/Throwable;"⟩ : Cond) ∈ TT := tt2 (List.mem_of_getElem? (i := 142) rfl) rfl
theorem q2_143 : (Cond.selects "java/lang/UnsupportedOperationException" ⟨"java/lang/Throwable", "fillInStackTrace", "()Ljava/lang/Throwable;"⟩ ⟨"java/lang/Throwable", "fillInStackTrace", "()Ljava/lang/Throwable;"⟩ : Cond) ∈ TT := tt2 (List.mem_of_getElem? (i := 143) rfl) rfl
theorem q2_144 : (Cond.codeSync ⟨"java/lang/Throwable", "fillInStackTrace", "()Ljava/lang/Throwable;"⟩ prog_26_method_18_code (1) (some (.object "java/lang/Throwable")) : Cond) ∈ TT := tt2 (List.mem_of_getElem? (i := 144) rfl) rfl
theorem q2_145 : (Cond.methodLink "java/lang/Throwable" (202) ⟨"java/lang/Throwable", "fillInStackTrace", "(I)Ljava/lang/Throwable;"⟩ : Cond) ∈ TT := tt2 (List.mem_of_getElem? (i := 145) rfl) rfl
theorem q2_147 : (Cond.instanceMethod ⟨"java/lang/Throwable", "fillInStackTrace", "(I)Ljava/lang/Throwable;"⟩ : Cond) ∈ TT := tt2 (List.mem_of_getElem? (i := 147) rfl) rfl
theorem q2_149 : (Cond.native ⟨"java/lang/Throwable", "fillInStackTrace", "(I)Ljava/lang/Throwable;"⟩ : Cond) ∈ TT := tt2 (List.mem_of_getElem? (i := 149) rfl) rfl
theorem q2_151 : (Cond.methodLink "FlashFiles" (102) ⟨"java/lang/IllegalArgumentException", "<init>", "(Ljava/lang/String;)V"⟩ : Cond) ∈ TT := tt2 (List.mem_of_getElem? (i := 151) rfl) rfl
theorem q2_152 : (Cond.instanceMethod ⟨"java/lang/IllegalArgumentException", "<init>", "(Ljava/lang/String;)V"⟩ : Cond) ∈ TT := tt2 (List.mem_of_getElem? (i := 152) rfl) rfl
theorem q2_153 : (Cond.code ⟨"java/lang/IllegalArgumentException", "<init>", "(Ljava/lang/String;)V"⟩ prog_16_method_2_code (2) none : Cond) ∈ TT := tt2 (List.mem_of_getElem? (i := 153) rfl) rfl
theorem q2_154 : (Cond.methodLink "java/lang/IllegalArgumentException" (7) ⟨"java/lang/RuntimeException", "<init>", "(Ljava/lang/String;)V"⟩ : Cond) ∈ TT := tt2 (List.mem_of_getElem? (i := 154) rfl) rfl
theorem q2_155 : (Cond.instanceMethod ⟨"java/lang/RuntimeException", "<init>", "(Ljava/lang/String;)V"⟩ : Cond) ∈ TT := tt2 (List.mem_of_getElem? (i := 155) rfl) rfl
theorem q2_156 : (Cond.code ⟨"java/lang/RuntimeException", "<init>", "(Ljava/lang/String;)V"⟩ prog_20_method_2_code (2) none : Cond) ∈ TT := tt2 (List.mem_of_getElem? (i := 156) rfl) rfl
theorem q2_157 : (Cond.methodLink "java/lang/RuntimeException" (7) ⟨"java/lang/Exception", "<init>", "(Ljava/lang/String;)V"⟩ : Cond) ∈ TT := tt2 (List.mem_of_getElem? (i := 157) rfl) rfl
theorem q2_158 : (Cond.instanceMethod ⟨"java/lang/Exception", "<init>", "(Ljava/lang/String;)V"⟩ : Cond) ∈ TT := tt2 (List.mem_of_getElem? (i := 158) rfl) rfl
theorem q2_159 : (Cond.code ⟨"java/lang/Exception", "<init>", "(Ljava/lang/String;)V"⟩ prog_15_method_2_code (2) none : Cond) ∈ TT := tt2 (List.mem_of_getElem? (i := 159) rfl) rfl
theorem q2_160 : (Cond.methodLink "java/lang/Exception" (7) ⟨"java/lang/Throwable", "<init>", "(Ljava/lang/String;)V"⟩ : Cond) ∈ TT := tt2 (List.mem_of_getElem? (i := 160) rfl) rfl
theorem q2_161 : (Cond.instanceMethod ⟨"java/lang/Throwable", "<init>", "(Ljava/lang/String;)V"⟩ : Cond) ∈ TT := tt2 (List.mem_of_getElem? (i := 161) rfl) rfl
theorem q2_162 : (Cond.code ⟨"java/lang/Throwable", "<init>", "(Ljava/lang/String;)V"⟩ prog_26_method_2_code (2) none : Cond) ∈ TT := tt2 (List.mem_of_getElem? (i := 162) rfl) rfl
theorem q2_164 : (Cond.fieldLink "java/lang/Throwable" (31) "java/lang/Throwable" "detailMessage" "Ljava/lang/String;" : Cond) ∈ TT := tt2 (List.mem_of_getElem? (i := 164) rfl) rfl
theorem q2_165 : (Cond.fieldLink "java/lang/Throwable" (7) "java/lang/Throwable" "cause" "Ljava/lang/Throwable;" : Cond) ∈ TT := tt2 (List.mem_of_getElem? (i := 165) rfl) rfl
theorem q2_166 : (Cond.fieldLink "java/lang/Throwable" (17) "java/lang/Throwable" "stackTrace" "[Ljava/lang/StackTraceElement;" : Cond) ∈ TT := tt2 (List.mem_of_getElem? (i := 166) rfl) rfl
theorem q2_167 : (Cond.fieldLink "java/lang/Throwable" (24) "java/lang/Throwable" "suppressedExceptions" "Ljava/util/List;" : Cond) ∈ TT := tt2 (List.mem_of_getElem? (i := 167) rfl) rfl
theorem q2_177 : (Cond.methodLink "FlashFiles" (105) ⟨"FlashFiles$Checkpoints", "startAnew", "(II)V"⟩ : Cond) ∈ TT := tt2 (List.mem_of_getElem? (i := 177) rfl) rfl
theorem q2_178 : (Cond.instanceMethod ⟨"FlashFiles$Checkpoints", "startAnew", "(II)V"⟩ : Cond) ∈ TT := tt2 (List.mem_of_getElem? (i := 178) rfl) rfl
theorem q2_179 : (Cond.selects "FlashFiles$Checkpoints" ⟨"FlashFiles$Checkpoints", "startAnew", "(II)V"⟩ ⟨"FlashFiles$Checkpoints", "startAnew", "(II)V"⟩ : Cond) ∈ TT := tt2 (List.mem_of_getElem? (i := 179) rfl) rfl
theorem q2_180 : (Cond.code ⟨"FlashFiles$Checkpoints", "startAnew", "(II)V"⟩ prog_2_method_8_code (3) none : Cond) ∈ TT := tt2 (List.mem_of_getElem? (i := 180) rfl) rfl
theorem q2_181 : (Cond.methodLink "FlashFiles$Checkpoints" (51) ⟨"FlashFiles$Device", "restart", "()V"⟩ : Cond) ∈ TT := tt2 (List.mem_of_getElem? (i := 181) rfl) rfl
theorem q2_182 : (Cond.instanceMethod ⟨"FlashFiles$Device", "restart", "()V"⟩ : Cond) ∈ TT := tt2 (List.mem_of_getElem? (i := 182) rfl) rfl
theorem q2_183 : (Cond.selects "FlashFiles$Device" ⟨"FlashFiles$Device", "restart", "()V"⟩ ⟨"FlashFiles$Device", "restart", "()V"⟩ : Cond) ∈ TT := tt2 (List.mem_of_getElem? (i := 183) rfl) rfl
theorem q2_184 : (Cond.code ⟨"FlashFiles$Device", "restart", "()V"⟩ prog_4_method_8_code (1) none : Cond) ∈ TT := tt2 (List.mem_of_getElem? (i := 184) rfl) rfl
theorem q2_185 : (Cond.methodLink "FlashFiles$Device" (45) ⟨"FlashFiles$Device", "erase", "(II)V"⟩ : Cond) ∈ TT := tt2 (List.mem_of_getElem? (i := 185) rfl) rfl
theorem q2_186 : (Cond.instanceMethod ⟨"FlashFiles$Device", "erase", "(II)V"⟩ : Cond) ∈ TT := tt2 (List.mem_of_getElem? (i := 186) rfl) rfl
theorem q2_187 : (Cond.selects "FlashFiles$Device" ⟨"FlashFiles$Device", "erase", "(II)V"⟩ ⟨"FlashFiles$Device", "erase", "(II)V"⟩ : Cond) ∈ TT := tt2 (List.mem_of_getElem? (i := 187) rfl) rfl
theorem q2_188 : (Cond.code ⟨"FlashFiles$Device", "erase", "(II)V"⟩ prog_4_method_7_code (4) none : Cond) ∈ TT := tt2 (List.mem_of_getElem? (i := 188) rfl) rfl
theorem q2_189 : (Cond.methodLink "FlashFiles$Device" (30) ⟨"java/lang/Math", "max", "(II)I"⟩ : Cond) ∈ TT := tt2 (List.mem_of_getElem? (i := 189) rfl) rfl
theorem q2_190 : (Cond.static ⟨"java/lang/Math", "max", "(II)I"⟩ : Cond) ∈ TT := tt2 (List.mem_of_getElem? (i := 190) rfl) rfl
theorem q2_191 : (Cond.code ⟨"java/lang/Math", "max", "(II)I"⟩ prog_19_method_65_code (2) (some .int) : Cond) ∈ TT := tt2 (List.mem_of_getElem? (i := 191) rfl) rfl
theorem q2_192 : (Cond.methodLink "FlashFiles$Device" (36) ⟨"java/lang/Math", "min", "(II)I"⟩ : Cond) ∈ TT := tt2 (List.mem_of_getElem? (i := 192) rfl) rfl
theorem q2_193 : (Cond.static ⟨"java/lang/Math", "min", "(II)I"⟩ : Cond) ∈ TT := tt2 (List.mem_of_getElem? (i := 193) rfl) rfl
theorem q2_194 : (Cond.code ⟨"java/lang/Math", "min", "(II)I"⟩ prog_19_method_69_code (2) (some .int) : Cond) ∈ TT := tt2 (List.mem_of_getElem? (i := 194) rfl) rfl
theorem q2_195 : (Cond.methodLink "FlashFiles$Device" (39) ⟨"java/util/Arrays", "fill", "([IIII)V"⟩ : Cond) ∈ TT := tt2 (List.mem_of_getElem? (i := 195) rfl) rfl
theorem q2_196 : (Cond.static ⟨"java/util/Arrays", "fill", "([IIII)V"⟩ : Cond) ∈ TT := tt2 (List.mem_of_getElem? (i := 196) rfl) rfl
theorem q2_197 : (Cond.code ⟨"java/util/Arrays", "fill", "([IIII)V"⟩ prog_28_method_104_code (5) none : Cond) ∈ TT := tt2 (List.mem_of_getElem? (i := 197) rfl) rfl
theorem q2_198 : (Cond.methodLink "java/util/Arrays" (13) ⟨"java/util/Arrays", "rangeCheck", "(III)V"⟩ : Cond) ∈ TT := tt2 (List.mem_of_getElem? (i := 198) rfl) rfl
theorem q2_199 : (Cond.static ⟨"java/util/Arrays", "rangeCheck", "(III)V"⟩ : Cond) ∈ TT := tt2 (List.mem_of_getElem? (i := 199) rfl) rfl
theorem q2_200 : (Cond.code ⟨"java/util/Arrays", "rangeCheck", "(III)V"⟩ prog_28_method_30_code (3) none : Cond) ∈ TT := tt2 (List.mem_of_getElem? (i := 200) rfl) rfl
theorem q3_34 : (Cond.static ⟨"java/lang/System", "arraycopy", "(Ljava/lang/Object;ILjava/lang/Object;II)V"⟩ : Cond) ∈ TT := tt3 (List.mem_of_getElem? (i := 34) rfl) rfl
theorem q3_35 : (Cond.native ⟨"java/lang/System", "arraycopy", "(Ljava/lang/Object;ILjava/lang/Object;II)V"⟩ : Cond) ∈ TT := tt3 (List.mem_of_getElem? (i := 35) rfl) rfl
theorem q3_199 : (Cond.methodLink "FlashFiles$Checkpoints" (56) ⟨"java/util/Arrays", "fill", "([II)V"⟩ : Cond) ∈ TT := tt3 (List.mem_of_getElem? (i := 199) rfl) rfl
theorem q3_200 : (Cond.static ⟨"java/util/Arrays", "fill", "([II)V"⟩ : Cond) ∈ TT := tt3 (List.mem_of_getElem? (i := 200) rfl) rfl
theorem q3_201 : (Cond.code ⟨"java/util/Arrays", "fill", "([II)V"⟩ prog_28_method_103_code (4) none : Cond) ∈ TT := tt3 (List.mem_of_getElem? (i := 201) rfl) rfl
theorem q3_202 : (Cond.methodLink "FlashFiles$Checkpoints" (62) ⟨"FlashFiles$Device", "program", "(I[II)V"⟩ : Cond) ∈ TT := tt3 (List.mem_of_getElem? (i := 202) rfl) rfl
theorem q3_203 : (Cond.instanceMethod ⟨"FlashFiles$Device", "program", "(I[II)V"⟩ : Cond) ∈ TT := tt3 (List.mem_of_getElem? (i := 203) rfl) rfl
theorem q3_204 : (Cond.selects "FlashFiles$Device" ⟨"FlashFiles$Device", "program", "(I[II)V"⟩ ⟨"FlashFiles$Device", "program", "(I[II)V"⟩ : Cond) ∈ TT := tt3 (List.mem_of_getElem? (i := 204) rfl) rfl
theorem q3_205 : (Cond.code ⟨"FlashFiles$Device", "program", "(I[II)V"⟩ prog_4_method_6_code (4) none : Cond) ∈ TT := tt3 (List.mem_of_getElem? (i := 205) rfl) rfl
theorem q3_206 : (Cond.methodLink "FlashFiles$Device" (24) ⟨"java/lang/System", "arraycopy", "(Ljava/lang/Object;ILjava/lang/Object;II)V"⟩ : Cond) ∈ TT := tt3 (List.mem_of_getElem? (i := 206) rfl) rfl
theorem q3_207 : (Cond.methodLink "FlashFiles$Checkpoints" (66) ⟨"FlashFiles$Table", "forget", "()V"⟩ : Cond) ∈ TT := tt3 (List.mem_of_getElem? (i := 207) rfl) rfl
theorem q3_208 : (Cond.instanceMethod ⟨"FlashFiles$Table", "forget", "()V"⟩ : Cond) ∈ TT := tt3 (List.mem_of_getElem? (i := 208) rfl) rfl
theorem q3_209 : (Cond.selects "FlashFiles$Table" ⟨"FlashFiles$Table", "forget", "()V"⟩ ⟨"FlashFiles$Table", "forget", "()V"⟩ : Cond) ∈ TT := tt3 (List.mem_of_getElem? (i := 209) rfl) rfl
theorem q3_210 : (Cond.code ⟨"FlashFiles$Table", "forget", "()V"⟩ prog_9_method_10_code (1) none : Cond) ∈ TT := tt3 (List.mem_of_getElem? (i := 210) rfl) rfl
theorem q3_211 : (Cond.methodLink "FlashFiles$Table" (28) ⟨"java/util/Arrays", "fill", "([II)V"⟩ : Cond) ∈ TT := tt3 (List.mem_of_getElem? (i := 211) rfl) rfl
theorem q3_212 : (Cond.methodLink "FlashFiles$Table" (34) ⟨"FlashFiles$Table", "settle", "()V"⟩ : Cond) ∈ TT := tt3 (List.mem_of_getElem? (i := 212) rfl) rfl
theorem q3_213 : (Cond.instanceMethod ⟨"FlashFiles$Table", "settle", "()V"⟩ : Cond) ∈ TT := tt3 (List.mem_of_getElem? (i := 213) rfl) rfl
theorem q3_214 : (Cond.selects "FlashFiles$Table" ⟨"FlashFiles$Table", "settle", "()V"⟩ ⟨"FlashFiles$Table", "settle", "()V"⟩ : Cond) ∈ TT := tt3 (List.mem_of_getElem? (i := 214) rfl) rfl
theorem q3_215 : (Cond.code ⟨"FlashFiles$Table", "settle", "()V"⟩ prog_9_method_9_code (2) none : Cond) ∈ TT := tt3 (List.mem_of_getElem? (i := 215) rfl) rfl
theorem q3_216 : (Cond.methodLink "FlashFiles$Table" (22) ⟨"java/lang/System", "arraycopy", "(Ljava/lang/Object;ILjava/lang/Object;II)V"⟩ : Cond) ∈ TT := tt3 (List.mem_of_getElem? (i := 216) rfl) rfl
theorem q3_217 : (Cond.methodLink "FlashFiles$Checkpoints" (71) ⟨"FlashFiles$Log", "forget", "()V"⟩ : Cond) ∈ TT := tt3 (List.mem_of_getElem? (i := 217) rfl) rfl
theorem q3_218 : (Cond.instanceMethod ⟨"FlashFiles$Log", "forget", "()V"⟩ : Cond) ∈ TT := tt3 (List.mem_of_getElem? (i := 218) rfl) rfl
theorem q3_219 : (Cond.selects "FlashFiles$Log" ⟨"FlashFiles$Log", "forget", "()V"⟩ ⟨"FlashFiles$Log", "forget", "()V"⟩ : Cond) ∈ TT := tt3 (List.mem_of_getElem? (i := 219) rfl) rfl
theorem q3_220 : (Cond.code ⟨"FlashFiles$Log", "forget", "()V"⟩ prog_7_method_2_code (2) none : Cond) ∈ TT := tt3 (List.mem_of_getElem? (i := 220) rfl) rfl
theorem q3_221 : (Cond.methodLink "FlashFiles$Log" (33) ⟨"java/util/Arrays", "fill", "([II)V"⟩ : Cond) ∈ TT := tt3 (List.mem_of_getElem? (i := 221) rfl) rfl
theorem q3_222 : (Cond.methodLink "FlashFiles$Checkpoints" (74) ⟨"FlashFiles$Checkpoints", "forget", "()V"⟩ : Cond) ∈ TT := tt3 (List.mem_of_getElem? (i := 222) rfl) rfl
theorem q3_223 : (Cond.instanceMethod ⟨"FlashFiles$Checkpoints", "forget", "()V"⟩ : Cond) ∈ TT := tt3 (List.mem_of_getElem? (i := 223) rfl) rfl
theorem q3_224 : (Cond.selects "FlashFiles$Checkpoints" ⟨"FlashFiles$Checkpoints", "forget", "()V"⟩ ⟨"FlashFiles$Checkpoints", "forget", "()V"⟩ : Cond) ∈ TT := tt3 (List.mem_of_getElem? (i := 224) rfl) rfl
theorem q3_225 : (Cond.code ⟨"FlashFiles$Checkpoints", "forget", "()V"⟩ prog_2_method_7_code (1) none : Cond) ∈ TT := tt3 (List.mem_of_getElem? (i := 225) rfl) rfl
theorem q3_226 : (Cond.methodLink "FlashFiles$Checkpoints" (75) ⟨"FlashFiles$Checkpoints", "readSuper", "()V"⟩ : Cond) ∈ TT := tt3 (List.mem_of_getElem? (i := 226) rfl) rfl
theorem q3_228 : (Cond.instanceMethod ⟨"FlashFiles$Checkpoints", "readSuper", "()V"⟩ : Cond) ∈ TT := tt3 (List.mem_of_getElem? (i := 228) rfl) rfl
theorem q3_229 : (Cond.code ⟨"FlashFiles$Checkpoints", "readSuper", "()V"⟩ prog_2_method_9_code (2) none : Cond) ∈ TT := tt3 (List.mem_of_getElem? (i := 229) rfl) rfl
theorem q3_230 : (Cond.methodLink "FlashFiles$Checkpoints" (84) ⟨"FlashFiles$Device", "word", "(II)I"⟩ : Cond) ∈ TT := tt3 (List.mem_of_getElem? (i := 230) rfl) rfl
theorem q3_231 : (Cond.instanceMethod ⟨"FlashFiles$Device", "word", "(II)I"⟩ : Cond) ∈ TT := tt3 (List.mem_of_getElem? (i := 231) rfl) rfl
theorem q3_232 : (Cond.selects "FlashFiles$Device" ⟨"FlashFiles$Device", "word", "(II)I"⟩ ⟨"FlashFiles$Device", "word", "(II)I"⟩ : Cond) ∈ TT := tt3 (List.mem_of_getElem? (i := 232) rfl) rfl
theorem q3_233 : (Cond.code ⟨"FlashFiles$Device", "word", "(II)I"⟩ prog_4_method_2_code (3) (some .int) : Cond) ∈ TT := tt3 (List.mem_of_getElem? (i := 233) rfl) rfl
theorem q3_234 : (Cond.methodLink "FlashFiles$Checkpoints" (88) ⟨"FlashFiles$Log", "setSegments", "(I)V"⟩ : Cond) ∈ TT := tt3 (List.mem_of_getElem? (i := 234) rfl) rfl
theorem q3_235 : (Cond.instanceMethod ⟨"FlashFiles$Log", "setSegments", "(I)V"⟩ : Cond) ∈ TT := tt3 (List.mem_of_getElem? (i := 235) rfl) rfl
theorem q3_236 : (Cond.selects "FlashFiles$Log" ⟨"FlashFiles$Log", "setSegments", "(I)V"⟩ ⟨"FlashFiles$Log", "setSegments", "(I)V"⟩ : Cond) ∈ TT := tt3 (List.mem_of_getElem? (i := 236) rfl) rfl
theorem q3_237 : (Cond.code ⟨"FlashFiles$Log", "setSegments", "(I)V"⟩ prog_7_method_7_code (2) none : Cond) ∈ TT := tt3 (List.mem_of_getElem? (i := 237) rfl) rfl
theorem q3_238 : (Cond.methodLink "FlashFiles$Log" (58) ⟨"java/lang/Math", "min", "(II)I"⟩ : Cond) ∈ TT := tt3 (List.mem_of_getElem? (i := 238) rfl) rfl
theorem q3_239 : (Cond.methodLink "FlashFiles$Checkpoints" (78) ⟨"FlashFiles$Log", "freeDead", "()V"⟩ : Cond) ∈ TT := tt3 (List.mem_of_getElem? (i := 239) rfl) rfl
theorem q4_0 : (Cond.instanceMethod ⟨"FlashFiles$Log", "freeDead", "()V"⟩ : Cond) ∈ TT := tt4 (List.mem_of_getElem? (i := 0) rfl) rfl
theorem q4_1 : (Cond.selects "FlashFiles$Log" ⟨"FlashFiles$Log", "freeDead", "()V"⟩ ⟨"FlashFiles$Log", "freeDead", "()V"⟩ : Cond) ∈ TT := tt4 (List.mem_of_getElem? (i := 1) rfl) rfl
theorem q4_2 : (Cond.code ⟨"FlashFiles$Log", "freeDead", "()V"⟩ prog_7_method_16_code (2) none : Cond) ∈ TT := tt4 (List.mem_of_getElem? (i := 2) rfl) rfl
theorem q4_3 : (Cond.methodLink "FlashFiles$Log" (87) ⟨"FlashFiles$Log", "isDead", "(I)Z"⟩ : Cond) ∈ TT := tt4 (List.mem_of_getElem? (i := 3) rfl) rfl
theorem q4_4 : (Cond.instanceMethod ⟨"FlashFiles$Log", "isDead", "(I)Z"⟩ : Cond) ∈ TT := tt4 (List.mem_of_getElem? (i := 4) rfl) rfl
theorem q4_5 : (Cond.selects "FlashFiles$Log" ⟨"FlashFiles$Log", "isDead", "(I)Z"⟩ ⟨"FlashFiles$Log", "isDead", "(I)Z"⟩ : Cond) ∈ TT := tt4 (List.mem_of_getElem? (i := 5) rfl) rfl
theorem q4_6 : (Cond.code ⟨"FlashFiles$Log", "isDead", "(I)Z"⟩ prog_7_method_14_code (2) (some .boolean) : Cond) ∈ TT := tt4 (List.mem_of_getElem? (i := 6) rfl) rfl
theorem q4_7 : (Cond.methodLink "FlashFiles$Log" (68) ⟨"FlashFiles$Log", "nodesIn", "(I)I"⟩ : Cond) ∈ TT := tt4 (List.mem_of_getElem? (i := 7) rfl) rfl
theorem q4_8 : (Cond.instanceMethod ⟨"FlashFiles$Log", "nodesIn", "(I)I"⟩ : Cond) ∈ TT := tt4 (List.mem_of_getElem? (i := 8) rfl) rfl
theorem q4_9 : (Cond.selects "FlashFiles$Log" ⟨"FlashFiles$Log", "nodesIn", "(I)I"⟩ ⟨"FlashFiles$Log", "nodesIn", "(I)I"⟩ : Cond) ∈ TT := tt4 (List.mem_of_getElem? (i := 9) rfl) rfl
theorem q4_10 : (Cond.code ⟨"FlashFiles$Log", "nodesIn", "(I)I"⟩ prog_7_method_10_code (2) (some .int) : Cond) ∈ TT := tt4 (List.mem_of_getElem? (i := 10) rfl) rfl
theorem q4_11 : (Cond.methodLink "FlashFiles$Log" (71) ⟨"FlashFiles$Log", "dataIn", "(I)I"⟩ : Cond) ∈ TT := tt4 (List.mem_of_getElem? (i := 11) rfl) rfl
theorem q4_12 : (Cond.instanceMethod ⟨"FlashFiles$Log", "dataIn", "(I)I"⟩ : Cond) ∈ TT := tt4 (List.mem_of_getElem? (i := 12) rfl) rfl
theorem q4_13 : (Cond.selects "FlashFiles$Log" ⟨"FlashFiles$Log", "dataIn", "(I)I"⟩ ⟨"FlashFiles$Log", "dataIn", "(I)I"⟩ : Cond) ∈ TT := tt4 (List.mem_of_getElem? (i := 13) rfl) rfl
theorem q4_14 : (Cond.code ⟨"FlashFiles$Log", "dataIn", "(I)I"⟩ prog_7_method_11_code (2) (some .int) : Cond) ∈ TT := tt4 (List.mem_of_getElem? (i := 14) rfl) rfl
theorem q4_15 : (Cond.methodLink "FlashFiles$Log" (74) ⟨"FlashFiles$Log", "isEnd", "(I)Z"⟩ : Cond) ∈ TT := tt4 (List.mem_of_getElem? (i := 15) rfl) rfl
theorem q4_16 : (Cond.instanceMethod ⟨"FlashFiles$Log", "isEnd", "(I)Z"⟩ : Cond) ∈ TT := tt4 (List.mem_of_getElem? (i := 16) rfl) rfl
theorem q4_17 : (Cond.selects "FlashFiles$Log" ⟨"FlashFiles$Log", "isEnd", "(I)Z"⟩ ⟨"FlashFiles$Log", "isEnd", "(I)Z"⟩ : Cond) ∈ TT := tt4 (List.mem_of_getElem? (i := 17) rfl) rfl
theorem q4_18 : (Cond.code ⟨"FlashFiles$Log", "isEnd", "(I)Z"⟩ prog_7_method_13_code (2) (some .boolean) : Cond) ∈ TT := tt4 (List.mem_of_getElem? (i := 18) rfl) rfl
theorem q4_19 : (Cond.methodLinkNest "FlashFiles$Log" (64) ⟨"FlashFiles", "segmentOf", "(I)I"⟩ "FlashFiles" : Cond) ∈ TT := tt4 (List.mem_of_getElem? (i := 19) rfl) rfl
theorem q4_20 : (Cond.static ⟨"FlashFiles", "segmentOf", "(I)I"⟩ : Cond) ∈ TT := tt4 (List.mem_of_getElem? (i := 20) rfl) rfl
theorem q4_21 : (Cond.code ⟨"FlashFiles", "segmentOf", "(I)I"⟩ prog_1_method_41_code (1) (some .int) : Cond) ∈ TT := tt4 (List.mem_of_getElem? (i := 21) rfl) rfl
theorem q4_22 : (Cond.methodLink "FlashFiles$Log" (90) ⟨"FlashFiles$Log", "setFree", "(I)V"⟩ : Cond) ∈ TT := tt4 (List.mem_of_getElem? (i := 22) rfl) rfl
theorem q4_23 : (Cond.instanceMethod ⟨"FlashFiles$Log", "setFree", "(I)V"⟩ : Cond) ∈ TT := tt4 (List.mem_of_getElem? (i := 23) rfl) rfl
theorem q4_24 : (Cond.selects "FlashFiles$Log" ⟨"FlashFiles$Log", "setFree", "(I)V"⟩ ⟨"FlashFiles$Log", "setFree", "(I)V"⟩ : Cond) ∈ TT := tt4 (List.mem_of_getElem? (i := 24) rfl) rfl
theorem q4_25 : (Cond.code ⟨"FlashFiles$Log", "setFree", "(I)V"⟩ prog_7_method_15_code (2) none : Cond) ∈ TT := tt4 (List.mem_of_getElem? (i := 25) rfl) rfl
theorem q4_26 : (Cond.methodLinkNest "FlashFiles$Log" (78) ⟨"FlashFiles", "firstOf", "(I)I"⟩ "FlashFiles" : Cond) ∈ TT := tt4 (List.mem_of_getElem? (i := 26) rfl) rfl
theorem q4_27 : (Cond.static ⟨"FlashFiles", "firstOf", "(I)I"⟩ : Cond) ∈ TT := tt4 (List.mem_of_getElem? (i := 27) rfl) rfl
theorem q4_28 : (Cond.code ⟨"FlashFiles", "firstOf", "(I)I"⟩ prog_1_method_42_code (1) (some .int) : Cond) ∈ TT := tt4 (List.mem_of_getElem? (i := 28) rfl) rfl
theorem q4_29 : (Cond.methodLink "FlashFiles$Log" (81) ⟨"FlashFiles$Device", "erase", "(II)V"⟩ : Cond) ∈ TT := tt4 (List.mem_of_getElem? (i := 29) rfl) rfl
theorem q4_30 : (Cond.methodLink "FlashFiles$Checkpoints" (81) ⟨"FlashFiles$Log", "openEnds", "()V"⟩ : Cond) ∈ TT := tt4 (List.mem_of_getElem? (i := 30) rfl) rfl
theorem q4_31 : (Cond.instanceMethod ⟨"FlashFiles$Log", "openEnds", "()V"⟩ : Cond) ∈ TT := tt4 (List.mem_of_getElem? (i := 31) rfl) rfl
theorem q4_32 : (Cond.selects "FlashFiles$Log" ⟨"FlashFiles$Log", "openEnds", "()V"⟩ ⟨"FlashFiles$Log", "openEnds", "()V"⟩ : Cond) ∈ TT := tt4 (List.mem_of_getElem? (i := 32) rfl) rfl
theorem q4_33 : (Cond.code ⟨"FlashFiles$Log", "openEnds", "()V"⟩ prog_7_method_17_code (1) none : Cond) ∈ TT := tt4 (List.mem_of_getElem? (i := 33) rfl) rfl
theorem q4_34 : (Cond.methodLink "FlashFiles$Log" (94) ⟨"FlashFiles$Log", "openSegment", "()I"⟩ : Cond) ∈ TT := tt4 (List.mem_of_getElem? (i := 34) rfl) rfl
theorem q4_36 : (Cond.instanceMethod ⟨"FlashFiles$Log", "openSegment", "()I"⟩ : Cond) ∈ TT := tt4 (List.mem_of_getElem? (i := 36) rfl) rfl
theorem q4_37 : (Cond.code ⟨"FlashFiles$Log", "openSegment", "()I"⟩ prog_7_method_24_code (3) (some .int) : Cond) ∈ TT := tt4 (List.mem_of_getElem? (i := 37) rfl) rfl
theorem q4_38 : (Cond.methodLink "FlashFiles" (109) ⟨"FlashFiles$Tree", "makeRoot", "()V"⟩ : Cond) ∈ TT := tt4 (List.mem_of_getElem? (i := 38) rfl) rfl
theorem q4_39 : (Cond.instanceMethod ⟨"FlashFiles$Tree", "makeRoot", "()V"⟩ : Cond) ∈ TT := tt4 (List.mem_of_getElem? (i := 39) rfl) rfl
theorem q4_40 : (Cond.selects "FlashFiles$Tree" ⟨"FlashFiles$Tree", "makeRoot", "()V"⟩ ⟨"FlashFiles$Tree", "makeRoot", "()V"⟩ : Cond) ∈ TT := tt4 (List.mem_of_getElem? (i := 40) rfl) rfl
theorem q4_41 : (Cond.code ⟨"FlashFiles$Tree", "makeRoot", "()V"⟩ prog_10_method_7_code (1) none : Cond) ∈ TT := tt4 (List.mem_of_getElem? (i := 41) rfl) rfl
theorem q4_42 : (Cond.methodLink "FlashFiles$Tree" (57) ⟨"FlashFiles$Tree", "putNew", "(III)V"⟩ : Cond) ∈ TT := tt4 (List.mem_of_getElem? (i := 42) rfl) rfl
theorem q4_44 : (Cond.instanceMethod ⟨"FlashFiles$Tree", "putNew", "(III)V"⟩ : Cond) ∈ TT := tt4 (List.mem_of_getElem? (i := 44) rfl) rfl
theorem q4_45 : (Cond.code ⟨"FlashFiles$Tree", "putNew", "(III)V"⟩ prog_10_method_9_code (4) none : Cond) ∈ TT := tt4 (List.mem_of_getElem? (i := 45) rfl) rfl
theorem q4_46 : (Cond.methodLink "FlashFiles$Tree" (73) ⟨"java/util/Arrays", "fill", "([II)V"⟩ : Cond) ∈ TT := tt4 (List.mem_of_getElem? (i := 46) rfl) rfl
theorem q4_47 : (Cond.methodLink "FlashFiles$Tree" (79) ⟨"FlashFiles$Log", "putNode", "(I[II)V"⟩ : Cond) ∈ TT := tt4 (List.mem_of_getElem? (i := 47) rfl) rfl
theorem q4_48 : (Cond.instanceMethod ⟨"FlashFiles$Log", "putNode", "(I[II)V"⟩ : Cond) ∈ TT := tt4 (List.mem_of_getElem? (i := 48) rfl) rfl
theorem q4_49 : (Cond.selects "FlashFiles$Log" ⟨"FlashFiles$Log", "putNode", "(I[II)V"⟩ ⟨"FlashFiles$Log", "putNode", "(I[II)V"⟩ : Cond) ∈ TT := tt4 (List.mem_of_getElem? (i := 49) rfl) rfl
theorem q4_50 : (Cond.code ⟨"FlashFiles$Log", "putNode", "(I[II)V"⟩ prog_7_method_21_code (5) none : Cond) ∈ TT := tt4 (List.mem_of_getElem? (i := 50) rfl) rfl
theorem q4_51 : (Cond.methodLink "FlashFiles$Log" (109) ⟨"FlashFiles$Log", "isLast", "(I)Z"⟩ : Cond) ∈ TT := tt4 (List.mem_of_getElem? (i := 51) rfl) rfl
theorem q4_53 : (Cond.instanceMethod ⟨"FlashFiles$Log", "isLast", "(I)Z"⟩ : Cond) ∈ TT := tt4 (List.mem_of_getElem? (i := 53) rfl) rfl
theorem q4_54 : (Cond.code ⟨"FlashFiles$Log", "isLast", "(I)Z"⟩ prog_7_method_23_code (2) (some .boolean) : Cond) ∈ TT := tt4 (List.mem_of_getElem? (i := 54) rfl) rfl
theorem q4_55 : (Cond.methodLink "FlashFiles$Log" (112) ⟨"FlashFiles$Device", "program", "(I[II)V"⟩ : Cond) ∈ TT := tt4 (List.mem_of_getElem? (i := 55) rfl) rfl
theorem q4_56 : (Cond.methodLink "FlashFiles$Log" (116) ⟨"FlashFiles$Log", "claim", "(II)V"⟩ : Cond) ∈ TT := tt4 (List.mem_of_getElem? (i := 56) rfl) rfl
theorem q4_57 : (Cond.instanceMethod ⟨"FlashFiles$Log", "claim", "(II)V"⟩ : Cond) ∈ TT := tt4 (List.mem_of_getElem? (i := 57) rfl) rfl
theorem q4_58 : (Cond.selects "FlashFiles$Log" ⟨"FlashFiles$Log", "claim", "(II)V"⟩ ⟨"FlashFiles$Log", "claim", "(II)V"⟩ : Cond) ∈ TT := tt4 (List.mem_of_getElem? (i := 58) rfl) rfl
theorem q4_59 : (Cond.code ⟨"FlashFiles$Log", "claim", "(II)V"⟩ prog_7_method_18_code (4) none : Cond) ∈ TT := tt4 (List.mem_of_getElem? (i := 59) rfl) rfl
theorem q4_60 : (Cond.methodLink "FlashFiles$Log" (98) ⟨"FlashFiles$Table", "placeOf", "(I)I"⟩ : Cond) ∈ TT := tt4 (List.mem_of_getElem? (i := 60) rfl) rfl
theorem q4_61 : (Cond.instanceMethod ⟨"FlashFiles$Table", "placeOf", "(I)I"⟩ : Cond) ∈ TT := tt4 (List.mem_of_getElem? (i := 61) rfl) rfl
theorem q4_62 : (Cond.selects "FlashFiles$Table" ⟨"FlashFiles$Table", "placeOf", "(I)I"⟩ ⟨"FlashFiles$Table", "placeOf", "(I)I"⟩ : Cond) ∈ TT := tt4 (List.mem_of_getElem? (i := 62) rfl) rfl
theorem q4_63 : (Cond.code ⟨"FlashFiles$Table", "placeOf", "(I)I"⟩ prog_9_method_2_code (2) (some .int) : Cond) ∈ TT := tt4 (List.mem_of_getElem? (i := 63) rfl) rfl
theorem q4_64 : (Cond.methodLink "FlashFiles$Log" (103) ⟨"FlashFiles$Log", "drop", "(I)V"⟩ : Cond) ∈ TT := tt4 (List.mem_of_getElem? (i := 64) rfl) rfl
theorem q4_65 : (Cond.instanceMethod ⟨"FlashFiles$Log", "drop", "(I)V"⟩ : Cond) ∈ TT := tt4 (List.mem_of_getElem? (i := 65) rfl) rfl
theorem q4_66 : (Cond.selects "FlashFiles$Log" ⟨"FlashFiles$Log", "drop", "(I)V"⟩ ⟨"FlashFiles$Log", "drop", "(I)V"⟩ : Cond) ∈ TT := tt4 (List.mem_of_getElem? (i := 66) rfl) rfl
theorem q4_67 : (Cond.code ⟨"FlashFiles$Log", "drop", "(I)V"⟩ prog_7_method_19_code (3) none : Cond) ∈ TT := tt4 (List.mem_of_getElem? (i := 67) rfl) rfl
theorem q4_68 : (Cond.methodLink "FlashFiles$Log" (106) ⟨"FlashFiles$Table", "setPlace", "(II)V"⟩ : Cond) ∈ TT := tt4 (List.mem_of_getElem? (i := 68) rfl) rfl
theorem q4_69 : (Cond.instanceMethod ⟨"FlashFiles$Table", "setPlace", "(II)V"⟩ : Cond) ∈ TT := tt4 (List.mem_of_getElem? (i := 69) rfl) rfl
theorem q4_70 : (Cond.selects "FlashFiles$Table" ⟨"FlashFiles$Table", "setPlace", "(II)V"⟩ ⟨"FlashFiles$Table", "setPlace", "(II)V"⟩ : Cond) ∈ TT := tt4 (List.mem_of_getElem? (i := 70) rfl) rfl
theorem q4_71 : (Cond.code ⟨"FlashFiles$Table", "setPlace", "(II)V"⟩ prog_9_method_3_code (3) none : Cond) ∈ TT := tt4 (List.mem_of_getElem? (i := 71) rfl) rfl
theorem q4_72 : (Cond.methodLink "FlashFiles" (112) ⟨"FlashFiles$Checkpoints", "take", "()V"⟩ : Cond) ∈ TT := tt4 (List.mem_of_getElem? (i := 72) rfl) rfl
theorem q4_73 : (Cond.instanceMethod ⟨"FlashFiles$Checkpoints", "take", "()V"⟩ : Cond) ∈ TT := tt4 (List.mem_of_getElem? (i := 73) rfl) rfl
theorem q4_74 : (Cond.selects "FlashFiles$Checkpoints" ⟨"FlashFiles$Checkpoints", "take", "()V"⟩ ⟨"FlashFiles$Checkpoints", "take", "()V"⟩ : Cond) ∈ TT := tt4 (List.mem_of_getElem? (i := 74) rfl) rfl
theorem q4_75 : (Cond.code ⟨"FlashFiles$Checkpoints", "take", "()V"⟩ prog_2_method_10_code (2) none : Cond) ∈ TT := tt4 (List.mem_of_getElem? (i := 75) rfl) rfl
theorem q4_76 : (Cond.methodLink "FlashFiles$Checkpoints" (92) ⟨"FlashFiles$Tree", "blocksInUse", "()I"⟩ : Cond) ∈ TT := tt4 (List.mem_of_getElem? (i := 76) rfl) rfl
theorem q4_77 : (Cond.instanceMethod ⟨"FlashFiles$Tree", "blocksInUse", "()I"⟩ : Cond) ∈ TT := tt4 (List.mem_of_getElem? (i := 77) rfl) rfl
theorem q4_78 : (Cond.selects "FlashFiles$Tree" ⟨"FlashFiles$Tree", "blocksInUse", "()I"⟩ ⟨"FlashFiles$Tree", "blocksInUse", "()I"⟩ : Cond) ∈ TT := tt4 (List.mem_of_getElem? (i := 78) rfl) rfl
theorem q4_79 : (Cond.code ⟨"FlashFiles$Tree", "blocksInUse", "()I"⟩ prog_10_method_6_code (3) (some .int) : Cond) ∈ TT := tt4 (List.mem_of_getElem? (i := 79) rfl) rfl
theorem q4_80 : (Cond.methodLink "FlashFiles$Tree" (54) ⟨"FlashFiles$Tree", "blocksOf", "(I)I"⟩ : Cond) ∈ TT := tt4 (List.mem_of_getElem? (i := 80) rfl) rfl
theorem q4_81 : (Cond.instanceMethod ⟨"FlashFiles$Tree", "blocksOf", "(I)I"⟩ : Cond) ∈ TT := tt4 (List.mem_of_getElem? (i := 81) rfl) rfl
theorem q4_82 : (Cond.selects "FlashFiles$Tree" ⟨"FlashFiles$Tree", "blocksOf", "(I)I"⟩ ⟨"FlashFiles$Tree", "blocksOf", "(I)I"⟩ : Cond) ∈ TT := tt4 (List.mem_of_getElem? (i := 82) rfl) rfl
theorem q4_83 : (Cond.code ⟨"FlashFiles$Tree", "blocksOf", "(I)I"⟩ prog_10_method_4_code (3) (some .int) : Cond) ∈ TT := tt4 (List.mem_of_getElem? (i := 83) rfl) rfl
theorem q4_84 : (Cond.methodLink "FlashFiles$Tree" (45) ⟨"FlashFiles$Tree", "kindOf", "(I)I"⟩ : Cond) ∈ TT := tt4 (List.mem_of_getElem? (i := 84) rfl) rfl
theorem q4_85 : (Cond.instanceMethod ⟨"FlashFiles$Tree", "kindOf", "(I)I"⟩ : Cond) ∈ TT := tt4 (List.mem_of_getElem? (i := 85) rfl) rfl
theorem q4_86 : (Cond.selects "FlashFiles$Tree" ⟨"FlashFiles$Tree", "kindOf", "(I)I"⟩ ⟨"FlashFiles$Tree", "kindOf", "(I)I"⟩ : Cond) ∈ TT := tt4 (List.mem_of_getElem? (i := 86) rfl) rfl
theorem q4_87 : (Cond.code ⟨"FlashFiles$Tree", "kindOf", "(I)I"⟩ prog_10_method_3_code (2) (some .int) : Cond) ∈ TT := tt4 (List.mem_of_getElem? (i := 87) rfl) rfl
theorem q4_88 : (Cond.methodLink "FlashFiles$Tree" (42) ⟨"FlashFiles$Tree", "wordOf", "(II)I"⟩ : Cond) ∈ TT := tt4 (List.mem_of_getElem? (i := 88) rfl) rfl
theorem q4_89 : (Cond.instanceMethod ⟨"FlashFiles$Tree", "wordOf", "(II)I"⟩ : Cond) ∈ TT := tt4 (List.mem_of_getElem? (i := 89) rfl) rfl
theorem q4_90 : (Cond.selects "FlashFiles$Tree" ⟨"FlashFiles$Tree", "wordOf", "(II)I"⟩ ⟨"FlashFiles$Tree", "wordOf", "(II)I"⟩ : Cond) ∈ TT := tt4 (List.mem_of_getElem? (i := 90) rfl) rfl
theorem q4_91 : (Cond.code ⟨"FlashFiles$Tree", "wordOf", "(II)I"⟩ prog_10_method_2_code (3) (some .int) : Cond) ∈ TT := tt4 (List.mem_of_getElem? (i := 91) rfl) rfl
theorem q4_92 : (Cond.methodLink "FlashFiles$Tree" (30) ⟨"FlashFiles$Table", "placeOf", "(I)I"⟩ : Cond) ∈ TT := tt4 (List.mem_of_getElem? (i := 92) rfl) rfl
theorem q4_93 : (Cond.methodLink "FlashFiles$Tree" (36) ⟨"FlashFiles$Device", "word", "(II)I"⟩ : Cond) ∈ TT := tt4 (List.mem_of_getElem? (i := 93) rfl) rfl
theorem q4_94 : (Cond.methodLinkNest "FlashFiles$Tree" (48) ⟨"FlashFiles", "blocksBegun", "(I)I"⟩ "FlashFiles" : Cond) ∈ TT := tt4 (List.mem_of_getElem? (i := 94) rfl) rfl
theorem q4_95 : (Cond.static ⟨"FlashFiles", "blocksBegun", "(I)I"⟩ : Cond) ∈ TT := tt4 (List.mem_of_getElem? (i := 95) rfl) rfl
theorem q4_96 : (Cond.code ⟨"FlashFiles", "blocksBegun", "(I)I"⟩ prog_1_method_46_code (1) (some .int) : Cond) ∈ TT := tt4 (List.mem_of_getElem? (i := 96) rfl) rfl
theorem q4_97 : (Cond.methodLink "FlashFiles$Tree" (51) ⟨"FlashFiles$Tree", "nodesFor", "(I)I"⟩ : Cond) ∈ TT := tt4 (List.mem_of_getElem? (i := 97) rfl) rfl
theorem q4_99 : (Cond.instanceMethod ⟨"FlashFiles$Tree", "nodesFor", "(I)I"⟩ : Cond) ∈ TT := tt4 (List.mem_of_getElem? (i := 99) rfl) rfl
theorem q4_100 : (Cond.code ⟨"FlashFiles$Tree", "nodesFor", "(I)I"⟩ prog_10_method_5_code (3) (some .int) : Cond) ∈ TT := tt4 (List.mem_of_getElem? (i := 100) rfl) rfl
theorem q4_101 : (Cond.methodLink "FlashFiles$Checkpoints" (98) ⟨"FlashFiles$Checkpoints", "commit", "()V"⟩ : Cond) ∈ TT := tt4 (List.mem_of_getElem? (i := 101) rfl) rfl
theorem q4_103 : (Cond.instanceMethod ⟨"FlashFiles$Checkpoints", "commit", "()V"⟩ : Cond) ∈ TT := tt4 (List.mem_of_getElem? (i := 103) rfl) rfl
theorem q4_104 : (Cond.code ⟨"FlashFiles$Checkpoints", "commit", "()V"⟩ prog_2_method_13_code (1) none : Cond) ∈ TT := tt4 (List.mem_of_getElem? (i := 104) rfl) rfl
theorem q4_105 : (Cond.methodLink "FlashFiles$Checkpoints" (121) ⟨"FlashFiles$Checkpoints", "fillPack", "()V"⟩ : Cond) ∈ TT := tt4 (List.mem_of_getElem? (i := 105) rfl) rfl
theorem q4_107 : (Cond.instanceMethod ⟨"FlashFiles$Checkpoints", "fillPack", "()V"⟩ : Cond) ∈ TT := tt4 (List.mem_of_getElem? (i := 107) rfl) rfl
theorem q4_108 : (Cond.code ⟨"FlashFiles$Checkpoints", "fillPack", "()V"⟩ prog_2_method_16_code (2) none : Cond) ∈ TT := tt4 (List.mem_of_getElem? (i := 108) rfl) rfl
theorem q4_109 : (Cond.methodLink "FlashFiles$Checkpoints" (127) ⟨"FlashFiles$Log", "serial", "()I"⟩ : Cond) ∈ TT := tt4 (List.mem_of_getElem? (i := 109) rfl) rfl
theorem q4_110 : (Cond.instanceMethod ⟨"FlashFiles$Log", "serial", "()I"⟩ : Cond) ∈ TT := tt4 (List.mem_of_getElem? (i := 110) rfl) rfl
theorem q4_111 : (Cond.selects "FlashFiles$Log" ⟨"FlashFiles$Log", "serial", "()I"⟩ ⟨"FlashFiles$Log", "serial", "()I"⟩ : Cond) ∈ TT := tt4 (List.mem_of_getElem? (i := 111) rfl) rfl
theorem q4_112 : (Cond.code ⟨"FlashFiles$Log", "serial", "()I"⟩ prog_7_method_6_code (1) (some .int) : Cond) ∈ TT := tt4 (List.mem_of_getElem? (i := 112) rfl) rfl
theorem q4_113 : (Cond.methodLink "FlashFiles$Checkpoints" (144) ⟨"FlashFiles$Log", "nodeEnd", "()I"⟩ : Cond) ∈ TT := tt4 (List.mem_of_getElem? (i := 113) rfl) rfl
theorem q4_114 : (Cond.instanceMethod ⟨"FlashFiles$Log", "nodeEnd", "()I"⟩ : Cond) ∈ TT := tt4 (List.mem_of_getElem? (i := 114) rfl) rfl
theorem q4_115 : (Cond.selects "FlashFiles$Log" ⟨"FlashFiles$Log", "nodeEnd", "()I"⟩ ⟨"FlashFiles$Log", "nodeEnd", "()I"⟩ : Cond) ∈ TT := tt4 (List.mem_of_getElem? (i := 115) rfl) rfl
theorem q4_116 : (Cond.code ⟨"FlashFiles$Log", "nodeEnd", "()I"⟩ prog_7_method_5_code (1) (some .int) : Cond) ∈ TT := tt4 (List.mem_of_getElem? (i := 116) rfl) rfl
theorem q4_117 : (Cond.methodLink "FlashFiles$Checkpoints" (147) ⟨"FlashFiles$Log", "segments", "()I"⟩ : Cond) ∈ TT := tt4 (List.mem_of_getElem? (i := 117) rfl) rfl
theorem q4_118 : (Cond.instanceMethod ⟨"FlashFiles$Log", "segments", "()I"⟩ : Cond) ∈ TT := tt4 (List.mem_of_getElem? (i := 118) rfl) rfl
theorem q4_119 : (Cond.selects "FlashFiles$Log" ⟨"FlashFiles$Log", "segments", "()I"⟩ ⟨"FlashFiles$Log", "segments", "()I"⟩ : Cond) ∈ TT := tt4 (List.mem_of_getElem? (i := 119) rfl) rfl
theorem q4_120 : (Cond.code ⟨"FlashFiles$Log", "segments", "()I"⟩ prog_7_method_3_code (1) (some .int) : Cond) ∈ TT := tt4 (List.mem_of_getElem? (i := 120) rfl) rfl
theorem q4_121 : (Cond.methodLink "FlashFiles$Checkpoints" (150) ⟨"FlashFiles$Log", "isDead", "(I)Z"⟩ : Cond) ∈ TT := tt4 (List.mem_of_getElem? (i := 121) rfl) rfl
theorem q4_122 : (Cond.methodLink "FlashFiles$Checkpoints" (154) ⟨"FlashFiles$Table", "copyInto", "([I)V"⟩ : Cond) ∈ TT := tt4 (List.mem_of_getElem? (i := 122) rfl) rfl
theorem q4_123 : (Cond.instanceMethod ⟨"FlashFiles$Table", "copyInto", "([I)V"⟩ : Cond) ∈ TT := tt4 (List.mem_of_getElem? (i := 123) rfl) rfl
theorem q4_124 : (Cond.selects "FlashFiles$Table" ⟨"FlashFiles$Table", "copyInto", "([I)V"⟩ ⟨"FlashFiles$Table", "copyInto", "([I)V"⟩ : Cond) ∈ TT := tt4 (List.mem_of_getElem? (i := 124) rfl) rfl
theorem q4_125 : (Cond.code ⟨"FlashFiles$Table", "copyInto", "([I)V"⟩ prog_9_method_11_code (2) none : Cond) ∈ TT := tt4 (List.mem_of_getElem? (i := 125) rfl) rfl
theorem q4_126 : (Cond.methodLink "FlashFiles$Checkpoints" (124) ⟨"FlashFiles$Checkpoints", "storeBlocks", "(I)V"⟩ : Cond) ∈ TT := tt4 (List.mem_of_getElem? (i := 126) rfl) rfl
theorem q4_128 : (Cond.instanceMethod ⟨"FlashFiles$Checkpoints", "storeBlocks", "(I)V"⟩ : Cond) ∈ TT := tt4 (List.mem_of_getElem? (i := 128) rfl) rfl
theorem q4_129 : (Cond.code ⟨"FlashFiles$Checkpoints", "storeBlocks", "(I)V"⟩ prog_2_method_15_code (4) none : Cond) ∈ TT := tt4 (List.mem_of_getElem? (i := 129) rfl) rfl
theorem q4_130 : (Cond.methodLinkNest "FlashFiles$Checkpoints" (136) ⟨"FlashFiles", "beginOfPack", "(I)I"⟩ "FlashFiles" : Cond) ∈ TT := tt4 (List.mem_of_getElem? (i := 130) rfl) rfl
theorem q4_131 : (Cond.static ⟨"FlashFiles", "beginOfPack", "(I)I"⟩ : Cond) ∈ TT := tt4 (List.mem_of_getElem? (i := 131) rfl) rfl
theorem q4_132 : (Cond.code ⟨"FlashFiles", "beginOfPack", "(I)I"⟩ prog_1_method_43_code (1) (some .int) : Cond) ∈ TT := tt4 (List.mem_of_getElem? (i := 132) rfl) rfl
theorem q4_133 : (Cond.methodLink "FlashFiles$Checkpoints" (140) ⟨"FlashFiles$Device", "erase", "(II)V"⟩ : Cond) ∈ TT := tt4 (List.mem_of_getElem? (i := 133) rfl) rfl
theorem q4_134 : (Cond.methodLink "FlashFiles$Checkpoints" (130) ⟨"FlashFiles$Log", "setSerial", "(I)V"⟩ : Cond) ∈ TT := tt4 (List.mem_of_getElem? (i := 134) rfl) rfl
theorem q4_135 : (Cond.instanceMethod ⟨"FlashFiles$Log", "setSerial", "(I)V"⟩ : Cond) ∈ TT := tt4 (List.mem_of_getElem? (i := 135) rfl) rfl
theorem q4_136 : (Cond.selects "FlashFiles$Log" ⟨"FlashFiles$Log", "setSerial", "(I)V"⟩ ⟨"FlashFiles$Log", "setSerial", "(I)V"⟩ : Cond) ∈ TT := tt4 (List.mem_of_getElem? (i := 136) rfl) rfl
theorem q4_137 : (Cond.code ⟨"FlashFiles$Log", "setSerial", "(I)V"⟩ prog_7_method_8_code (2) none : Cond) ∈ TT := tt4 (List.mem_of_getElem? (i := 137) rfl) rfl
theorem q4_138 : (Cond.methodLink "FlashFiles$Checkpoints" (101) ⟨"FlashFiles$Table", "settle", "()V"⟩ : Cond) ∈ TT := tt4 (List.mem_of_getElem? (i := 138) rfl) rfl
theorem q4_139 : (Cond.methodLink "FlashFiles$Checkpoints" (104) ⟨"FlashFiles$Log", "freeSegments", "()I"⟩ : Cond) ∈ TT := tt4 (List.mem_of_getElem? (i := 139) rfl) rfl
theorem q4_140 : (Cond.instanceMethod ⟨"FlashFiles$Log", "freeSegments", "()I"⟩ : Cond) ∈ TT := tt4 (List.mem_of_getElem? (i := 140) rfl) rfl
theorem q4_141 : (Cond.selects "FlashFiles$Log" ⟨"FlashFiles$Log", "freeSegments", "()I"⟩ ⟨"FlashFiles$Log", "freeSegments", "()I"⟩ : Cond) ∈ TT := tt4 (List.mem_of_getElem? (i := 141) rfl) rfl
theorem q4_142 : (Cond.code ⟨"FlashFiles$Log", "freeSegments", "()I"⟩ prog_7_method_4_code (1) (some .int) : Cond) ∈ TT := tt4 (List.mem_of_getElem? (i := 142) rfl) rfl
theorem q4_143 : (Cond.methodLink "FlashFiles$Checkpoints" (107) ⟨"FlashFiles$Checkpoints", "mustBeFree", "()I"⟩ : Cond) ∈ TT := tt4 (List.mem_of_getElem? (i := 143) rfl) rfl
theorem q4_145 : (Cond.instanceMethod ⟨"FlashFiles$Checkpoints", "mustBeFree", "()I"⟩ : Cond) ∈ TT := tt4 (List.mem_of_getElem? (i := 145) rfl) rfl
theorem q4_146 : (Cond.code ⟨"FlashFiles$Checkpoints", "mustBeFree", "()I"⟩ prog_2_method_11_code (2) (some .int) : Cond) ∈ TT := tt4 (List.mem_of_getElem? (i := 146) rfl) rfl
theorem q4_147 : (Cond.methodLink "FlashFiles$Checkpoints" (116) ⟨"java/lang/Math", "max", "(II)I"⟩ : Cond) ∈ TT := tt4 (List.mem_of_getElem? (i := 147) rfl) rfl
theorem q4_148 : (Cond.methodLink "FlashFiles$Checkpoints" (110) ⟨"FlashFiles$Cleaner", "emptySegments", "(II)Z"⟩ : Cond) ∈ TT := tt4 (List.mem_of_getElem? (i := 148) rfl) rfl
theorem q4_149 : (Cond.instanceMethod ⟨"FlashFiles$Cleaner", "emptySegments", "(II)Z"⟩ : Cond) ∈ TT := tt4 (List.mem_of_getElem? (i := 149) rfl) rfl
theorem q4_150 : (Cond.selects "FlashFiles$Cleaner" ⟨"FlashFiles$Cleaner", "emptySegments", "(II)Z"⟩ ⟨"FlashFiles$Cleaner", "emptySegments", "(II)Z"⟩ : Cond) ∈ TT := tt4 (List.mem_of_getElem? (i := 150) rfl) rfl
theorem q4_151 : (Cond.code ⟨"FlashFiles$Cleaner", "emptySegments", "(II)Z"⟩ prog_3_method_2_code (7) (some .boolean) : Cond) ∈ TT := tt4 (List.mem_of_getElem? (i := 151) rfl) rfl
theorem q4_152 : (Cond.methodLink "FlashFiles$Cleaner" (34) ⟨"java/lang/Math", "min", "(II)I"⟩ : Cond) ∈ TT := tt4 (List.mem_of_getElem? (i := 152) rfl) rfl
theorem q4_153 : (Cond.methodLink "FlashFiles$Cleaner" (40) ⟨"FlashFiles$Cleaner", "cheapest", "(I)I"⟩ : Cond) ∈ TT := tt4 (List.mem_of_getElem? (i := 153) rfl) rfl
theorem q4_155 : (Cond.instanceMethod ⟨"FlashFiles$Cleaner", "cheapest", "(I)I"⟩ : Cond) ∈ TT := tt4 (List.mem_of_getElem? (i := 155) rfl) rfl
theorem q4_156 : (Cond.code ⟨"FlashFiles$Cleaner", "cheapest", "(I)I"⟩ prog_3_method_4_code (7) (some .int) : Cond) ∈ TT := tt4 (List.mem_of_getElem? (i := 156) rfl) rfl
theorem q4_157 : (Cond.methodLink "FlashFiles$Cleaner" (59) ⟨"FlashFiles$Log", "segments", "()I"⟩ : Cond) ∈ TT := tt4 (List.mem_of_getElem? (i := 157) rfl) rfl
theorem q4_158 : (Cond.methodLink "FlashFiles$Cleaner" (51) ⟨"FlashFiles$Log", "nodesIn", "(I)I"⟩ : Cond) ∈ TT := tt4 (List.mem_of_getElem? (i := 158) rfl) rfl
theorem q4_159 : (Cond.methodLink "FlashFiles$Cleaner" (56) ⟨"FlashFiles$Log", "dataIn", "(I)I"⟩ : Cond) ∈ TT := tt4 (List.mem_of_getElem? (i := 159) rfl) rfl
theorem q4_160 : (Cond.methodLink "FlashFiles$Cleaner" (63) ⟨"FlashFiles$Log", "isEnd", "(I)Z"⟩ : Cond) ∈ TT := tt4 (List.mem_of_getElem? (i := 160) rfl) rfl
theorem q4_161 : (Cond.methodLink "FlashFiles$Cleaner" (44) ⟨"FlashFiles$Cleaner", "cost", "(I)I"⟩ : Cond) ∈ TT := tt4 (List.mem_of_getElem? (i := 161) rfl) rfl
theorem q4_163 : (Cond.instanceMethod ⟨"FlashFiles$Cleaner", "cost", "(I)I"⟩ : Cond) ∈ TT := tt4 (List.mem_of_getElem? (i := 163) rfl) rfl
theorem q4_164 : (Cond.code ⟨"FlashFiles$Cleaner", "cost", "(I)I"⟩ prog_3_method_3_code (2) (some .int) : Cond) ∈ TT := tt4 (List.mem_of_getElem? (i := 164) rfl) rfl
theorem q4_165 : (Cond.methodLink "FlashFiles$Cleaner" (47) ⟨"FlashFiles$Cleaner", "moveNode", "(I)V"⟩ : Cond) ∈ TT := tt4 (List.mem_of_getElem? (i := 165) rfl) rfl
theorem q4_167 : (Cond.instanceMethod ⟨"FlashFiles$Cleaner", "moveNode", "(I)V"⟩ : Cond) ∈ TT := tt4 (List.mem_of_getElem? (i := 167) rfl) rfl
theorem q4_168 : (Cond.code ⟨"FlashFiles$Cleaner", "moveNode", "(I)V"⟩ prog_3_method_6_code (9) none : Cond) ∈ TT := tt4 (List.mem_of_getElem? (i := 168) rfl) rfl
theorem q4_169 : (Cond.methodLink "FlashFiles$Cleaner" (70) ⟨"FlashFiles$Table", "placeOf", "(I)I"⟩ : Cond) ∈ TT := tt4 (List.mem_of_getElem? (i := 169) rfl) rfl
theorem q4_170 : (Cond.methodLink "FlashFiles$Cleaner" (75) ⟨"FlashFiles$Cleaner", "mustLeave", "(I)Z"⟩ : Cond) ∈ TT := tt4 (List.mem_of_getElem? (i := 170) rfl) rfl
theorem q4_172 : (Cond.instanceMethod ⟨"FlashFiles$Cleaner", "mustLeave", "(I)Z"⟩ : Cond) ∈ TT := tt4 (List.mem_of_getElem? (i := 172) rfl) rfl
theorem q4_173 : (Cond.code ⟨"FlashFiles$Cleaner", "mustLeave", "(I)Z"⟩ prog_3_method_5_code (3) (some .boolean) : Cond) ∈ TT := tt4 (List.mem_of_getElem? (i := 173) rfl) rfl
theorem q4_174 : (Cond.methodLinkNest "FlashFiles$Cleaner" (67) ⟨"FlashFiles", "segmentOf", "(I)I"⟩ "FlashFiles" : Cond) ∈ TT := tt4 (List.mem_of_getElem? (i := 174) rfl) rfl
theorem q4_175 : (Cond.methodLink "FlashFiles$Cleaner" (78) ⟨"FlashFiles$Device", "word", "(II)I"⟩ : Cond) ∈ TT := tt4 (List.mem_of_getElem? (i := 175) rfl) rfl
theorem q4_176 : (Cond.methodLinkNest "FlashFiles$Cleaner" (83) ⟨"FlashFiles", "pointersFrom", "(I)I"⟩ "FlashFiles" : Cond) ∈ TT := tt4 (List.mem_of_getElem? (i := 176) rfl) rfl
theorem q4_177 : (Cond.static ⟨"FlashFiles", "pointersFrom", "(I)I"⟩ : Cond) ∈ TT := tt4 (List.mem_of_getElem? (i := 177) rfl) rfl
theorem q4_178 : (Cond.code ⟨"FlashFiles", "pointersFrom", "(I)I"⟩ prog_1_method_44_code (1) (some .int) : Cond) ∈ TT := tt4 (List.mem_of_getElem? (i := 178) rfl) rfl
theorem q4_179 : (Cond.methodLinkNest "FlashFiles$Cleaner" (86) ⟨"FlashFiles", "pointersIn", "(II)I"⟩ "FlashFiles" : Cond) ∈ TT := tt4 (List.mem_of_getElem? (i := 179) rfl) rfl
theorem q4_180 : (Cond.static ⟨"FlashFiles", "pointersIn", "(II)I"⟩ : Cond) ∈ TT := tt4 (List.mem_of_getElem? (i := 180) rfl) rfl
theorem q4_181 : (Cond.code ⟨"FlashFiles", "pointersIn", "(II)I"⟩ prog_1_method_45_code (2) (some .int) : Cond) ∈ TT := tt4 (List.mem_of_getElem? (i := 181) rfl) rfl
theorem q4_182 : (Cond.methodLink "FlashFiles$Cleaner" (89) ⟨"FlashFiles$Device", "load", "(I[I)V"⟩ : Cond) ∈ TT := tt4 (List.mem_of_getElem? (i := 182) rfl) rfl
theorem q4_183 : (Cond.instanceMethod ⟨"FlashFiles$Device", "load", "(I[I)V"⟩ : Cond) ∈ TT := tt4 (List.mem_of_getElem? (i := 183) rfl) rfl
theorem q4_184 : (Cond.selects "FlashFiles$Device" ⟨"FlashFiles$Device", "load", "(I[I)V"⟩ ⟨"FlashFiles$Device", "load", "(I[I)V"⟩ : Cond) ∈ TT := tt4 (List.mem_of_getElem? (i := 184) rfl) rfl
theorem q4_185 : (Cond.code ⟨"FlashFiles$Device", "load", "(I[I)V"⟩ prog_4_method_5_code (3) none : Cond) ∈ TT := tt4 (List.mem_of_getElem? (i := 185) rfl) rfl
theorem q4_186 : (Cond.methodLink "FlashFiles$Cleaner" (93) ⟨"FlashFiles$Log", "drop", "(I)V"⟩ : Cond) ∈ TT := tt4 (List.mem_of_getElem? (i := 186) rfl) rfl
theorem q4_187 : (Cond.methodLink "FlashFiles$Cleaner" (96) ⟨"FlashFiles$Log", "putData", "([I)I"⟩ : Cond) ∈ TT := tt4 (List.mem_of_getElem? (i := 187) rfl) rfl
theorem q4_188 : (Cond.instanceMethod ⟨"FlashFiles$Log", "putData", "([I)I"⟩ : Cond) ∈ TT := tt4 (List.mem_of_getElem? (i := 188) rfl) rfl
theorem q4_189 : (Cond.selects "FlashFiles$Log" ⟨"FlashFiles$Log", "putData", "([I)I"⟩ ⟨"FlashFiles$Log", "putData", "([I)I"⟩ : Cond) ∈ TT := tt4 (List.mem_of_getElem? (i := 189) rfl) rfl
theorem q4_190 : (Cond.code ⟨"FlashFiles$Log", "putData", "([I)I"⟩ prog_7_method_22_code (3) (some .int) : Cond) ∈ TT := tt4 (List.mem_of_getElem? (i := 190) rfl) rfl
theorem q4_191 : (Cond.methodLink "FlashFiles$Cleaner" (100) ⟨"FlashFiles$Log", "putNode", "(I[II)V"⟩ : Cond) ∈ TT := tt4 (List.mem_of_getElem? (i := 191) rfl) rfl
theorem q4_200 : (Cond.classLink "FlashFiles" (119) "java/lang/IllegalStateException" : Cond) ∈ TT := tt4 (List.mem_of_getElem? (i := 200) rfl) rfl
theorem q4_201 : (Cond.instantiable "java/lang/IllegalStateException" (6) : Cond) ∈ TT := tt4 (List.mem_of_getElem? (i := 201) rfl) rfl
theorem q4_202 : (Cond.castable "java/lang/IllegalStateException" "java/lang/IllegalStateException" : Cond) ∈ TT := tt4 (List.mem_of_getElem? (i := 202) rfl) rfl
theorem q4_203 : (Cond.selects "java/lang/IllegalStateException" ⟨"java/lang/Throwable", "fillInStackTrace", "(I)Ljava/lang/Throwable;"⟩ ⟨"java/lang/Throwable", "fillInStackTrace", "(I)Ljava/lang/Throwable;"⟩ : Cond) ∈ TT := tt4 (List.mem_of_getElem? (i := 203) rfl) rfl
theorem q4_204 : (Cond.lays "java/lang/IllegalStateException" "java/lang/Throwable" "cause" "Ljava/lang/Throwable;" : Cond) ∈ TT := tt4 (List.mem_of_getElem? (i := 204) rfl) rfl
theorem q4_205 : (Cond.lays "java/lang/IllegalStateException" "java/lang/Throwable" "stackTrace" "[Ljava/lang/StackTraceElement;" : Cond) ∈ TT := tt4 (List.mem_of_getElem? (i := 205) rfl) rfl
theorem q4_206 : (Cond.lays "java/lang/IllegalStateException" "java/lang/Throwable" "suppressedExceptions" "Ljava/util/List;" : Cond) ∈ TT := tt4 (List.mem_of_getElem? (i := 206) rfl) rfl
theorem q4_207 : (Cond.lays "java/lang/IllegalStateException" "java/lang/Throwable" "detailMessage" "Ljava/lang/String;" : Cond) ∈ TT := tt4 (List.mem_of_getElem? (i := 207) rfl) rfl
theorem q4_208 : (Cond.lays "java/lang/IllegalStateException" "java/lang/Throwable" "backtrace" "Ljava/lang/Object;" : Cond) ∈ TT := tt4 (List.mem_of_getElem? (i := 208) rfl) rfl
theorem q4_210 : (Cond.methodLink "FlashFiles" (123) ⟨"java/lang/IllegalStateException", "<init>", "(Ljava/lang/String;)V"⟩ : Cond) ∈ TT := tt4 (List.mem_of_getElem? (i := 210) rfl) rfl
theorem q4_211 : (Cond.instanceMethod ⟨"java/lang/IllegalStateException", "<init>", "(Ljava/lang/String;)V"⟩ : Cond) ∈ TT := tt4 (List.mem_of_getElem? (i := 211) rfl) rfl
theorem q4_212 : (Cond.code ⟨"java/lang/IllegalStateException", "<init>", "(Ljava/lang/String;)V"⟩ prog_17_method_2_code (2) none : Cond) ∈ TT := tt4 (List.mem_of_getElem? (i := 212) rfl) rfl
theorem q4_213 : (Cond.methodLink "java/lang/IllegalStateException" (7) ⟨"java/lang/RuntimeException", "<init>", "(Ljava/lang/String;)V"⟩ : Cond) ∈ TT := tt4 (List.mem_of_getElem? (i := 213) rfl) rfl
theorem q4_216 : (Cond.methodLink "FlashFiles" (124) ⟨"FlashFiles$Row", "addWord", "(I)V"⟩ : Cond) ∈ TT := tt4 (List.mem_of_getElem? (i := 216) rfl) rfl
theorem q4_217 : (Cond.instanceMethod ⟨"FlashFiles$Row", "addWord", "(I)V"⟩ : Cond) ∈ TT := tt4 (List.mem_of_getElem? (i := 217) rfl) rfl
theorem q4_218 : (Cond.selects "FlashFiles$Row" ⟨"FlashFiles$Row", "addWord", "(I)V"⟩ ⟨"FlashFiles$Row", "addWord", "(I)V"⟩ : Cond) ∈ TT := tt4 (List.mem_of_getElem? (i := 218) rfl) rfl
theorem q4_219 : (Cond.code ⟨"FlashFiles$Row", "addWord", "(I)V"⟩ prog_8_method_6_code (3) none : Cond) ∈ TT := tt4 (List.mem_of_getElem? (i := 219) rfl) rfl
theorem q4_220 : (Cond.methodLink "FlashFiles$Row" (19) ⟨"FlashFiles$Row", "add", "(I)V"⟩ : Cond) ∈ TT := tt4 (List.mem_of_getElem? (i := 220) rfl) rfl
theorem q4_221 : (Cond.instanceMethod ⟨"FlashFiles$Row", "add", "(I)V"⟩ : Cond) ∈ TT := tt4 (List.mem_of_getElem? (i := 221) rfl) rfl
theorem q4_222 : (Cond.selects "FlashFiles$Row" ⟨"FlashFiles$Row", "add", "(I)V"⟩ ⟨"FlashFiles$Row", "add", "(I)V"⟩ : Cond) ∈ TT := tt4 (List.mem_of_getElem? (i := 222) rfl) rfl
theorem q4_223 : (Cond.code ⟨"FlashFiles$Row", "add", "(I)V"⟩ prog_8_method_5_code (2) none : Cond) ∈ TT := tt4 (List.mem_of_getElem? (i := 223) rfl) rfl
theorem q4_232 : (Cond.methodLink "FlashFiles" (130) ⟨"FlashFiles", "takeName", "(I)Z"⟩ : Cond) ∈ TT := tt4 (List.mem_of_getElem? (i := 232) rfl) rfl
theorem q4_234 : (Cond.instanceMethod ⟨"FlashFiles", "takeName", "(I)Z"⟩ : Cond) ∈ TT := tt4 (List.mem_of_getElem? (i := 234) rfl) rfl
theorem q4_235 : (Cond.code ⟨"FlashFiles", "takeName", "(I)Z"⟩ prog_1_method_34_code (3) (some .boolean) : Cond) ∈ TT := tt4 (List.mem_of_getElem? (i := 235) rfl) rfl
theorem q4_236 : (Cond.methodLink "FlashFiles" (204) ⟨"FlashFiles", "requirePower", "()V"⟩ : Cond) ∈ TT := tt4 (List.mem_of_getElem? (i := 236) rfl) rfl
theorem q4_238 : (Cond.instanceMethod ⟨"FlashFiles", "requirePower", "()V"⟩ : Cond) ∈ TT := tt4 (List.mem_of_getElem? (i := 238) rfl) rfl
theorem q4_239 : (Cond.code ⟨"FlashFiles", "requirePower", "()V"⟩ prog_1_method_26_code (1) none : Cond) ∈ TT := tt4 (List.mem_of_getElem? (i := 239) rfl) rfl
theorem q5_1 : (Cond.methodLink "FlashFiles" (308) ⟨"FlashFiles$Row", "packName", "(II[I)Z"⟩ : Cond) ∈ TT := tt5 (List.mem_of_getElem? (i := 1) rfl) rfl
theorem q5_2 : (Cond.instanceMethod ⟨"FlashFiles$Row", "packName", "(II[I)Z"⟩ : Cond) ∈ TT := tt5 (List.mem_of_getElem? (i := 2) rfl) rfl
theorem q5_3 : (Cond.selects "FlashFiles$Row" ⟨"FlashFiles$Row", "packName", "(II[I)Z"⟩ ⟨"FlashFiles$Row", "packName", "(II[I)Z"⟩ : Cond) ∈ TT := tt5 (List.mem_of_getElem? (i := 3) rfl) rfl
theorem q5_4 : (Cond.code ⟨"FlashFiles$Row", "packName", "(II[I)Z"⟩ prog_8_method_7_code (6) (some .boolean) : Cond) ∈ TT := tt5 (List.mem_of_getElem? (i := 4) rfl) rfl
theorem q5_5 : (Cond.methodLink "FlashFiles$Row" (23) ⟨"java/util/Arrays", "fill", "([II)V"⟩ : Cond) ∈ TT := tt5 (List.mem_of_getElem? (i := 5) rfl) rfl
theorem q5_6 : (Cond.methodLink "FlashFiles$Row" (29) ⟨"FlashFiles$Row", "at", "(I)I"⟩ : Cond) ∈ TT := tt5 (List.mem_of_getElem? (i := 6) rfl) rfl
theorem q5_7 : (Cond.instanceMethod ⟨"FlashFiles$Row", "at", "(I)I"⟩ : Cond) ∈ TT := tt5 (List.mem_of_getElem? (i := 7) rfl) rfl
theorem q5_8 : (Cond.selects "FlashFiles$Row" ⟨"FlashFiles$Row", "at", "(I)I"⟩ ⟨"FlashFiles$Row", "at", "(I)I"⟩ : Cond) ∈ TT := tt5 (List.mem_of_getElem? (i := 8) rfl) rfl
theorem q5_9 : (Cond.code ⟨"FlashFiles$Row", "at", "(I)I"⟩ prog_8_method_3_code (2) (some .int) : Cond) ∈ TT := tt5 (List.mem_of_getElem? (i := 9) rfl) rfl
theorem q5_10 : (Cond.methodLinkNest "FlashFiles$Row" (33) ⟨"FlashFiles", "putByte", "([IIII)V"⟩ "FlashFiles" : Cond) ∈ TT := tt5 (List.mem_of_getElem? (i := 10) rfl) rfl
theorem q5_11 : (Cond.static ⟨"FlashFiles", "putByte", "([IIII)V"⟩ : Cond) ∈ TT := tt5 (List.mem_of_getElem? (i := 11) rfl) rfl
theorem q5_12 : (Cond.code ⟨"FlashFiles", "putByte", "([IIII)V"⟩ prog_1_method_49_code (6) none : Cond) ∈ TT := tt5 (List.mem_of_getElem? (i := 12) rfl) rfl
theorem q5_13 : (Cond.methodLink "FlashFiles" (134) ⟨"FlashFiles", "requireNewName", "(IZ)V"⟩ : Cond) ∈ TT := tt5 (List.mem_of_getElem? (i := 13) rfl) rfl
theorem q5_15 : (Cond.instanceMethod ⟨"FlashFiles", "requireNewName", "(IZ)V"⟩ : Cond) ∈ TT := tt5 (List.mem_of_getElem? (i := 15) rfl) rfl
theorem q5_16 : (Cond.code ⟨"FlashFiles", "requireNewName", "(IZ)V"⟩ prog_1_method_29_code (3) none : Cond) ∈ TT := tt5 (List.mem_of_getElem? (i := 16) rfl) rfl
theorem q5_17 : (Cond.methodLink "FlashFiles" (159) ⟨"FlashFiles", "requireNamed", "(IZ)V"⟩ : Cond) ∈ TT := tt5 (List.mem_of_getElem? (i := 17) rfl) rfl
theorem q5_19 : (Cond.instanceMethod ⟨"FlashFiles", "requireNamed", "(IZ)V"⟩ : Cond) ∈ TT := tt5 (List.mem_of_getElem? (i := 19) rfl) rfl
theorem q5_20 : (Cond.code ⟨"FlashFiles", "requireNamed", "(IZ)V"⟩ prog_1_method_28_code (3) none : Cond) ∈ TT := tt5 (List.mem_of_getElem? (i := 20) rfl) rfl
theorem q5_21 : (Cond.methodLink "FlashFiles" (240) ⟨"FlashFiles$Tree", "kindOf", "(I)I"⟩ : Cond) ∈ TT := tt5 (List.mem_of_getElem? (i := 21) rfl) rfl
theorem q5_23 : (Cond.methodLink "FlashFiles" (187) ⟨"FlashFiles$Tree", "slotOf", "(I[I)I"⟩ : Cond) ∈ TT := tt5 (List.mem_of_getElem? (i := 23) rfl) rfl
theorem q5_24 : (Cond.instanceMethod ⟨"FlashFiles$Tree", "slotOf", "(I[I)I"⟩ : Cond) ∈ TT := tt5 (List.mem_of_getElem? (i := 24) rfl) rfl
theorem q5_25 : (Cond.selects "FlashFiles$Tree" ⟨"FlashFiles$Tree", "slotOf", "(I[I)I"⟩ ⟨"FlashFiles$Tree", "slotOf", "(I[I)I"⟩ : Cond) ∈ TT := tt5 (List.mem_of_getElem? (i := 25) rfl) rfl
theorem q5_26 : (Cond.code ⟨"FlashFiles$Tree", "slotOf", "(I[I)I"⟩ prog_10_method_16_code (8) (some .int) : Cond) ∈ TT := tt5 (List.mem_of_getElem? (i := 26) rfl) rfl
theorem q5_27 : (Cond.methodLinkNest "FlashFiles$Tree" (94) ⟨"FlashFiles", "hashOf", "([II)I"⟩ "FlashFiles" : Cond) ∈ TT := tt5 (List.mem_of_getElem? (i := 27) rfl) rfl
theorem q5_28 : (Cond.static ⟨"FlashFiles", "hashOf", "([II)I"⟩ : Cond) ∈ TT := tt5 (List.mem_of_getElem? (i := 28) rfl) rfl
theorem q5_29 : (Cond.code ⟨"FlashFiles", "hashOf", "([II)I"⟩ prog_1_method_47_code (4) (some .int) : Cond) ∈ TT := tt5 (List.mem_of_getElem? (i := 29) rfl) rfl
theorem q5_30 : (Cond.constant "FlashFiles" (336) (-1640531535) : Cond) ∈ TT := tt5 (List.mem_of_getElem? (i := 30) rfl) rfl
theorem q5_31 : (Cond.methodLink "FlashFiles$Tree" (91) ⟨"FlashFiles$Tree", "slotWord", "(II)I"⟩ : Cond) ∈ TT := tt5 (List.mem_of_getElem? (i := 31) rfl) rfl
theorem q5_33 : (Cond.instanceMethod ⟨"FlashFiles$Tree", "slotWord", "(II)I"⟩ : Cond) ∈ TT := tt5 (List.mem_of_getElem? (i := 33) rfl) rfl
theorem q5_34 : (Cond.code ⟨"FlashFiles$Tree", "slotWord", "(II)I"⟩ prog_10_method_14_code (3) (some .int) : Cond) ∈ TT := tt5 (List.mem_of_getElem? (i := 34) rfl) rfl
theorem q5_35 : (Cond.methodLink "FlashFiles$Tree" (98) ⟨"FlashFiles$Tree", "isName", "(I[I)Z"⟩ : Cond) ∈ TT := tt5 (List.mem_of_getElem? (i := 35) rfl) rfl
theorem q5_37 : (Cond.instanceMethod ⟨"FlashFiles$Tree", "isName", "(I[I)Z"⟩ : Cond) ∈ TT := tt5 (List.mem_of_getElem? (i := 37) rfl) rfl
theorem q5_38 : (Cond.code ⟨"FlashFiles$Tree", "isName", "(I[I)Z"⟩ prog_10_method_17_code (4) (some .boolean) : Cond) ∈ TT := tt5 (List.mem_of_getElem? (i := 38) rfl) rfl
theorem q5_39 : (Cond.methodLink "FlashFiles" (175) ⟨"FlashFiles$Tree", "wordOf", "(II)I"⟩ : Cond) ∈ TT := tt5 (List.mem_of_getElem? (i := 39) rfl) rfl
theorem q5_41 : (Cond.methodLink "FlashFiles" (138) ⟨"FlashFiles", "requireNewId", "()V"⟩ : Cond) ∈ TT := tt5 (List.mem_of_getElem? (i := 41) rfl) rfl
theorem q5_43 : (Cond.instanceMethod ⟨"FlashFiles", "requireNewId", "()V"⟩ : Cond) ∈ TT := tt5 (List.mem_of_getElem? (i := 43) rfl) rfl
theorem q5_44 : (Cond.code ⟨"FlashFiles", "requireNewId", "()V"⟩ prog_1_method_30_code (1) none : Cond) ∈ TT := tt5 (List.mem_of_getElem? (i := 44) rfl) rfl
theorem q5_45 : (Cond.methodLink "FlashFiles" (288) ⟨"FlashFiles$Table", "lowestId", "()I"⟩ : Cond) ∈ TT := tt5 (List.mem_of_getElem? (i := 45) rfl) rfl
theorem q5_46 : (Cond.instanceMethod ⟨"FlashFiles$Table", "lowestId", "()I"⟩ : Cond) ∈ TT := tt5 (List.mem_of_getElem? (i := 46) rfl) rfl
theorem q5_47 : (Cond.selects "FlashFiles$Table" ⟨"FlashFiles$Table", "lowestId", "()I"⟩ ⟨"FlashFiles$Table", "lowestId", "()I"⟩ : Cond) ∈ TT := tt5 (List.mem_of_getElem? (i := 47) rfl) rfl
theorem q5_48 : (Cond.code ⟨"FlashFiles$Table", "lowestId", "()I"⟩ prog_9_method_4_code (2) (some .int) : Cond) ∈ TT := tt5 (List.mem_of_getElem? (i := 48) rfl) rfl
theorem q5_50 : (Cond.methodLink "FlashFiles" (141) ⟨"FlashFiles", "reserve", "(I)V"⟩ : Cond) ∈ TT := tt5 (List.mem_of_getElem? (i := 50) rfl) rfl
theorem q5_52 : (Cond.instanceMethod ⟨"FlashFiles", "reserve", "(I)V"⟩ : Cond) ∈ TT := tt5 (List.mem_of_getElem? (i := 52) rfl) rfl
theorem q5_53 : (Cond.code ⟨"FlashFiles", "reserve", "(I)V"⟩ prog_1_method_36_code (2) none : Cond) ∈ TT := tt5 (List.mem_of_getElem? (i := 53) rfl) rfl
theorem q5_54 : (Cond.methodLink "FlashFiles" (312) ⟨"FlashFiles$Checkpoints", "fits", "(I)Z"⟩ : Cond) ∈ TT := tt5 (List.mem_of_getElem? (i := 54) rfl) rfl
theorem q5_55 : (Cond.instanceMethod ⟨"FlashFiles$Checkpoints", "fits", "(I)Z"⟩ : Cond) ∈ TT := tt5 (List.mem_of_getElem? (i := 55) rfl) rfl
theorem q5_56 : (Cond.selects "FlashFiles$Checkpoints" ⟨"FlashFiles$Checkpoints", "fits", "(I)Z"⟩ ⟨"FlashFiles$Checkpoints", "fits", "(I)Z"⟩ : Cond) ∈ TT := tt5 (List.mem_of_getElem? (i := 56) rfl) rfl
theorem q5_57 : (Cond.code ⟨"FlashFiles$Checkpoints", "fits", "(I)Z"⟩ prog_2_method_5_code (2) (some .boolean) : Cond) ∈ TT := tt5 (List.mem_of_getElem? (i := 57) rfl) rfl
theorem q5_58 : (Cond.methodLink "FlashFiles" (230) ⟨"FlashFiles", "failAtCut", "(Z)V"⟩ : Cond) ∈ TT := tt5 (List.mem_of_getElem? (i := 58) rfl) rfl
theorem q5_60 : (Cond.instanceMethod ⟨"FlashFiles", "failAtCut", "(Z)V"⟩ : Cond) ∈ TT := tt5 (List.mem_of_getElem? (i := 60) rfl) rfl
theorem q5_61 : (Cond.code ⟨"FlashFiles", "failAtCut", "(Z)V"⟩ prog_1_method_37_code (2) none : Cond) ∈ TT := tt5 (List.mem_of_getElem? (i := 61) rfl) rfl
theorem q5_62 : (Cond.methodLink "FlashFiles" (320) ⟨"FlashFiles$Checkpoints", "storePart", "(I)V"⟩ : Cond) ∈ TT := tt5 (List.mem_of_getElem? (i := 62) rfl) rfl
theorem q5_63 : (Cond.instanceMethod ⟨"FlashFiles$Checkpoints", "storePart", "(I)V"⟩ : Cond) ∈ TT := tt5 (List.mem_of_getElem? (i := 63) rfl) rfl
theorem q5_64 : (Cond.selects "FlashFiles$Checkpoints" ⟨"FlashFiles$Checkpoints", "storePart", "(I)V"⟩ ⟨"FlashFiles$Checkpoints", "storePart", "(I)V"⟩ : Cond) ∈ TT := tt5 (List.mem_of_getElem? (i := 64) rfl) rfl
theorem q5_65 : (Cond.code ⟨"FlashFiles$Checkpoints", "storePart", "(I)V"⟩ prog_2_method_14_code (2) none : Cond) ∈ TT := tt5 (List.mem_of_getElem? (i := 65) rfl) rfl
theorem q5_66 : (Cond.methodLink "FlashFiles$Checkpoints" (133) ⟨"java/lang/Math", "min", "(II)I"⟩ : Cond) ∈ TT := tt5 (List.mem_of_getElem? (i := 66) rfl) rfl
theorem q5_67 : (Cond.methodLink "FlashFiles" (266) ⟨"FlashFiles", "losePower", "()V"⟩ : Cond) ∈ TT := tt5 (List.mem_of_getElem? (i := 67) rfl) rfl
theorem q5_69 : (Cond.instanceMethod ⟨"FlashFiles", "losePower", "()V"⟩ : Cond) ∈ TT := tt5 (List.mem_of_getElem? (i := 69) rfl) rfl
theorem q5_70 : (Cond.code ⟨"FlashFiles", "losePower", "()V"⟩ prog_1_method_38_code (1) none : Cond) ∈ TT := tt5 (List.mem_of_getElem? (i := 70) rfl) rfl
theorem q5_71 : (Cond.methodLink "FlashFiles" (328) ⟨"FlashFiles$Table", "forget", "()V"⟩ : Cond) ∈ TT := tt5 (List.mem_of_getElem? (i := 71) rfl) rfl
theorem q5_72 : (Cond.methodLink "FlashFiles" (331) ⟨"FlashFiles$Log", "forget", "()V"⟩ : Cond) ∈ TT := tt5 (List.mem_of_getElem? (i := 72) rfl) rfl
theorem q5_73 : (Cond.methodLink "FlashFiles" (332) ⟨"FlashFiles$Checkpoints", "forget", "()V"⟩ : Cond) ∈ TT := tt5 (List.mem_of_getElem? (i := 73) rfl) rfl
theorem q5_74 : (Cond.classLink "FlashFiles" (323) "java/lang/UnsupportedOperationException" : Cond) ∈ TT := tt5 (List.mem_of_getElem? (i := 74) rfl) rfl
theorem q5_75 : (Cond.instantiable "java/lang/UnsupportedOperationException" (6) : Cond) ∈ TT := tt5 (List.mem_of_getElem? (i := 75) rfl) rfl
theorem q5_76 : (Cond.castable "java/lang/UnsupportedOperationException" "java/lang/UnsupportedOperationException" : Cond) ∈ TT := tt5 (List.mem_of_getElem? (i := 76) rfl) rfl
theorem q5_77 : (Cond.selects "java/lang/UnsupportedOperationException" ⟨"java/lang/Throwable", "fillInStackTrace", "(I)Ljava/lang/Throwable;"⟩ ⟨"java/lang/Throwable", "fillInStackTrace", "(I)Ljava/lang/Throwable;"⟩ : Cond) ∈ TT := tt5 (List.mem_of_getElem? (i := 77) rfl) rfl
theorem q5_78 : (Cond.lays "java/lang/UnsupportedOperationException" "java/lang/Throwable" "cause" "Ljava/lang/Throwable;" : Cond) ∈ TT := tt5 (List.mem_of_getElem? (i := 78) rfl) rfl
theorem q5_79 : (Cond.lays "java/lang/UnsupportedOperationException" "java/lang/Throwable" "stackTrace" "[Ljava/lang/StackTraceElement;" : Cond) ∈ TT := tt5 (List.mem_of_getElem? (i := 79) rfl) rfl
theorem q5_80 : (Cond.lays "java/lang/UnsupportedOperationException" "java/lang/Throwable" "suppressedExceptions" "Ljava/util/List;" : Cond) ∈ TT := tt5 (List.mem_of_getElem? (i := 80) rfl) rfl
theorem q5_81 : (Cond.lays "java/lang/UnsupportedOperationException" "java/lang/Throwable" "detailMessage" "Ljava/lang/String;" : Cond) ∈ TT := tt5 (List.mem_of_getElem? (i := 81) rfl) rfl
theorem q5_82 : (Cond.lays "java/lang/UnsupportedOperationException" "java/lang/Throwable" "backtrace" "Ljava/lang/Object;" : Cond) ∈ TT := tt5 (List.mem_of_getElem? (i := 82) rfl) rfl
theorem q5_84 : (Cond.methodLink "FlashFiles" (327) ⟨"java/lang/UnsupportedOperationException", "<init>", "(Ljava/lang/String;)V"⟩ : Cond) ∈ TT := tt5 (List.mem_of_getElem? (i := 84) rfl) rfl
theorem q5_85 : (Cond.instanceMethod ⟨"java/lang/UnsupportedOperationException", "<init>", "(Ljava/lang/String;)V"⟩ : Cond) ∈ TT := tt5 (List.mem_of_getElem? (i := 85) rfl) rfl
theorem q5_86 : (Cond.code ⟨"java/lang/UnsupportedOperationException", "<init>", "(Ljava/lang/String;)V"⟩ prog_27_method_2_code (2) none : Cond) ∈ TT := tt5 (List.mem_of_getElem? (i := 86) rfl) rfl
theorem q5_87 : (Cond.methodLink "java/lang/UnsupportedOperationException" (7) ⟨"java/lang/RuntimeException", "<init>", "(Ljava/lang/String;)V"⟩ : Cond) ∈ TT := tt5 (List.mem_of_getElem? (i := 87) rfl) rfl
theorem q5_91 : (Cond.methodLink "FlashFiles" (317) ⟨"FlashFiles$Checkpoints", "addFresh", "(I)V"⟩ : Cond) ∈ TT := tt5 (List.mem_of_getElem? (i := 91) rfl) rfl
theorem q5_92 : (Cond.instanceMethod ⟨"FlashFiles$Checkpoints", "addFresh", "(I)V"⟩ : Cond) ∈ TT := tt5 (List.mem_of_getElem? (i := 92) rfl) rfl
theorem q5_93 : (Cond.selects "FlashFiles$Checkpoints" ⟨"FlashFiles$Checkpoints", "addFresh", "(I)V"⟩ ⟨"FlashFiles$Checkpoints", "addFresh", "(I)V"⟩ : Cond) ∈ TT := tt5 (List.mem_of_getElem? (i := 93) rfl) rfl
theorem q5_94 : (Cond.code ⟨"FlashFiles$Checkpoints", "addFresh", "(I)V"⟩ prog_2_method_6_code (2) none : Cond) ∈ TT := tt5 (List.mem_of_getElem? (i := 94) rfl) rfl
theorem q5_95 : (Cond.methodLink "FlashFiles" (144) ⟨"FlashFiles$Tree", "addNew", "(I[II)I"⟩ : Cond) ∈ TT := tt5 (List.mem_of_getElem? (i := 95) rfl) rfl
theorem q5_96 : (Cond.instanceMethod ⟨"FlashFiles$Tree", "addNew", "(I[II)I"⟩ : Cond) ∈ TT := tt5 (List.mem_of_getElem? (i := 96) rfl) rfl
theorem q5_97 : (Cond.selects "FlashFiles$Tree" ⟨"FlashFiles$Tree", "addNew", "(I[II)I"⟩ ⟨"FlashFiles$Tree", "addNew", "(I[II)I"⟩ : Cond) ∈ TT := tt5 (List.mem_of_getElem? (i := 97) rfl) rfl
theorem q5_98 : (Cond.code ⟨"FlashFiles$Tree", "addNew", "(I[II)I"⟩ prog_10_method_8_code (5) (some .int) : Cond) ∈ TT := tt5 (List.mem_of_getElem? (i := 98) rfl) rfl
theorem q5_99 : (Cond.methodLink "FlashFiles$Tree" (61) ⟨"FlashFiles$Table", "lowestId", "()I"⟩ : Cond) ∈ TT := tt5 (List.mem_of_getElem? (i := 99) rfl) rfl
theorem q5_100 : (Cond.methodLink "FlashFiles$Tree" (65) ⟨"FlashFiles$Table", "stir", "(I)V"⟩ : Cond) ∈ TT := tt5 (List.mem_of_getElem? (i := 100) rfl) rfl
theorem q5_101 : (Cond.instanceMethod ⟨"FlashFiles$Table", "stir", "(I)V"⟩ : Cond) ∈ TT := tt5 (List.mem_of_getElem? (i := 101) rfl) rfl
theorem q5_102 : (Cond.selects "FlashFiles$Table" ⟨"FlashFiles$Table", "stir", "(I)V"⟩ ⟨"FlashFiles$Table", "stir", "(I)V"⟩ : Cond) ∈ TT := tt5 (List.mem_of_getElem? (i := 102) rfl) rfl
theorem q5_103 : (Cond.code ⟨"FlashFiles$Table", "stir", "(I)V"⟩ prog_9_method_8_code (2) none : Cond) ∈ TT := tt5 (List.mem_of_getElem? (i := 103) rfl) rfl
theorem q5_104 : (Cond.methodLink "FlashFiles$Tree" (69) ⟨"FlashFiles$Tree", "addName", "(I[II)V"⟩ : Cond) ∈ TT := tt5 (List.mem_of_getElem? (i := 104) rfl) rfl
theorem q5_105 : (Cond.instanceMethod ⟨"FlashFiles$Tree", "addName", "(I[II)V"⟩ : Cond) ∈ TT := tt5 (List.mem_of_getElem? (i := 105) rfl) rfl
theorem q5_106 : (Cond.selects "FlashFiles$Tree" ⟨"FlashFiles$Tree", "addName", "(I[II)V"⟩ ⟨"FlashFiles$Tree", "addName", "(I[II)V"⟩ : Cond) ∈ TT := tt5 (List.mem_of_getElem? (i := 106) rfl) rfl
theorem q5_107 : (Cond.code ⟨"FlashFiles$Tree", "addName", "(I[II)V"⟩ prog_10_method_18_code (7) none : Cond) ∈ TT := tt5 (List.mem_of_getElem? (i := 107) rfl) rfl
theorem q5_108 : (Cond.methodLink "FlashFiles$Tree" (102) ⟨"java/lang/System", "arraycopy", "(Ljava/lang/Object;ILjava/lang/Object;II)V"⟩ : Cond) ∈ TT := tt5 (List.mem_of_getElem? (i := 108) rfl) rfl
theorem q5_109 : (Cond.methodLink "FlashFiles$Tree" (84) ⟨"FlashFiles$Device", "load", "(I[I)V"⟩ : Cond) ∈ TT := tt5 (List.mem_of_getElem? (i := 109) rfl) rfl
theorem q5_110 : (Cond.methodLink "FlashFiles$Tree" (108) ⟨"FlashFiles$Log", "putData", "([I)I"⟩ : Cond) ∈ TT := tt5 (List.mem_of_getElem? (i := 110) rfl) rfl
theorem q5_125 : (Cond.methodLink "FlashFiles" (148) ⟨"FlashFiles", "requireFile", "(I)V"⟩ : Cond) ∈ TT := tt5 (List.mem_of_getElem? (i := 125) rfl) rfl
theorem q5_127 : (Cond.instanceMethod ⟨"FlashFiles", "requireFile", "(I)V"⟩ : Cond) ∈ TT := tt5 (List.mem_of_getElem? (i := 127) rfl) rfl
theorem q5_128 : (Cond.code ⟨"FlashFiles", "requireFile", "(I)V"⟩ prog_1_method_27_code (2) none : Cond) ∈ TT := tt5 (List.mem_of_getElem? (i := 128) rfl) rfl
theorem q5_130 : (Cond.methodLink "FlashFiles" (151) ⟨"FlashFiles$Tree", "addName", "(I[II)V"⟩ : Cond) ∈ TT := tt5 (List.mem_of_getElem? (i := 130) rfl) rfl
theorem q5_131 : (Cond.methodLink "FlashFiles" (155) ⟨"FlashFiles$Tree", "changeLinks", "(II)I"⟩ : Cond) ∈ TT := tt5 (List.mem_of_getElem? (i := 131) rfl) rfl
theorem q5_132 : (Cond.instanceMethod ⟨"FlashFiles$Tree", "changeLinks", "(II)I"⟩ : Cond) ∈ TT := tt5 (List.mem_of_getElem? (i := 132) rfl) rfl
theorem q5_133 : (Cond.selects "FlashFiles$Tree" ⟨"FlashFiles$Tree", "changeLinks", "(II)I"⟩ ⟨"FlashFiles$Tree", "changeLinks", "(II)I"⟩ : Cond) ∈ TT := tt5 (List.mem_of_getElem? (i := 133) rfl) rfl
theorem q5_134 : (Cond.code ⟨"FlashFiles$Tree", "changeLinks", "(II)I"⟩ prog_10_method_11_code (4) (some .int) : Cond) ∈ TT := tt5 (List.mem_of_getElem? (i := 134) rfl) rfl
theorem q5_135 : (Cond.methodLink "FlashFiles$Tree" (88) ⟨"FlashFiles$Tree", "putWord", "(III)V"⟩ : Cond) ∈ TT := tt5 (List.mem_of_getElem? (i := 135) rfl) rfl
theorem q5_137 : (Cond.instanceMethod ⟨"FlashFiles$Tree", "putWord", "(III)V"⟩ : Cond) ∈ TT := tt5 (List.mem_of_getElem? (i := 137) rfl) rfl
theorem q5_138 : (Cond.code ⟨"FlashFiles$Tree", "putWord", "(III)V"⟩ prog_10_method_10_code (4) none : Cond) ∈ TT := tt5 (List.mem_of_getElem? (i := 138) rfl) rfl
theorem q5_146 : (Cond.methodLink "FlashFiles" (162) ⟨"FlashFiles", "requireOld", "(II)I"⟩ : Cond) ∈ TT := tt5 (List.mem_of_getElem? (i := 146) rfl) rfl
theorem q5_148 : (Cond.instanceMethod ⟨"FlashFiles", "requireOld", "(II)I"⟩ : Cond) ∈ TT := tt5 (List.mem_of_getElem? (i := 148) rfl) rfl
theorem q5_149 : (Cond.code ⟨"FlashFiles", "requireOld", "(II)I"⟩ prog_1_method_31_code (4) (some .int) : Cond) ∈ TT := tt5 (List.mem_of_getElem? (i := 149) rfl) rfl
theorem q5_150 : (Cond.methodLink "FlashFiles" (165) ⟨"FlashFiles$Tree", "idIn", "(II)I"⟩ : Cond) ∈ TT := tt5 (List.mem_of_getElem? (i := 150) rfl) rfl
theorem q5_151 : (Cond.instanceMethod ⟨"FlashFiles$Tree", "idIn", "(II)I"⟩ : Cond) ∈ TT := tt5 (List.mem_of_getElem? (i := 151) rfl) rfl
theorem q5_152 : (Cond.selects "FlashFiles$Tree" ⟨"FlashFiles$Tree", "idIn", "(II)I"⟩ ⟨"FlashFiles$Tree", "idIn", "(II)I"⟩ : Cond) ∈ TT := tt5 (List.mem_of_getElem? (i := 152) rfl) rfl
theorem q5_153 : (Cond.code ⟨"FlashFiles$Tree", "idIn", "(II)I"⟩ prog_10_method_15_code (4) (some .int) : Cond) ∈ TT := tt5 (List.mem_of_getElem? (i := 153) rfl) rfl
theorem q5_155 : (Cond.methodLink "FlashFiles" (168) ⟨"FlashFiles$Tree", "dropName", "(II)V"⟩ : Cond) ∈ TT := tt5 (List.mem_of_getElem? (i := 155) rfl) rfl
theorem q5_156 : (Cond.instanceMethod ⟨"FlashFiles$Tree", "dropName", "(II)V"⟩ : Cond) ∈ TT := tt5 (List.mem_of_getElem? (i := 156) rfl) rfl
theorem q5_157 : (Cond.selects "FlashFiles$Tree" ⟨"FlashFiles$Tree", "dropName", "(II)V"⟩ ⟨"FlashFiles$Tree", "dropName", "(II)V"⟩ : Cond) ∈ TT := tt5 (List.mem_of_getElem? (i := 157) rfl) rfl
theorem q5_158 : (Cond.code ⟨"FlashFiles$Tree", "dropName", "(II)V"⟩ prog_10_method_19_code (3) none : Cond) ∈ TT := tt5 (List.mem_of_getElem? (i := 158) rfl) rfl
theorem q5_159 : (Cond.methodLink "FlashFiles$Tree" (112) ⟨"FlashFiles$Log", "drop", "(I)V"⟩ : Cond) ∈ TT := tt5 (List.mem_of_getElem? (i := 159) rfl) rfl
theorem q5_160 : (Cond.methodLink "FlashFiles" (171) ⟨"FlashFiles", "loseLink", "(I)I"⟩ : Cond) ∈ TT := tt5 (List.mem_of_getElem? (i := 160) rfl) rfl
theorem q5_162 : (Cond.instanceMethod ⟨"FlashFiles", "loseLink", "(I)I"⟩ : Cond) ∈ TT := tt5 (List.mem_of_getElem? (i := 162) rfl) rfl
theorem q5_163 : (Cond.code ⟨"FlashFiles", "loseLink", "(I)I"⟩ prog_1_method_40_code (2) (some .int) : Cond) ∈ TT := tt5 (List.mem_of_getElem? (i := 163) rfl) rfl
theorem q5_164 : (Cond.methodLink "FlashFiles" (333) ⟨"FlashFiles$Files", "drop", "(I)V"⟩ : Cond) ∈ TT := tt5 (List.mem_of_getElem? (i := 164) rfl) rfl
theorem q5_165 : (Cond.instanceMethod ⟨"FlashFiles$Files", "drop", "(I)V"⟩ : Cond) ∈ TT := tt5 (List.mem_of_getElem? (i := 165) rfl) rfl
theorem q5_166 : (Cond.selects "FlashFiles$Files" ⟨"FlashFiles$Files", "drop", "(I)V"⟩ ⟨"FlashFiles$Files", "drop", "(I)V"⟩ : Cond) ∈ TT := tt5 (List.mem_of_getElem? (i := 166) rfl) rfl
theorem q5_167 : (Cond.code ⟨"FlashFiles$Files", "drop", "(I)V"⟩ prog_5_method_6_code (5) none : Cond) ∈ TT := tt5 (List.mem_of_getElem? (i := 167) rfl) rfl
theorem q5_168 : (Cond.methodLink "FlashFiles$Files" (114) ⟨"FlashFiles$Table", "placeOf", "(I)I"⟩ : Cond) ∈ TT := tt5 (List.mem_of_getElem? (i := 168) rfl) rfl
theorem q5_169 : (Cond.methodLink "FlashFiles$Files" (117) ⟨"FlashFiles$Device", "word", "(II)I"⟩ : Cond) ∈ TT := tt5 (List.mem_of_getElem? (i := 169) rfl) rfl
theorem q5_170 : (Cond.methodLink "FlashFiles$Files" (122) ⟨"FlashFiles$Files", "dropWithData", "(I)V"⟩ : Cond) ∈ TT := tt5 (List.mem_of_getElem? (i := 170) rfl) rfl
theorem q5_172 : (Cond.instanceMethod ⟨"FlashFiles$Files", "dropWithData", "(I)V"⟩ : Cond) ∈ TT := tt5 (List.mem_of_getElem? (i := 172) rfl) rfl
theorem q5_173 : (Cond.code ⟨"FlashFiles$Files", "dropWithData", "(I)V"⟩ prog_5_method_7_code (7) none : Cond) ∈ TT := tt5 (List.mem_of_getElem? (i := 173) rfl) rfl
theorem q5_174 : (Cond.methodLinkNest "FlashFiles$Files" (128) ⟨"FlashFiles", "pointersFrom", "(I)I"⟩ "FlashFiles" : Cond) ∈ TT := tt5 (List.mem_of_getElem? (i := 174) rfl) rfl
theorem q5_175 : (Cond.methodLinkNest "FlashFiles$Files" (131) ⟨"FlashFiles", "pointersIn", "(II)I"⟩ "FlashFiles" : Cond) ∈ TT := tt5 (List.mem_of_getElem? (i := 175) rfl) rfl
theorem q5_176 : (Cond.methodLink "FlashFiles$Files" (134) ⟨"FlashFiles$Log", "drop", "(I)V"⟩ : Cond) ∈ TT := tt5 (List.mem_of_getElem? (i := 176) rfl) rfl
theorem q5_177 : (Cond.methodLink "FlashFiles$Files" (137) ⟨"FlashFiles$Log", "dropNode", "(I)V"⟩ : Cond) ∈ TT := tt5 (List.mem_of_getElem? (i := 177) rfl) rfl
theorem q5_178 : (Cond.instanceMethod ⟨"FlashFiles$Log", "dropNode", "(I)V"⟩ : Cond) ∈ TT := tt5 (List.mem_of_getElem? (i := 178) rfl) rfl
theorem q5_179 : (Cond.selects "FlashFiles$Log" ⟨"FlashFiles$Log", "dropNode", "(I)V"⟩ ⟨"FlashFiles$Log", "dropNode", "(I)V"⟩ : Cond) ∈ TT := tt5 (List.mem_of_getElem? (i := 179) rfl) rfl
theorem q5_180 : (Cond.code ⟨"FlashFiles$Log", "dropNode", "(I)V"⟩ prog_7_method_20_code (2) none : Cond) ∈ TT := tt5 (List.mem_of_getElem? (i := 180) rfl) rfl
theorem q5_181 : (Cond.methodLink "FlashFiles$Files" (125) ⟨"FlashFiles$Table", "stir", "(I)V"⟩ : Cond) ∈ TT := tt5 (List.mem_of_getElem? (i := 181) rfl) rfl
theorem q5_190 : (Cond.methodLink "FlashFiles" (180) ⟨"FlashFiles$Log", "dropNode", "(I)V"⟩ : Cond) ∈ TT := tt5 (List.mem_of_getElem? (i := 190) rfl) rfl
theorem q5_198 : (Cond.methodLink "FlashFiles" (183) ⟨"FlashFiles", "takeTwoNames", "(II)Z"⟩ : Cond) ∈ TT := tt5 (List.mem_of_getElem? (i := 198) rfl) rfl
theorem q5_200 : (Cond.instanceMethod ⟨"FlashFiles", "takeTwoNames", "(II)Z"⟩ : Cond) ∈ TT := tt5 (List.mem_of_getElem? (i := 200) rfl) rfl
theorem q5_201 : (Cond.code ⟨"FlashFiles", "takeTwoNames", "(II)Z"⟩ prog_1_method_35_code (4) (some .boolean) : Cond) ∈ TT := tt5 (List.mem_of_getElem? (i := 201) rfl) rfl
theorem q5_202 : (Cond.methodLink "FlashFiles" (191) ⟨"FlashFiles", "requireMovable", "(II)V"⟩ : Cond) ∈ TT := tt5 (List.mem_of_getElem? (i := 202) rfl) rfl
theorem q5_204 : (Cond.instanceMethod ⟨"FlashFiles", "requireMovable", "(II)V"⟩ : Cond) ∈ TT := tt5 (List.mem_of_getElem? (i := 204) rfl) rfl
theorem q5_205 : (Cond.code ⟨"FlashFiles", "requireMovable", "(II)V"⟩ prog_1_method_32_code (4) none : Cond) ∈ TT := tt5 (List.mem_of_getElem? (i := 205) rfl) rfl
theorem q5_209 : (Cond.methodLink "FlashFiles" (194) ⟨"FlashFiles", "requireTarget", "(IIII)V"⟩ : Cond) ∈ TT := tt5 (List.mem_of_getElem? (i := 209) rfl) rfl
theorem q5_211 : (Cond.instanceMethod ⟨"FlashFiles", "requireTarget", "(IIII)V"⟩ : Cond) ∈ TT := tt5 (List.mem_of_getElem? (i := 211) rfl) rfl
theorem q5_212 : (Cond.code ⟨"FlashFiles", "requireTarget", "(IIII)V"⟩ prog_1_method_33_code (5) none : Cond) ∈ TT := tt5 (List.mem_of_getElem? (i := 212) rfl) rfl
theorem q5_214 : (Cond.methodLink "FlashFiles" (303) ⟨"FlashFiles$Tree", "isWithin", "(II)Z"⟩ : Cond) ∈ TT := tt5 (List.mem_of_getElem? (i := 214) rfl) rfl
theorem q5_215 : (Cond.instanceMethod ⟨"FlashFiles$Tree", "isWithin", "(II)Z"⟩ : Cond) ∈ TT := tt5 (List.mem_of_getElem? (i := 215) rfl) rfl
theorem q5_216 : (Cond.selects "FlashFiles$Tree" ⟨"FlashFiles$Tree", "isWithin", "(II)Z"⟩ ⟨"FlashFiles$Tree", "isWithin", "(II)Z"⟩ : Cond) ∈ TT := tt5 (List.mem_of_getElem? (i := 216) rfl) rfl
theorem q5_217 : (Cond.code ⟨"FlashFiles$Tree", "isWithin", "(II)Z"⟩ prog_10_method_13_code (5) (some .boolean) : Cond) ∈ TT := tt5 (List.mem_of_getElem? (i := 217) rfl) rfl
theorem q5_219 : (Cond.methodLink "FlashFiles" (198) ⟨"FlashFiles", "lose", "(I)V"⟩ : Cond) ∈ TT := tt5 (List.mem_of_getElem? (i := 219) rfl) rfl
theorem q5_221 : (Cond.instanceMethod ⟨"FlashFiles", "lose", "(I)V"⟩ : Cond) ∈ TT := tt5 (List.mem_of_getElem? (i := 221) rfl) rfl
theorem q5_222 : (Cond.code ⟨"FlashFiles", "lose", "(I)V"⟩ prog_1_method_39_code (2) none : Cond) ∈ TT := tt5 (List.mem_of_getElem? (i := 222) rfl) rfl
theorem q5_223 : (Cond.methodLink "FlashFiles" (201) ⟨"FlashFiles$Tree", "moved", "(II)V"⟩ : Cond) ∈ TT := tt5 (List.mem_of_getElem? (i := 223) rfl) rfl
theorem q5_224 : (Cond.instanceMethod ⟨"FlashFiles$Tree", "moved", "(II)V"⟩ : Cond) ∈ TT := tt5 (List.mem_of_getElem? (i := 224) rfl) rfl
theorem q5_225 : (Cond.selects "FlashFiles$Tree" ⟨"FlashFiles$Tree", "moved", "(II)V"⟩ ⟨"FlashFiles$Tree", "moved", "(II)V"⟩ : Cond) ∈ TT := tt5 (List.mem_of_getElem? (i := 225) rfl) rfl
theorem q5_226 : (Cond.code ⟨"FlashFiles$Tree", "moved", "(II)V"⟩ prog_10_method_12_code (3) none : Cond) ∈ TT := tt5 (List.mem_of_getElem? (i := 226) rfl) rfl
theorem q6_1 : (Cond.constant "FlashFiles" (207) (100000) : Cond) ∈ TT := tt6 (List.mem_of_getElem? (i := 1) rfl) rfl
theorem q6_3 : (Cond.methodLink "FlashFiles" (210) ⟨"FlashFiles$Files", "putBytes", "(IIILFlashFiles$Row;)I"⟩ : Cond) ∈ TT := tt6 (List.mem_of_getElem? (i := 3) rfl) rfl
theorem q6_4 : (Cond.instanceMethod ⟨"FlashFiles$Files", "putBytes", "(IIILFlashFiles$Row;)I"⟩ : Cond) ∈ TT := tt6 (List.mem_of_getElem? (i := 4) rfl) rfl
theorem q6_5 : (Cond.selects "FlashFiles$Files" ⟨"FlashFiles$Files", "putBytes", "(IIILFlashFiles$Row;)I"⟩ ⟨"FlashFiles$Files", "putBytes", "(IIILFlashFiles$Row;)I"⟩ : Cond) ∈ TT := tt6 (List.mem_of_getElem? (i := 5) rfl) rfl
theorem q6_6 : (Cond.code ⟨"FlashFiles$Files", "putBytes", "(IIILFlashFiles$Row;)I"⟩ prog_5_method_2_code (7) (some .int) : Cond) ∈ TT := tt6 (List.mem_of_getElem? (i := 6) rfl) rfl
theorem q6_7 : (Cond.methodLink "FlashFiles$Files" (36) ⟨"FlashFiles$Files", "begin", "(I)V"⟩ : Cond) ∈ TT := tt6 (List.mem_of_getElem? (i := 7) rfl) rfl
theorem q6_9 : (Cond.instanceMethod ⟨"FlashFiles$Files", "begin", "(I)V"⟩ : Cond) ∈ TT := tt6 (List.mem_of_getElem? (i := 9) rfl) rfl
theorem q6_10 : (Cond.code ⟨"FlashFiles$Files", "begin", "(I)V"⟩ prog_5_method_8_code (2) none : Cond) ∈ TT := tt6 (List.mem_of_getElem? (i := 10) rfl) rfl
theorem q6_11 : (Cond.methodLink "FlashFiles$Files" (154) ⟨"FlashFiles$Device", "load", "(I[I)V"⟩ : Cond) ∈ TT := tt6 (List.mem_of_getElem? (i := 11) rfl) rfl
theorem q6_12 : (Cond.methodLink "FlashFiles$Files" (158) ⟨"FlashFiles$Files", "loadNode", "(I[I)V"⟩ : Cond) ∈ TT := tt6 (List.mem_of_getElem? (i := 12) rfl) rfl
theorem q6_14 : (Cond.instanceMethod ⟨"FlashFiles$Files", "loadNode", "(I[I)V"⟩ : Cond) ∈ TT := tt6 (List.mem_of_getElem? (i := 14) rfl) rfl
theorem q6_15 : (Cond.code ⟨"FlashFiles$Files", "loadNode", "(I[I)V"⟩ prog_5_method_12_code (3) none : Cond) ∈ TT := tt6 (List.mem_of_getElem? (i := 15) rfl) rfl
theorem q6_16 : (Cond.methodLink "FlashFiles$Files" (167) ⟨"java/util/Arrays", "fill", "([II)V"⟩ : Cond) ∈ TT := tt6 (List.mem_of_getElem? (i := 16) rfl) rfl
theorem q6_17 : (Cond.methodLink "FlashFiles$Files" (40) ⟨"FlashFiles$Row", "at", "(I)I"⟩ : Cond) ∈ TT := tt6 (List.mem_of_getElem? (i := 17) rfl) rfl
theorem q6_18 : (Cond.methodLinkNest "FlashFiles$Files" (46) ⟨"FlashFiles", "putByte", "([IIII)V"⟩ "FlashFiles" : Cond) ∈ TT := tt6 (List.mem_of_getElem? (i := 18) rfl) rfl
theorem q6_19 : (Cond.methodLink "FlashFiles$Files" (50) ⟨"FlashFiles$Files", "leaveSmall", "()V"⟩ : Cond) ∈ TT := tt6 (List.mem_of_getElem? (i := 19) rfl) rfl
theorem q6_21 : (Cond.instanceMethod ⟨"FlashFiles$Files", "leaveSmall", "()V"⟩ : Cond) ∈ TT := tt6 (List.mem_of_getElem? (i := 21) rfl) rfl
theorem q6_22 : (Cond.code ⟨"FlashFiles$Files", "leaveSmall", "()V"⟩ prog_5_method_19_code (1) none : Cond) ∈ TT := tt6 (List.mem_of_getElem? (i := 22) rfl) rfl
theorem q6_23 : (Cond.methodLink "FlashFiles$Files" (191) ⟨"java/lang/System", "arraycopy", "(Ljava/lang/Object;ILjava/lang/Object;II)V"⟩ : Cond) ∈ TT := tt6 (List.mem_of_getElem? (i := 23) rfl) rfl
theorem q6_24 : (Cond.methodLink "FlashFiles$Files" (102) ⟨"FlashFiles$Files", "clearFrom", "([IIII)V"⟩ : Cond) ∈ TT := tt6 (List.mem_of_getElem? (i := 24) rfl) rfl
theorem q6_26 : (Cond.instanceMethod ⟨"FlashFiles$Files", "clearFrom", "([IIII)V"⟩ : Cond) ∈ TT := tt6 (List.mem_of_getElem? (i := 26) rfl) rfl
theorem q6_27 : (Cond.code ⟨"FlashFiles$Files", "clearFrom", "([IIII)V"⟩ prog_5_method_24_code (6) none : Cond) ∈ TT := tt6 (List.mem_of_getElem? (i := 27) rfl) rfl
theorem q6_28 : (Cond.methodLink "FlashFiles$Files" (60) ⟨"FlashFiles$Log", "putData", "([I)I"⟩ : Cond) ∈ TT := tt6 (List.mem_of_getElem? (i := 28) rfl) rfl
theorem q6_29 : (Cond.methodLink "FlashFiles$Files" (53) ⟨"FlashFiles$Files", "turnTo", "(I)V"⟩ : Cond) ∈ TT := tt6 (List.mem_of_getElem? (i := 29) rfl) rfl
theorem q6_31 : (Cond.instanceMethod ⟨"FlashFiles$Files", "turnTo", "(I)V"⟩ : Cond) ∈ TT := tt6 (List.mem_of_getElem? (i := 31) rfl) rfl
theorem q6_32 : (Cond.code ⟨"FlashFiles$Files", "turnTo", "(I)V"⟩ prog_5_method_9_code (3) none : Cond) ∈ TT := tt6 (List.mem_of_getElem? (i := 32) rfl) rfl
theorem q6_33 : (Cond.methodLink "FlashFiles$Files" (161) ⟨"FlashFiles$Files", "closeNode", "()V"⟩ : Cond) ∈ TT := tt6 (List.mem_of_getElem? (i := 33) rfl) rfl
theorem q6_35 : (Cond.instanceMethod ⟨"FlashFiles$Files", "closeNode", "()V"⟩ : Cond) ∈ TT := tt6 (List.mem_of_getElem? (i := 35) rfl) rfl
theorem q6_36 : (Cond.code ⟨"FlashFiles$Files", "closeNode", "()V"⟩ prog_5_method_13_code (1) none : Cond) ∈ TT := tt6 (List.mem_of_getElem? (i := 36) rfl) rfl
theorem q6_37 : (Cond.methodLink "FlashFiles$Files" (164) ⟨"FlashFiles$Files", "numberOf", "(I)I"⟩ : Cond) ∈ TT := tt6 (List.mem_of_getElem? (i := 37) rfl) rfl
theorem q6_39 : (Cond.instanceMethod ⟨"FlashFiles$Files", "numberOf", "(I)I"⟩ : Cond) ∈ TT := tt6 (List.mem_of_getElem? (i := 39) rfl) rfl
theorem q6_40 : (Cond.code ⟨"FlashFiles$Files", "numberOf", "(I)I"⟩ prog_5_method_15_code (2) (some .int) : Cond) ∈ TT := tt6 (List.mem_of_getElem? (i := 40) rfl) rfl
theorem q6_41 : (Cond.methodLink "FlashFiles$Files" (173) ⟨"FlashFiles$Files", "storeNode", "(I[II)I"⟩ : Cond) ∈ TT := tt6 (List.mem_of_getElem? (i := 41) rfl) rfl
theorem q6_43 : (Cond.instanceMethod ⟨"FlashFiles$Files", "storeNode", "(I[II)I"⟩ : Cond) ∈ TT := tt6 (List.mem_of_getElem? (i := 43) rfl) rfl
theorem q6_44 : (Cond.code ⟨"FlashFiles$Files", "storeNode", "(I[II)I"⟩ prog_5_method_17_code (5) (some .int) : Cond) ∈ TT := tt6 (List.mem_of_getElem? (i := 44) rfl) rfl
theorem q6_45 : (Cond.methodLink "FlashFiles$Files" (184) ⟨"FlashFiles$Files", "isEmpty", "([I)Z"⟩ : Cond) ∈ TT := tt6 (List.mem_of_getElem? (i := 45) rfl) rfl
theorem q6_47 : (Cond.instanceMethod ⟨"FlashFiles$Files", "isEmpty", "([I)Z"⟩ : Cond) ∈ TT := tt6 (List.mem_of_getElem? (i := 47) rfl) rfl
theorem q6_48 : (Cond.code ⟨"FlashFiles$Files", "isEmpty", "([I)Z"⟩ prog_5_method_18_code (3) (some .boolean) : Cond) ∈ TT := tt6 (List.mem_of_getElem? (i := 48) rfl) rfl
theorem q6_49 : (Cond.methodLink "FlashFiles$Files" (188) ⟨"FlashFiles$Table", "giveNumber", "()I"⟩ : Cond) ∈ TT := tt6 (List.mem_of_getElem? (i := 49) rfl) rfl
theorem q6_50 : (Cond.instanceMethod ⟨"FlashFiles$Table", "giveNumber", "()I"⟩ : Cond) ∈ TT := tt6 (List.mem_of_getElem? (i := 50) rfl) rfl
theorem q6_51 : (Cond.selects "FlashFiles$Table" ⟨"FlashFiles$Table", "giveNumber", "()I"⟩ ⟨"FlashFiles$Table", "giveNumber", "()I"⟩ : Cond) ∈ TT := tt6 (List.mem_of_getElem? (i := 51) rfl) rfl
theorem q6_52 : (Cond.code ⟨"FlashFiles$Table", "giveNumber", "()I"⟩ prog_9_method_5_code (2) (some .int) : Cond) ∈ TT := tt6 (List.mem_of_getElem? (i := 52) rfl) rfl
theorem q6_53 : (Cond.methodLink "FlashFiles$Files" (180) ⟨"FlashFiles$Log", "putNode", "(I[II)V"⟩ : Cond) ∈ TT := tt6 (List.mem_of_getElem? (i := 53) rfl) rfl
theorem q6_54 : (Cond.methodLink "FlashFiles$Files" (177) ⟨"FlashFiles$Files", "setNumber", "(II)V"⟩ : Cond) ∈ TT := tt6 (List.mem_of_getElem? (i := 54) rfl) rfl
theorem q6_56 : (Cond.instanceMethod ⟨"FlashFiles$Files", "setNumber", "(II)V"⟩ : Cond) ∈ TT := tt6 (List.mem_of_getElem? (i := 56) rfl) rfl
theorem q6_57 : (Cond.code ⟨"FlashFiles$Files", "setNumber", "(II)V"⟩ prog_5_method_16_code (3) none : Cond) ∈ TT := tt6 (List.mem_of_getElem? (i := 57) rfl) rfl
theorem q6_58 : (Cond.methodLink "FlashFiles$Files" (56) ⟨"FlashFiles$Files", "fillBlock", "(IIILFlashFiles$Row;)V"⟩ : Cond) ∈ TT := tt6 (List.mem_of_getElem? (i := 58) rfl) rfl
theorem q6_60 : (Cond.instanceMethod ⟨"FlashFiles$Files", "fillBlock", "(IIILFlashFiles$Row;)V"⟩ : Cond) ∈ TT := tt6 (List.mem_of_getElem? (i := 60) rfl) rfl
theorem q6_61 : (Cond.code ⟨"FlashFiles$Files", "fillBlock", "(IIILFlashFiles$Row;)V"⟩ prog_5_method_20_code (9) none : Cond) ∈ TT := tt6 (List.mem_of_getElem? (i := 61) rfl) rfl
theorem q6_62 : (Cond.methodLink "FlashFiles$Files" (92) ⟨"FlashFiles$Files", "placeOf", "(I)I"⟩ : Cond) ∈ TT := tt6 (List.mem_of_getElem? (i := 62) rfl) rfl
theorem q6_64 : (Cond.instanceMethod ⟨"FlashFiles$Files", "placeOf", "(I)I"⟩ : Cond) ∈ TT := tt6 (List.mem_of_getElem? (i := 64) rfl) rfl
theorem q6_65 : (Cond.code ⟨"FlashFiles$Files", "placeOf", "(I)I"⟩ prog_5_method_10_code (2) (some .int) : Cond) ∈ TT := tt6 (List.mem_of_getElem? (i := 65) rfl) rfl
theorem q6_66 : (Cond.methodLink "FlashFiles$Files" (95) ⟨"FlashFiles$Files", "loadBlock", "(I)V"⟩ : Cond) ∈ TT := tt6 (List.mem_of_getElem? (i := 66) rfl) rfl
theorem q6_68 : (Cond.instanceMethod ⟨"FlashFiles$Files", "loadBlock", "(I)V"⟩ : Cond) ∈ TT := tt6 (List.mem_of_getElem? (i := 68) rfl) rfl
theorem q6_69 : (Cond.code ⟨"FlashFiles$Files", "loadBlock", "(I)V"⟩ prog_5_method_21_code (2) none : Cond) ∈ TT := tt6 (List.mem_of_getElem? (i := 69) rfl) rfl
theorem q6_70 : (Cond.methodLink "FlashFiles$Files" (82) ⟨"java/lang/Math", "min", "(II)I"⟩ : Cond) ∈ TT := tt6 (List.mem_of_getElem? (i := 70) rfl) rfl
theorem q6_71 : (Cond.methodLink "FlashFiles$Files" (70) ⟨"java/lang/Math", "max", "(II)I"⟩ : Cond) ∈ TT := tt6 (List.mem_of_getElem? (i := 71) rfl) rfl
theorem q6_72 : (Cond.methodLink "FlashFiles$Files" (66) ⟨"FlashFiles$Files", "setPlace", "(II)V"⟩ : Cond) ∈ TT := tt6 (List.mem_of_getElem? (i := 72) rfl) rfl
theorem q6_74 : (Cond.instanceMethod ⟨"FlashFiles$Files", "setPlace", "(II)V"⟩ : Cond) ∈ TT := tt6 (List.mem_of_getElem? (i := 74) rfl) rfl
theorem q6_75 : (Cond.code ⟨"FlashFiles$Files", "setPlace", "(II)V"⟩ prog_5_method_11_code (3) none : Cond) ∈ TT := tt6 (List.mem_of_getElem? (i := 75) rfl) rfl
theorem q6_76 : (Cond.methodLink "FlashFiles$Files" (76) ⟨"FlashFiles$Files", "finish", "(I)V"⟩ : Cond) ∈ TT := tt6 (List.mem_of_getElem? (i := 76) rfl) rfl
theorem q6_78 : (Cond.instanceMethod ⟨"FlashFiles$Files", "finish", "(I)V"⟩ : Cond) ∈ TT := tt6 (List.mem_of_getElem? (i := 78) rfl) rfl
theorem q6_79 : (Cond.code ⟨"FlashFiles$Files", "finish", "(I)V"⟩ prog_5_method_14_code (2) none : Cond) ∈ TT := tt6 (List.mem_of_getElem? (i := 79) rfl) rfl
theorem q6_87 : (Cond.methodLink "FlashFiles" (214) ⟨"FlashFiles$Files", "tellBytes", "(IIILFlashFiles$Row;)I"⟩ : Cond) ∈ TT := tt6 (List.mem_of_getElem? (i := 87) rfl) rfl
theorem q6_88 : (Cond.instanceMethod ⟨"FlashFiles$Files", "tellBytes", "(IIILFlashFiles$Row;)I"⟩ : Cond) ∈ TT := tt6 (List.mem_of_getElem? (i := 88) rfl) rfl
theorem q6_89 : (Cond.selects "FlashFiles$Files" ⟨"FlashFiles$Files", "tellBytes", "(IIILFlashFiles$Row;)I"⟩ ⟨"FlashFiles$Files", "tellBytes", "(IIILFlashFiles$Row;)I"⟩ : Cond) ∈ TT := tt6 (List.mem_of_getElem? (i := 89) rfl) rfl
theorem q6_90 : (Cond.code ⟨"FlashFiles$Files", "tellBytes", "(IIILFlashFiles$Row;)I"⟩ prog_5_method_3_code (7) (some .int) : Cond) ∈ TT := tt6 (List.mem_of_getElem? (i := 90) rfl) rfl
theorem q6_91 : (Cond.methodLink "FlashFiles$Files" (79) ⟨"FlashFiles$Row", "setLength", "(I)V"⟩ : Cond) ∈ TT := tt6 (List.mem_of_getElem? (i := 91) rfl) rfl
theorem q6_92 : (Cond.methodLinkNest "FlashFiles$Files" (85) ⟨"FlashFiles", "getByte", "([III)I"⟩ "FlashFiles" : Cond) ∈ TT := tt6 (List.mem_of_getElem? (i := 92) rfl) rfl
theorem q6_93 : (Cond.static ⟨"FlashFiles", "getByte", "([III)I"⟩ : Cond) ∈ TT := tt6 (List.mem_of_getElem? (i := 93) rfl) rfl
theorem q6_94 : (Cond.code ⟨"FlashFiles", "getByte", "([III)I"⟩ prog_1_method_48_code (3) (some .int) : Cond) ∈ TT := tt6 (List.mem_of_getElem? (i := 94) rfl) rfl
theorem q6_95 : (Cond.methodLink "FlashFiles$Files" (89) ⟨"FlashFiles$Row", "add", "(I)V"⟩ : Cond) ∈ TT := tt6 (List.mem_of_getElem? (i := 95) rfl) rfl
theorem q6_96 : (Cond.methodLink "FlashFiles$Files" (98) ⟨"FlashFiles$Row", "length", "()I"⟩ : Cond) ∈ TT := tt6 (List.mem_of_getElem? (i := 96) rfl) rfl
theorem q6_105 : (Cond.methodLink "FlashFiles" (219) ⟨"FlashFiles$Row", "at", "(I)I"⟩ : Cond) ∈ TT := tt6 (List.mem_of_getElem? (i := 105) rfl) rfl
theorem q6_114 : (Cond.methodLink "FlashFiles" (224) ⟨"FlashFiles$Files", "resize", "(II)V"⟩ : Cond) ∈ TT := tt6 (List.mem_of_getElem? (i := 114) rfl) rfl
theorem q6_115 : (Cond.instanceMethod ⟨"FlashFiles$Files", "resize", "(II)V"⟩ : Cond) ∈ TT := tt6 (List.mem_of_getElem? (i := 115) rfl) rfl
theorem q6_116 : (Cond.selects "FlashFiles$Files" ⟨"FlashFiles$Files", "resize", "(II)V"⟩ ⟨"FlashFiles$Files", "resize", "(II)V"⟩ : Cond) ∈ TT := tt6 (List.mem_of_getElem? (i := 116) rfl) rfl
theorem q6_117 : (Cond.code ⟨"FlashFiles$Files", "resize", "(II)V"⟩ prog_5_method_4_code (5) none : Cond) ∈ TT := tt6 (List.mem_of_getElem? (i := 117) rfl) rfl
theorem q6_118 : (Cond.methodLink "FlashFiles$Files" (105) ⟨"FlashFiles$Files", "clearTail", "(I)V"⟩ : Cond) ∈ TT := tt6 (List.mem_of_getElem? (i := 118) rfl) rfl
theorem q6_120 : (Cond.instanceMethod ⟨"FlashFiles$Files", "clearTail", "(I)V"⟩ : Cond) ∈ TT := tt6 (List.mem_of_getElem? (i := 120) rfl) rfl
theorem q6_121 : (Cond.code ⟨"FlashFiles$Files", "clearTail", "(I)V"⟩ prog_5_method_22_code (4) none : Cond) ∈ TT := tt6 (List.mem_of_getElem? (i := 121) rfl) rfl
theorem q6_122 : (Cond.methodLinkNest "FlashFiles$Files" (108) ⟨"FlashFiles", "blocksBegun", "(I)I"⟩ "FlashFiles" : Cond) ∈ TT := tt6 (List.mem_of_getElem? (i := 122) rfl) rfl
theorem q6_123 : (Cond.methodLink "FlashFiles$Files" (111) ⟨"FlashFiles$Files", "cutBlock", "(I)V"⟩ : Cond) ∈ TT := tt6 (List.mem_of_getElem? (i := 123) rfl) rfl
theorem q6_125 : (Cond.instanceMethod ⟨"FlashFiles$Files", "cutBlock", "(I)V"⟩ : Cond) ∈ TT := tt6 (List.mem_of_getElem? (i := 125) rfl) rfl
theorem q6_126 : (Cond.code ⟨"FlashFiles$Files", "cutBlock", "(I)V"⟩ prog_5_method_23_code (3) none : Cond) ∈ TT := tt6 (List.mem_of_getElem? (i := 126) rfl) rfl
theorem q6_134 : (Cond.methodLink "FlashFiles" (227) ⟨"FlashFiles$Table", "isStirred", "(I)Z"⟩ : Cond) ∈ TT := tt6 (List.mem_of_getElem? (i := 134) rfl) rfl
theorem q6_135 : (Cond.instanceMethod ⟨"FlashFiles$Table", "isStirred", "(I)Z"⟩ : Cond) ∈ TT := tt6 (List.mem_of_getElem? (i := 135) rfl) rfl
theorem q6_136 : (Cond.selects "FlashFiles$Table" ⟨"FlashFiles$Table", "isStirred", "(I)Z"⟩ ⟨"FlashFiles$Table", "isStirred", "(I)Z"⟩ : Cond) ∈ TT := tt6 (List.mem_of_getElem? (i := 136) rfl) rfl
theorem q6_137 : (Cond.code ⟨"FlashFiles$Table", "isStirred", "(I)Z"⟩ prog_9_method_7_code (2) (some .boolean) : Cond) ∈ TT := tt6 (List.mem_of_getElem? (i := 137) rfl) rfl
theorem q6_138 : (Cond.methodLink "FlashFiles" (234) ⟨"FlashFiles$Files", "commitAlone", "(I)V"⟩ : Cond) ∈ TT := tt6 (List.mem_of_getElem? (i := 138) rfl) rfl
theorem q6_139 : (Cond.instanceMethod ⟨"FlashFiles$Files", "commitAlone", "(I)V"⟩ : Cond) ∈ TT := tt6 (List.mem_of_getElem? (i := 139) rfl) rfl
theorem q6_140 : (Cond.selects "FlashFiles$Files" ⟨"FlashFiles$Files", "commitAlone", "(I)V"⟩ ⟨"FlashFiles$Files", "commitAlone", "(I)V"⟩ : Cond) ∈ TT := tt6 (List.mem_of_getElem? (i := 140) rfl) rfl
theorem q6_141 : (Cond.code ⟨"FlashFiles$Files", "commitAlone", "(I)V"⟩ prog_5_method_5_code (2) none : Cond) ∈ TT := tt6 (List.mem_of_getElem? (i := 141) rfl) rfl
theorem q6_149 : (Cond.methodLink "FlashFiles" (237) ⟨"FlashFiles$Checkpoints", "taken", "()I"⟩ : Cond) ∈ TT := tt6 (List.mem_of_getElem? (i := 149) rfl) rfl
theorem q6_150 : (Cond.instanceMethod ⟨"FlashFiles$Checkpoints", "taken", "()I"⟩ : Cond) ∈ TT := tt6 (List.mem_of_getElem? (i := 150) rfl) rfl
theorem q6_151 : (Cond.selects "FlashFiles$Checkpoints" ⟨"FlashFiles$Checkpoints", "taken", "()I"⟩ ⟨"FlashFiles$Checkpoints", "taken", "()I"⟩ : Cond) ∈ TT := tt6 (List.mem_of_getElem? (i := 151) rfl) rfl
theorem q6_152 : (Cond.code ⟨"FlashFiles$Checkpoints", "taken", "()I"⟩ prog_2_method_4_code (1) (some .int) : Cond) ∈ TT := tt6 (List.mem_of_getElem? (i := 152) rfl) rfl
theorem q6_161 : (Cond.methodLink "FlashFiles" (245) ⟨"FlashFiles$Tree", "tellName", "(IILFlashFiles$Row;)I"⟩ : Cond) ∈ TT := tt6 (List.mem_of_getElem? (i := 161) rfl) rfl
theorem q6_162 : (Cond.instanceMethod ⟨"FlashFiles$Tree", "tellName", "(IILFlashFiles$Row;)I"⟩ : Cond) ∈ TT := tt6 (List.mem_of_getElem? (i := 162) rfl) rfl
theorem q6_163 : (Cond.selects "FlashFiles$Tree" ⟨"FlashFiles$Tree", "tellName", "(IILFlashFiles$Row;)I"⟩ ⟨"FlashFiles$Tree", "tellName", "(IILFlashFiles$Row;)I"⟩ : Cond) ∈ TT := tt6 (List.mem_of_getElem? (i := 163) rfl) rfl
theorem q6_164 : (Cond.code ⟨"FlashFiles$Tree", "tellName", "(IILFlashFiles$Row;)I"⟩ prog_10_method_20_code (8) (some .int) : Cond) ∈ TT := tt6 (List.mem_of_getElem? (i := 164) rfl) rfl
theorem q6_165 : (Cond.methodLink "FlashFiles$Tree" (115) ⟨"FlashFiles$Row", "setLength", "(I)V"⟩ : Cond) ∈ TT := tt6 (List.mem_of_getElem? (i := 165) rfl) rfl
theorem q6_166 : (Cond.methodLink "FlashFiles$Tree" (120) ⟨"FlashFiles$Tree", "namesBefore", "(I)I"⟩ : Cond) ∈ TT := tt6 (List.mem_of_getElem? (i := 166) rfl) rfl
theorem q6_168 : (Cond.instanceMethod ⟨"FlashFiles$Tree", "namesBefore", "(I)I"⟩ : Cond) ∈ TT := tt6 (List.mem_of_getElem? (i := 168) rfl) rfl
theorem q6_169 : (Cond.code ⟨"FlashFiles$Tree", "namesBefore", "(I)I"⟩ prog_10_method_21_code (4) (some .int) : Cond) ∈ TT := tt6 (List.mem_of_getElem? (i := 169) rfl) rfl
theorem q6_170 : (Cond.methodLink "FlashFiles$Tree" (138) ⟨"FlashFiles$Tree", "isBefore", "(II)Z"⟩ : Cond) ∈ TT := tt6 (List.mem_of_getElem? (i := 170) rfl) rfl
theorem q6_172 : (Cond.instanceMethod ⟨"FlashFiles$Tree", "isBefore", "(II)Z"⟩ : Cond) ∈ TT := tt6 (List.mem_of_getElem? (i := 172) rfl) rfl
theorem q6_173 : (Cond.code ⟨"FlashFiles$Tree", "isBefore", "(II)Z"⟩ prog_10_method_22_code (6) (some .boolean) : Cond) ∈ TT := tt6 (List.mem_of_getElem? (i := 173) rfl) rfl
theorem q6_174 : (Cond.constant "FlashFiles$Tree" (142) (-2147483648) : Cond) ∈ TT := tt6 (List.mem_of_getElem? (i := 174) rfl) rfl
theorem q6_175 : (Cond.methodLink "FlashFiles$Tree" (123) ⟨"java/lang/Math", "min", "(II)I"⟩ : Cond) ∈ TT := tt6 (List.mem_of_getElem? (i := 175) rfl) rfl
theorem q6_176 : (Cond.methodLinkNest "FlashFiles$Tree" (128) ⟨"FlashFiles", "getByte", "([III)I"⟩ "FlashFiles" : Cond) ∈ TT := tt6 (List.mem_of_getElem? (i := 176) rfl) rfl
theorem q6_177 : (Cond.methodLink "FlashFiles$Tree" (132) ⟨"FlashFiles$Row", "add", "(I)V"⟩ : Cond) ∈ TT := tt6 (List.mem_of_getElem? (i := 177) rfl) rfl
theorem q6_178 : (Cond.methodLink "FlashFiles$Tree" (135) ⟨"FlashFiles$Row", "length", "()I"⟩ : Cond) ∈ TT := tt6 (List.mem_of_getElem? (i := 178) rfl) rfl
theorem q6_187 : (Cond.methodLink "FlashFiles" (251) ⟨"FlashFiles$Tree", "blocksOf", "(I)I"⟩ : Cond) ∈ TT := tt6 (List.mem_of_getElem? (i := 187) rfl) rfl
theorem q6_195 : (Cond.methodLink "FlashFiles" (254) ⟨"FlashFiles$Tree", "blocksInUse", "()I"⟩ : Cond) ∈ TT := tt6 (List.mem_of_getElem? (i := 195) rfl) rfl
theorem q6_196 : (Cond.methodLink "FlashFiles" (257) ⟨"FlashFiles$Checkpoints", "used", "()I"⟩ : Cond) ∈ TT := tt6 (List.mem_of_getElem? (i := 196) rfl) rfl
theorem q6_197 : (Cond.instanceMethod ⟨"FlashFiles$Checkpoints", "used", "()I"⟩ : Cond) ∈ TT := tt6 (List.mem_of_getElem? (i := 197) rfl) rfl
theorem q6_198 : (Cond.selects "FlashFiles$Checkpoints" ⟨"FlashFiles$Checkpoints", "used", "()I"⟩ ⟨"FlashFiles$Checkpoints", "used", "()I"⟩ : Cond) ∈ TT := tt6 (List.mem_of_getElem? (i := 198) rfl) rfl
theorem q6_199 : (Cond.code ⟨"FlashFiles$Checkpoints", "used", "()I"⟩ prog_2_method_2_code (1) (some .int) : Cond) ∈ TT := tt6 (List.mem_of_getElem? (i := 199) rfl) rfl
theorem q6_200 : (Cond.methodLink "FlashFiles" (260) ⟨"FlashFiles$Checkpoints", "fresh", "()I"⟩ : Cond) ∈ TT := tt6 (List.mem_of_getElem? (i := 200) rfl) rfl
theorem q6_201 : (Cond.instanceMethod ⟨"FlashFiles$Checkpoints", "fresh", "()I"⟩ : Cond) ∈ TT := tt6 (List.mem_of_getElem? (i := 201) rfl) rfl
theorem q6_202 : (Cond.selects "FlashFiles$Checkpoints" ⟨"FlashFiles$Checkpoints", "fresh", "()I"⟩ ⟨"FlashFiles$Checkpoints", "fresh", "()I"⟩ : Cond) ∈ TT := tt6 (List.mem_of_getElem? (i := 202) rfl) rfl
theorem q6_203 : (Cond.code ⟨"FlashFiles$Checkpoints", "fresh", "()I"⟩ prog_2_method_3_code (1) (some .int) : Cond) ∈ TT := tt6 (List.mem_of_getElem? (i := 203) rfl) rfl
theorem q6_204 : (Cond.methodLink "FlashFiles" (263) ⟨"FlashFiles$Table", "idsInUse", "()I"⟩ : Cond) ∈ TT := tt6 (List.mem_of_getElem? (i := 204) rfl) rfl
theorem q6_205 : (Cond.instanceMethod ⟨"FlashFiles$Table", "idsInUse", "()I"⟩ : Cond) ∈ TT := tt6 (List.mem_of_getElem? (i := 205) rfl) rfl
theorem q6_206 : (Cond.selects "FlashFiles$Table" ⟨"FlashFiles$Table", "idsInUse", "()I"⟩ ⟨"FlashFiles$Table", "idsInUse", "()I"⟩ : Cond) ∈ TT := tt6 (List.mem_of_getElem? (i := 206) rfl) rfl
theorem q6_207 : (Cond.code ⟨"FlashFiles$Table", "idsInUse", "()I"⟩ prog_9_method_6_code (3) (some .int) : Cond) ∈ TT := tt6 (List.mem_of_getElem? (i := 207) rfl) rfl
theorem q6_230 : (Cond.methodLink "FlashFiles" (271) ⟨"FlashFiles$Checkpoints", "bringBack", "()I"⟩ : Cond) ∈ TT := tt6 (List.mem_of_getElem? (i := 230) rfl) rfl
theorem q6_231 : (Cond.instanceMethod ⟨"FlashFiles$Checkpoints", "bringBack", "()I"⟩ : Cond) ∈ TT := tt6 (List.mem_of_getElem? (i := 231) rfl) rfl
theorem q6_232 : (Cond.selects "FlashFiles$Checkpoints" ⟨"FlashFiles$Checkpoints", "bringBack", "()I"⟩ ⟨"FlashFiles$Checkpoints", "bringBack", "()I"⟩ : Cond) ∈ TT := tt6 (List.mem_of_getElem? (i := 232) rfl) rfl
theorem q6_233 : (Cond.code ⟨"FlashFiles$Checkpoints", "bringBack", "()I"⟩ prog_2_method_18_code (6) (some .int) : Cond) ∈ TT := tt6 (List.mem_of_getElem? (i := 233) rfl) rfl
theorem q6_234 : (Cond.methodLink "FlashFiles$Checkpoints" (158) ⟨"FlashFiles$Checkpoints", "wholeSerial", "(I)I"⟩ : Cond) ∈ TT := tt6 (List.mem_of_getElem? (i := 234) rfl) rfl
theorem q6_235 : (Cond.instanceMethod ⟨"FlashFiles$Checkpoints", "wholeSerial", "(I)I"⟩ : Cond) ∈ TT := tt6 (List.mem_of_getElem? (i := 235) rfl) rfl
theorem q6_236 : (Cond.selects "FlashFiles$Checkpoints" ⟨"FlashFiles$Checkpoints", "wholeSerial", "(I)I"⟩ ⟨"FlashFiles$Checkpoints", "wholeSerial", "(I)I"⟩ : Cond) ∈ TT := tt6 (List.mem_of_getElem? (i := 236) rfl) rfl
theorem q6_237 : (Cond.code ⟨"FlashFiles$Checkpoints", "wholeSerial", "(I)I"⟩ prog_2_method_17_code (4) (some .int) : Cond) ∈ TT := tt6 (List.mem_of_getElem? (i := 237) rfl) rfl
theorem q6_238 : (Cond.methodLink "FlashFiles$Checkpoints" (161) ⟨"FlashFiles$Table", "setPlace", "(II)V"⟩ : Cond) ∈ TT := tt6 (List.mem_of_getElem? (i := 238) rfl) rfl
theorem q6_239 : (Cond.methodLink "FlashFiles$Checkpoints" (164) ⟨"FlashFiles$Checkpoints", "findMarks", "(I)I"⟩ : Cond) ∈ TT := tt6 (List.mem_of_getElem? (i := 239) rfl) rfl
theorem q7_1 : (Cond.instanceMethod ⟨"FlashFiles$Checkpoints", "findMarks", "(I)I"⟩ : Cond) ∈ TT := tt7 (List.mem_of_getElem? (i := 1) rfl) rfl
theorem q7_2 : (Cond.code ⟨"FlashFiles$Checkpoints", "findMarks", "(I)I"⟩ prog_2_method_20_code (6) (some .int) : Cond) ∈ TT := tt7 (List.mem_of_getElem? (i := 2) rfl) rfl
theorem q7_3 : (Cond.methodLink "FlashFiles$Checkpoints" (179) ⟨"FlashFiles$Checkpoints", "goesOn", "(I)Z"⟩ : Cond) ∈ TT := tt7 (List.mem_of_getElem? (i := 3) rfl) rfl
theorem q7_5 : (Cond.instanceMethod ⟨"FlashFiles$Checkpoints", "goesOn", "(I)Z"⟩ : Cond) ∈ TT := tt7 (List.mem_of_getElem? (i := 5) rfl) rfl
theorem q7_6 : (Cond.code ⟨"FlashFiles$Checkpoints", "goesOn", "(I)Z"⟩ prog_2_method_19_code (3) (some .boolean) : Cond) ∈ TT := tt7 (List.mem_of_getElem? (i := 6) rfl) rfl
theorem q7_7 : (Cond.methodLinkNest "FlashFiles$Checkpoints" (176) ⟨"FlashFiles", "segmentOf", "(I)I"⟩ "FlashFiles" : Cond) ∈ TT := tt7 (List.mem_of_getElem? (i := 7) rfl) rfl
theorem q7_8 : (Cond.methodLink "FlashFiles$Checkpoints" (167) ⟨"FlashFiles$Checkpoints", "bringForward", "(I)V"⟩ : Cond) ∈ TT := tt7 (List.mem_of_getElem? (i := 8) rfl) rfl
theorem q7_10 : (Cond.instanceMethod ⟨"FlashFiles$Checkpoints", "bringForward", "(I)V"⟩ : Cond) ∈ TT := tt7 (List.mem_of_getElem? (i := 10) rfl) rfl
theorem q7_11 : (Cond.code ⟨"FlashFiles$Checkpoints", "bringForward", "(I)V"⟩ prog_2_method_21_code (4) none : Cond) ∈ TT := tt7 (List.mem_of_getElem? (i := 11) rfl) rfl
theorem q7_12 : (Cond.methodLink "FlashFiles$Checkpoints" (170) ⟨"FlashFiles$Checkpoints", "claimAll", "()V"⟩ : Cond) ∈ TT := tt7 (List.mem_of_getElem? (i := 12) rfl) rfl
theorem q7_14 : (Cond.instanceMethod ⟨"FlashFiles$Checkpoints", "claimAll", "()V"⟩ : Cond) ∈ TT := tt7 (List.mem_of_getElem? (i := 14) rfl) rfl
theorem q7_15 : (Cond.code ⟨"FlashFiles$Checkpoints", "claimAll", "()V"⟩ prog_2_method_22_code (5) none : Cond) ∈ TT := tt7 (List.mem_of_getElem? (i := 15) rfl) rfl
theorem q7_16 : (Cond.methodLink "FlashFiles$Checkpoints" (182) ⟨"FlashFiles$Table", "setAside", "()V"⟩ : Cond) ∈ TT := tt7 (List.mem_of_getElem? (i := 16) rfl) rfl
theorem q7_17 : (Cond.instanceMethod ⟨"FlashFiles$Table", "setAside", "()V"⟩ : Cond) ∈ TT := tt7 (List.mem_of_getElem? (i := 17) rfl) rfl
theorem q7_18 : (Cond.selects "FlashFiles$Table" ⟨"FlashFiles$Table", "setAside", "()V"⟩ ⟨"FlashFiles$Table", "setAside", "()V"⟩ : Cond) ∈ TT := tt7 (List.mem_of_getElem? (i := 18) rfl) rfl
theorem q7_19 : (Cond.code ⟨"FlashFiles$Table", "setAside", "()V"⟩ prog_9_method_12_code (1) none : Cond) ∈ TT := tt7 (List.mem_of_getElem? (i := 19) rfl) rfl
theorem q7_20 : (Cond.methodLink "FlashFiles$Table" (37) ⟨"java/util/Arrays", "fill", "([IIII)V"⟩ : Cond) ∈ TT := tt7 (List.mem_of_getElem? (i := 20) rfl) rfl
theorem q7_21 : (Cond.methodLink "FlashFiles$Checkpoints" (185) ⟨"FlashFiles$Table", "placeOf", "(I)I"⟩ : Cond) ∈ TT := tt7 (List.mem_of_getElem? (i := 21) rfl) rfl
theorem q7_22 : (Cond.methodLink "FlashFiles$Checkpoints" (188) ⟨"FlashFiles$Checkpoints", "claimNode", "(I)V"⟩ : Cond) ∈ TT := tt7 (List.mem_of_getElem? (i := 22) rfl) rfl
theorem q7_24 : (Cond.instanceMethod ⟨"FlashFiles$Checkpoints", "claimNode", "(I)V"⟩ : Cond) ∈ TT := tt7 (List.mem_of_getElem? (i := 24) rfl) rfl
theorem q7_25 : (Cond.code ⟨"FlashFiles$Checkpoints", "claimNode", "(I)V"⟩ prog_2_method_23_code (6) none : Cond) ∈ TT := tt7 (List.mem_of_getElem? (i := 25) rfl) rfl
theorem q7_26 : (Cond.methodLink "FlashFiles$Checkpoints" (194) ⟨"FlashFiles$Log", "claim", "(II)V"⟩ : Cond) ∈ TT := tt7 (List.mem_of_getElem? (i := 26) rfl) rfl
theorem q7_27 : (Cond.methodLinkNest "FlashFiles$Checkpoints" (197) ⟨"FlashFiles", "pointersFrom", "(I)I"⟩ "FlashFiles" : Cond) ∈ TT := tt7 (List.mem_of_getElem? (i := 27) rfl) rfl
theorem q7_28 : (Cond.methodLinkNest "FlashFiles$Checkpoints" (200) ⟨"FlashFiles", "pointersIn", "(II)I"⟩ "FlashFiles" : Cond) ∈ TT := tt7 (List.mem_of_getElem? (i := 28) rfl) rfl
theorem q7_29 : (Cond.methodLink "FlashFiles$Checkpoints" (191) ⟨"FlashFiles$Table", "takeUp", "(I)I"⟩ : Cond) ∈ TT := tt7 (List.mem_of_getElem? (i := 29) rfl) rfl
theorem q7_30 : (Cond.instanceMethod ⟨"FlashFiles$Table", "takeUp", "(I)I"⟩ : Cond) ∈ TT := tt7 (List.mem_of_getElem? (i := 30) rfl) rfl
theorem q7_31 : (Cond.selects "FlashFiles$Table" ⟨"FlashFiles$Table", "takeUp", "(I)I"⟩ ⟨"FlashFiles$Table", "takeUp", "(I)I"⟩ : Cond) ∈ TT := tt7 (List.mem_of_getElem? (i := 31) rfl) rfl
theorem q7_32 : (Cond.code ⟨"FlashFiles$Table", "takeUp", "(I)I"⟩ prog_9_method_13_code (2) (some .int) : Cond) ∈ TT := tt7 (List.mem_of_getElem? (i := 32) rfl) rfl
theorem q7_33 : (Cond.methodLink "FlashFiles$Checkpoints" (173) ⟨"FlashFiles$Log", "setFree", "(I)V"⟩ : Cond) ∈ TT := tt7 (List.mem_of_getElem? (i := 33) rfl) rfl
theorem q7_41 : (Cond.methodLink "FlashFiles" (274) ⟨"FlashFiles$Checkpoints", "cleanWithin", "()V"⟩ : Cond) ∈ TT := tt7 (List.mem_of_getElem? (i := 41) rfl) rfl
theorem q7_42 : (Cond.instanceMethod ⟨"FlashFiles$Checkpoints", "cleanWithin", "()V"⟩ : Cond) ∈ TT := tt7 (List.mem_of_getElem? (i := 42) rfl) rfl
theorem q7_43 : (Cond.selects "FlashFiles$Checkpoints" ⟨"FlashFiles$Checkpoints", "cleanWithin", "()V"⟩ ⟨"FlashFiles$Checkpoints", "cleanWithin", "()V"⟩ : Cond) ∈ TT := tt7 (List.mem_of_getElem? (i := 43) rfl) rfl
theorem q7_44 : (Cond.code ⟨"FlashFiles$Checkpoints", "cleanWithin", "()V"⟩ prog_2_method_12_code (2) none : Cond) ∈ TT := tt7 (List.mem_of_getElem? (i := 44) rfl) rfl
theorem q7_52 : (Cond.methodLink "FlashFiles" (277) ⟨"FlashFiles$Inspector", "inspect", "()I"⟩ : Cond) ∈ TT := tt7 (List.mem_of_getElem? (i := 52) rfl) rfl
theorem q7_53 : (Cond.instanceMethod ⟨"FlashFiles$Inspector", "inspect", "()I"⟩ : Cond) ∈ TT := tt7 (List.mem_of_getElem? (i := 53) rfl) rfl
theorem q7_54 : (Cond.selects "FlashFiles$Inspector" ⟨"FlashFiles$Inspector", "inspect", "()I"⟩ ⟨"FlashFiles$Inspector", "inspect", "()I"⟩ : Cond) ∈ TT := tt7 (List.mem_of_getElem? (i := 54) rfl) rfl
theorem q7_55 : (Cond.code ⟨"FlashFiles$Inspector", "inspect", "()I"⟩ prog_6_method_2_code (2) (some .int) : Cond) ∈ TT := tt7 (List.mem_of_getElem? (i := 55) rfl) rfl
theorem q7_56 : (Cond.methodLink "FlashFiles$Inspector" (37) ⟨"java/util/Arrays", "fill", "([II)V"⟩ : Cond) ∈ TT := tt7 (List.mem_of_getElem? (i := 56) rfl) rfl
theorem q7_57 : (Cond.methodLink "FlashFiles$Inspector" (43) ⟨"FlashFiles$Device", "spoiled", "()I"⟩ : Cond) ∈ TT := tt7 (List.mem_of_getElem? (i := 57) rfl) rfl
theorem q7_58 : (Cond.instanceMethod ⟨"FlashFiles$Device", "spoiled", "()I"⟩ : Cond) ∈ TT := tt7 (List.mem_of_getElem? (i := 58) rfl) rfl
theorem q7_59 : (Cond.selects "FlashFiles$Device" ⟨"FlashFiles$Device", "spoiled", "()I"⟩ ⟨"FlashFiles$Device", "spoiled", "()I"⟩ : Cond) ∈ TT := tt7 (List.mem_of_getElem? (i := 59) rfl) rfl
theorem q7_60 : (Cond.code ⟨"FlashFiles$Device", "spoiled", "()I"⟩ prog_4_method_4_code (1) (some .int) : Cond) ∈ TT := tt7 (List.mem_of_getElem? (i := 60) rfl) rfl
theorem q7_61 : (Cond.methodLink "FlashFiles$Inspector" (53) ⟨"FlashFiles$Table", "placeOf", "(I)I"⟩ : Cond) ∈ TT := tt7 (List.mem_of_getElem? (i := 61) rfl) rfl
theorem q7_62 : (Cond.methodLink "FlashFiles$Inspector" (59) ⟨"FlashFiles$Inspector", "inspectNode", "(II)V"⟩ : Cond) ∈ TT := tt7 (List.mem_of_getElem? (i := 62) rfl) rfl
theorem q7_64 : (Cond.instanceMethod ⟨"FlashFiles$Inspector", "inspectNode", "(II)V"⟩ : Cond) ∈ TT := tt7 (List.mem_of_getElem? (i := 64) rfl) rfl
theorem q7_65 : (Cond.code ⟨"FlashFiles$Inspector", "inspectNode", "(II)V"⟩ prog_6_method_6_code (8) none : Cond) ∈ TT := tt7 (List.mem_of_getElem? (i := 65) rfl) rfl
theorem q7_66 : (Cond.methodLink "FlashFiles$Inspector" (103) ⟨"FlashFiles$Device", "word", "(II)I"⟩ : Cond) ∈ TT := tt7 (List.mem_of_getElem? (i := 66) rfl) rfl
theorem q7_67 : (Cond.methodLink "FlashFiles$Inspector" (106) ⟨"FlashFiles$Inspector", "own", "(II)V"⟩ : Cond) ∈ TT := tt7 (List.mem_of_getElem? (i := 67) rfl) rfl
theorem q7_69 : (Cond.instanceMethod ⟨"FlashFiles$Inspector", "own", "(II)V"⟩ : Cond) ∈ TT := tt7 (List.mem_of_getElem? (i := 69) rfl) rfl
theorem q7_70 : (Cond.code ⟨"FlashFiles$Inspector", "own", "(II)V"⟩ prog_6_method_4_code (3) none : Cond) ∈ TT := tt7 (List.mem_of_getElem? (i := 70) rfl) rfl
theorem q7_71 : (Cond.methodLinkNest "FlashFiles$Inspector" (96) ⟨"FlashFiles", "segmentOf", "(I)I"⟩ "FlashFiles" : Cond) ∈ TT := tt7 (List.mem_of_getElem? (i := 71) rfl) rfl
theorem q7_72 : (Cond.methodLink "FlashFiles$Inspector" (99) ⟨"FlashFiles$Device", "isWritten", "(I)Z"⟩ : Cond) ∈ TT := tt7 (List.mem_of_getElem? (i := 72) rfl) rfl
theorem q7_73 : (Cond.instanceMethod ⟨"FlashFiles$Device", "isWritten", "(I)Z"⟩ : Cond) ∈ TT := tt7 (List.mem_of_getElem? (i := 73) rfl) rfl
theorem q7_74 : (Cond.selects "FlashFiles$Device" ⟨"FlashFiles$Device", "isWritten", "(I)Z"⟩ ⟨"FlashFiles$Device", "isWritten", "(I)Z"⟩ : Cond) ∈ TT := tt7 (List.mem_of_getElem? (i := 74) rfl) rfl
theorem q7_75 : (Cond.code ⟨"FlashFiles$Device", "isWritten", "(I)Z"⟩ prog_4_method_3_code (2) (some .boolean) : Cond) ∈ TT := tt7 (List.mem_of_getElem? (i := 75) rfl) rfl
theorem q7_76 : (Cond.methodLink "FlashFiles$Inspector" (92) ⟨"FlashFiles$Inspector", "expect", "(Z)V"⟩ : Cond) ∈ TT := tt7 (List.mem_of_getElem? (i := 76) rfl) rfl
theorem q7_78 : (Cond.instanceMethod ⟨"FlashFiles$Inspector", "expect", "(Z)V"⟩ : Cond) ∈ TT := tt7 (List.mem_of_getElem? (i := 78) rfl) rfl
theorem q7_79 : (Cond.code ⟨"FlashFiles$Inspector", "expect", "(Z)V"⟩ prog_6_method_3_code (2) none : Cond) ∈ TT := tt7 (List.mem_of_getElem? (i := 79) rfl) rfl
theorem q7_80 : (Cond.methodLinkNest "FlashFiles$Inspector" (109) ⟨"FlashFiles", "pointersFrom", "(I)I"⟩ "FlashFiles" : Cond) ∈ TT := tt7 (List.mem_of_getElem? (i := 80) rfl) rfl
theorem q7_81 : (Cond.methodLinkNest "FlashFiles$Inspector" (112) ⟨"FlashFiles", "pointersIn", "(II)I"⟩ "FlashFiles" : Cond) ∈ TT := tt7 (List.mem_of_getElem? (i := 81) rfl) rfl
theorem q7_82 : (Cond.methodLink "FlashFiles$Inspector" (115) ⟨"FlashFiles$Inspector", "inspectIndirect", "(II)V"⟩ : Cond) ∈ TT := tt7 (List.mem_of_getElem? (i := 82) rfl) rfl
theorem q7_84 : (Cond.instanceMethod ⟨"FlashFiles$Inspector", "inspectIndirect", "(II)V"⟩ : Cond) ∈ TT := tt7 (List.mem_of_getElem? (i := 84) rfl) rfl
theorem q7_85 : (Cond.code ⟨"FlashFiles$Inspector", "inspectIndirect", "(II)V"⟩ prog_6_method_7_code (5) none : Cond) ∈ TT := tt7 (List.mem_of_getElem? (i := 85) rfl) rfl
theorem q7_86 : (Cond.methodLink "FlashFiles$Inspector" (124) ⟨"FlashFiles$Inspector", "lead", "(I)V"⟩ : Cond) ∈ TT := tt7 (List.mem_of_getElem? (i := 86) rfl) rfl
theorem q7_88 : (Cond.instanceMethod ⟨"FlashFiles$Inspector", "lead", "(I)V"⟩ : Cond) ∈ TT := tt7 (List.mem_of_getElem? (i := 88) rfl) rfl
theorem q7_89 : (Cond.code ⟨"FlashFiles$Inspector", "lead", "(I)V"⟩ prog_6_method_5_code (2) none : Cond) ∈ TT := tt7 (List.mem_of_getElem? (i := 89) rfl) rfl
theorem q7_90 : (Cond.methodLink "FlashFiles$Inspector" (118) ⟨"FlashFiles$Inspector", "inspectDirectory", "(II)V"⟩ : Cond) ∈ TT := tt7 (List.mem_of_getElem? (i := 90) rfl) rfl
theorem q7_92 : (Cond.instanceMethod ⟨"FlashFiles$Inspector", "inspectDirectory", "(II)V"⟩ : Cond) ∈ TT := tt7 (List.mem_of_getElem? (i := 92) rfl) rfl
theorem q7_93 : (Cond.code ⟨"FlashFiles$Inspector", "inspectDirectory", "(II)V"⟩ prog_6_method_8_code (8) none : Cond) ∈ TT := tt7 (List.mem_of_getElem? (i := 93) rfl) rfl
theorem q7_94 : (Cond.methodLink "FlashFiles$Inspector" (127) ⟨"FlashFiles$Device", "load", "(I[I)V"⟩ : Cond) ∈ TT := tt7 (List.mem_of_getElem? (i := 94) rfl) rfl
theorem q7_95 : (Cond.methodLinkNest "FlashFiles$Inspector" (131) ⟨"FlashFiles", "hashOf", "([II)I"⟩ "FlashFiles" : Cond) ∈ TT := tt7 (List.mem_of_getElem? (i := 95) rfl) rfl
theorem q7_96 : (Cond.methodLink "FlashFiles$Inspector" (121) ⟨"FlashFiles$Inspector", "inspectFile", "(II)V"⟩ : Cond) ∈ TT := tt7 (List.mem_of_getElem? (i := 96) rfl) rfl
theorem q7_98 : (Cond.instanceMethod ⟨"FlashFiles$Inspector", "inspectFile", "(II)V"⟩ : Cond) ∈ TT := tt7 (List.mem_of_getElem? (i := 98) rfl) rfl
theorem q7_99 : (Cond.code ⟨"FlashFiles$Inspector", "inspectFile", "(II)V"⟩ prog_6_method_9_code (8) none : Cond) ∈ TT := tt7 (List.mem_of_getElem? (i := 99) rfl) rfl
theorem q7_100 : (Cond.constant "FlashFiles$Inspector" (135) (100000) : Cond) ∈ TT := tt7 (List.mem_of_getElem? (i := 100) rfl) rfl
theorem q7_101 : (Cond.methodLinkNest "FlashFiles$Inspector" (136) ⟨"FlashFiles", "blocksBegun", "(I)I"⟩ "FlashFiles" : Cond) ∈ TT := tt7 (List.mem_of_getElem? (i := 101) rfl) rfl
theorem q7_102 : (Cond.methodLink "FlashFiles$Inspector" (139) ⟨"FlashFiles$Inspector", "placeOfBlock", "(II)I"⟩ : Cond) ∈ TT := tt7 (List.mem_of_getElem? (i := 102) rfl) rfl
theorem q7_104 : (Cond.instanceMethod ⟨"FlashFiles$Inspector", "placeOfBlock", "(II)I"⟩ : Cond) ∈ TT := tt7 (List.mem_of_getElem? (i := 104) rfl) rfl
theorem q7_105 : (Cond.code ⟨"FlashFiles$Inspector", "placeOfBlock", "(II)I"⟩ prog_6_method_10_code (6) (some .int) : Cond) ∈ TT := tt7 (List.mem_of_getElem? (i := 105) rfl) rfl
theorem q7_106 : (Cond.methodLink "FlashFiles$Inspector" (63) ⟨"FlashFiles$Inspector", "inspectLed", "(II)V"⟩ : Cond) ∈ TT := tt7 (List.mem_of_getElem? (i := 106) rfl) rfl
theorem q7_108 : (Cond.instanceMethod ⟨"FlashFiles$Inspector", "inspectLed", "(II)V"⟩ : Cond) ∈ TT := tt7 (List.mem_of_getElem? (i := 108) rfl) rfl
theorem q7_109 : (Cond.code ⟨"FlashFiles$Inspector", "inspectLed", "(II)V"⟩ prog_6_method_11_code (4) none : Cond) ∈ TT := tt7 (List.mem_of_getElem? (i := 109) rfl) rfl
theorem q7_110 : (Cond.methodLink "FlashFiles$Inspector" (66) ⟨"FlashFiles$Log", "segments", "()I"⟩ : Cond) ∈ TT := tt7 (List.mem_of_getElem? (i := 110) rfl) rfl
theorem q7_111 : (Cond.methodLink "FlashFiles$Inspector" (71) ⟨"FlashFiles$Inspector", "inspectSegment", "(I)V"⟩ : Cond) ∈ TT := tt7 (List.mem_of_getElem? (i := 111) rfl) rfl
theorem q7_113 : (Cond.instanceMethod ⟨"FlashFiles$Inspector", "inspectSegment", "(I)V"⟩ : Cond) ∈ TT := tt7 (List.mem_of_getElem? (i := 113) rfl) rfl
theorem q7_114 : (Cond.code ⟨"FlashFiles$Inspector", "inspectSegment", "(I)V"⟩ prog_6_method_12_code (5) none : Cond) ∈ TT := tt7 (List.mem_of_getElem? (i := 114) rfl) rfl
theorem q7_115 : (Cond.methodLinkNest "FlashFiles$Inspector" (142) ⟨"FlashFiles", "firstOf", "(I)I"⟩ "FlashFiles" : Cond) ∈ TT := tt7 (List.mem_of_getElem? (i := 115) rfl) rfl
theorem q7_116 : (Cond.methodLink "FlashFiles$Inspector" (145) ⟨"FlashFiles$Log", "useOf", "(I)I"⟩ : Cond) ∈ TT := tt7 (List.mem_of_getElem? (i := 116) rfl) rfl
theorem q7_117 : (Cond.instanceMethod ⟨"FlashFiles$Log", "useOf", "(I)I"⟩ : Cond) ∈ TT := tt7 (List.mem_of_getElem? (i := 117) rfl) rfl
theorem q7_118 : (Cond.selects "FlashFiles$Log" ⟨"FlashFiles$Log", "useOf", "(I)I"⟩ ⟨"FlashFiles$Log", "useOf", "(I)I"⟩ : Cond) ∈ TT := tt7 (List.mem_of_getElem? (i := 118) rfl) rfl
theorem q7_119 : (Cond.code ⟨"FlashFiles$Log", "useOf", "(I)I"⟩ prog_7_method_9_code (2) (some .int) : Cond) ∈ TT := tt7 (List.mem_of_getElem? (i := 119) rfl) rfl
theorem q7_120 : (Cond.methodLink "FlashFiles$Inspector" (148) ⟨"FlashFiles$Log", "nodesIn", "(I)I"⟩ : Cond) ∈ TT := tt7 (List.mem_of_getElem? (i := 120) rfl) rfl
theorem q7_121 : (Cond.methodLink "FlashFiles$Inspector" (151) ⟨"FlashFiles$Log", "dataIn", "(I)I"⟩ : Cond) ∈ TT := tt7 (List.mem_of_getElem? (i := 121) rfl) rfl
theorem q7_122 : (Cond.methodLink "FlashFiles$Inspector" (154) ⟨"FlashFiles$Log", "isFree", "(I)Z"⟩ : Cond) ∈ TT := tt7 (List.mem_of_getElem? (i := 122) rfl) rfl
theorem q7_123 : (Cond.instanceMethod ⟨"FlashFiles$Log", "isFree", "(I)Z"⟩ : Cond) ∈ TT := tt7 (List.mem_of_getElem? (i := 123) rfl) rfl
theorem q7_124 : (Cond.selects "FlashFiles$Log" ⟨"FlashFiles$Log", "isFree", "(I)Z"⟩ ⟨"FlashFiles$Log", "isFree", "(I)Z"⟩ : Cond) ∈ TT := tt7 (List.mem_of_getElem? (i := 124) rfl) rfl
theorem q7_125 : (Cond.code ⟨"FlashFiles$Log", "isFree", "(I)Z"⟩ prog_7_method_12_code (2) (some .boolean) : Cond) ∈ TT := tt7 (List.mem_of_getElem? (i := 125) rfl) rfl
theorem q7_126 : (Cond.methodLink "FlashFiles$Inspector" (75) ⟨"FlashFiles$Inspector", "inspectFree", "()V"⟩ : Cond) ∈ TT := tt7 (List.mem_of_getElem? (i := 126) rfl) rfl
theorem q7_128 : (Cond.instanceMethod ⟨"FlashFiles$Inspector", "inspectFree", "()V"⟩ : Cond) ∈ TT := tt7 (List.mem_of_getElem? (i := 128) rfl) rfl
theorem q7_129 : (Cond.code ⟨"FlashFiles$Inspector", "inspectFree", "()V"⟩ prog_6_method_13_code (3) none : Cond) ∈ TT := tt7 (List.mem_of_getElem? (i := 129) rfl) rfl
theorem q7_130 : (Cond.methodLink "FlashFiles$Inspector" (157) ⟨"FlashFiles$Log", "freeSegments", "()I"⟩ : Cond) ∈ TT := tt7 (List.mem_of_getElem? (i := 130) rfl) rfl
theorem q7_131 : (Cond.methodLink "FlashFiles$Inspector" (78) ⟨"FlashFiles$Checkpoints", "wholeSerial", "(I)I"⟩ : Cond) ∈ TT := tt7 (List.mem_of_getElem? (i := 131) rfl) rfl
theorem q7_132 : (Cond.methodLink "FlashFiles$Inspector" (83) ⟨"java/lang/Math", "max", "(II)I"⟩ : Cond) ∈ TT := tt7 (List.mem_of_getElem? (i := 132) rfl) rfl
theorem q7_133 : (Cond.methodLink "FlashFiles$Inspector" (89) ⟨"FlashFiles$Log", "serial", "()I"⟩ : Cond) ∈ TT := tt7 (List.mem_of_getElem? (i := 133) rfl) rfl
theorem q7_140 : (Cond.constant "FlashFilesModel" (40) (294423) : Cond) ∈ TT := tt7 (List.mem_of_getElem? (i := 140) rfl) rfl
theorem q7_143 : (Cond.fieldLink "FlashFilesModel" (76) "FlashFilesModel" "thrown" "I" : Cond) ∈ TT := tt7 (List.mem_of_getElem? (i := 143) rfl) rfl
theorem q7_144 : (Cond.fieldLink "FlashFilesModel" (152) "FlashFilesModel" "device" "Z" : Cond) ∈ TT := tt7 (List.mem_of_getElem? (i := 144) rfl) rfl
theorem q7_145 : (Cond.fieldLink "FlashFilesModel" (107) "FlashFilesModel" "mounted" "Z" : Cond) ∈ TT := tt7 (List.mem_of_getElem? (i := 145) rfl) rfl
theorem q7_146 : (Cond.fieldLink "FlashFilesModel" (138) "FlashFilesModel" "most" "I" : Cond) ∈ TT := tt7 (List.mem_of_getElem? (i := 146) rfl) rfl
theorem q7_147 : (Cond.fieldLink "FlashFilesModel" (129) "FlashFilesModel" "used" "I" : Cond) ∈ TT := tt7 (List.mem_of_getElem? (i := 147) rfl) rfl
theorem q7_148 : (Cond.fieldLink "FlashFilesModel" (132) "FlashFilesModel" "fresh" "I" : Cond) ∈ TT := tt7 (List.mem_of_getElem? (i := 148) rfl) rfl
theorem q7_149 : (Cond.fieldLink "FlashFilesModel" (135) "FlashFilesModel" "checkpoints" "I" : Cond) ∈ TT := tt7 (List.mem_of_getElem? (i := 149) rfl) rfl
theorem q7_150 : (Cond.fieldLink "FlashFilesModel" (155) "FlashFilesModel" "forward" "I" : Cond) ∈ TT := tt7 (List.mem_of_getElem? (i := 150) rfl) rfl
theorem q7_151 : (Cond.fieldLink "FlashFilesModel" (9) "FlashFilesModel" "cut" "I" : Cond) ∈ TT := tt7 (List.mem_of_getElem? (i := 151) rfl) rfl
theorem q7_152 : (Cond.fieldLink "FlashFilesModel" (13) "FlashFilesModel" "tape" "[B" : Cond) ∈ TT := tt7 (List.mem_of_getElem? (i := 152) rfl) rfl
theorem q7_153 : (Cond.fieldLink "FlashFilesModel" (158) "FlashFilesModel" "taped" "I" : Cond) ∈ TT := tt7 (List.mem_of_getElem? (i := 153) rfl) rfl
theorem q7_154 : (Cond.fieldLink "FlashFilesModel" (17) "FlashFilesModel" "told" "[B" : Cond) ∈ TT := tt7 (List.mem_of_getElem? (i := 154) rfl) rfl
theorem q7_155 : (Cond.fieldLink "FlashFilesModel" (210) "FlashFilesModel" "toldSize" "I" : Cond) ∈ TT := tt7 (List.mem_of_getElem? (i := 155) rfl) rfl
theorem q7_156 : (Cond.fieldLink "FlashFilesModel" (20) "FlashFilesModel" "kind" "[I" : Cond) ∈ TT := tt7 (List.mem_of_getElem? (i := 156) rfl) rfl
theorem q7_157 : (Cond.fieldLink "FlashFilesModel" (24) "FlashFilesModel" "size" "[I" : Cond) ∈ TT := tt7 (List.mem_of_getElem? (i := 157) rfl) rfl
theorem q7_158 : (Cond.fieldLink "FlashFilesModel" (27) "FlashFilesModel" "links" "[I" : Cond) ∈ TT := tt7 (List.mem_of_getElem? (i := 158) rfl) rfl
theorem q7_159 : (Cond.fieldLink "FlashFilesModel" (30) "FlashFilesModel" "small" "[Z" : Cond) ∈ TT := tt7 (List.mem_of_getElem? (i := 159) rfl) rfl
theorem q7_160 : (Cond.fieldLink "FlashFilesModel" (34) "FlashFilesModel" "synced" "[Z" : Cond) ∈ TT := tt7 (List.mem_of_getElem? (i := 160) rfl) rfl
theorem q7_161 : (Cond.fieldLink "FlashFilesModel" (37) "FlashFilesModel" "renamed" "[Z" : Cond) ∈ TT := tt7 (List.mem_of_getElem? (i := 161) rfl) rfl
theorem q7_162 : (Cond.fieldLink "FlashFilesModel" (41) "FlashFilesModel" "piece" "[I" : Cond) ∈ TT := tt7 (List.mem_of_getElem? (i := 162) rfl) rfl
theorem q7_163 : (Cond.fieldLink "FlashFilesModel" (45) "FlashFilesModel" "pool" "[B" : Cond) ∈ TT := tt7 (List.mem_of_getElem? (i := 163) rfl) rfl
theorem q7_164 : (Cond.fieldLink "FlashFilesModel" (48) "FlashFilesModel" "owners" "[I" : Cond) ∈ TT := tt7 (List.mem_of_getElem? (i := 164) rfl) rfl
theorem q7_165 : (Cond.fieldLink "FlashFilesModel" (79) "FlashFilesModel" "search" "I" : Cond) ∈ TT := tt7 (List.mem_of_getElem? (i := 165) rfl) rfl
theorem q7_166 : (Cond.fieldLink "FlashFilesModel" (94) "FlashFilesModel" "entries" "I" : Cond) ∈ TT := tt7 (List.mem_of_getElem? (i := 166) rfl) rfl
theorem q7_167 : (Cond.fieldLink "FlashFilesModel" (51) "FlashFilesModel" "entryDirectory" "[I" : Cond) ∈ TT := tt7 (List.mem_of_getElem? (i := 167) rfl) rfl
theorem q7_168 : (Cond.fieldLink "FlashFilesModel" (54) "FlashFilesModel" "entryId" "[I" : Cond) ∈ TT := tt7 (List.mem_of_getElem? (i := 168) rfl) rfl
theorem q7_169 : (Cond.fieldLink "FlashFilesModel" (57) "FlashFilesModel" "entryLength" "[I" : Cond) ∈ TT := tt7 (List.mem_of_getElem? (i := 169) rfl) rfl
theorem q7_170 : (Cond.fieldLink "FlashFilesModel" (61) "FlashFilesModel" "entryName" "[B" : Cond) ∈ TT := tt7 (List.mem_of_getElem? (i := 170) rfl) rfl
theorem q7_171 : (Cond.fieldLink "FlashFilesModel" (123) "FlashFilesModel" "oldEntries" "I" : Cond) ∈ TT := tt7 (List.mem_of_getElem? (i := 171) rfl) rfl
theorem q7_172 : (Cond.fieldLink "FlashFilesModel" (64) "FlashFilesModel" "oldDirectory" "[I" : Cond) ∈ TT := tt7 (List.mem_of_getElem? (i := 172) rfl) rfl
theorem q7_173 : (Cond.fieldLink "FlashFilesModel" (67) "FlashFilesModel" "oldId" "[I" : Cond) ∈ TT := tt7 (List.mem_of_getElem? (i := 173) rfl) rfl
theorem q7_174 : (Cond.fieldLink "FlashFilesModel" (70) "FlashFilesModel" "oldLength" "[I" : Cond) ∈ TT := tt7 (List.mem_of_getElem? (i := 174) rfl) rfl
theorem q7_175 : (Cond.fieldLink "FlashFilesModel" (73) "FlashFilesModel" "oldName" "[B" : Cond) ∈ TT := tt7 (List.mem_of_getElem? (i := 175) rfl) rfl
theorem q7_176 : (Cond.lays "FlashFilesModel" "FlashFilesModel" "thrown" "I" : Cond) ∈ TT := tt7 (List.mem_of_getElem? (i := 176) rfl) rfl
theorem q7_178 : (Cond.lays "FlashFilesModel" "FlashFilesModel" "device" "Z" : Cond) ∈ TT := tt7 (List.mem_of_getElem? (i := 178) rfl) rfl
theorem q7_180 : (Cond.lays "FlashFilesModel" "FlashFilesModel" "mounted" "Z" : Cond) ∈ TT := tt7 (List.mem_of_getElem? (i := 180) rfl) rfl
theorem q7_182 : (Cond.lays "FlashFilesModel" "FlashFilesModel" "most" "I" : Cond) ∈ TT := tt7 (List.mem_of_getElem? (i := 182) rfl) rfl
theorem q7_184 : (Cond.lays "FlashFilesModel" "FlashFilesModel" "used" "I" : Cond) ∈ TT := tt7 (List.mem_of_getElem? (i := 184) rfl) rfl
theorem q7_186 : (Cond.lays "FlashFilesModel" "FlashFilesModel" "fresh" "I" : Cond) ∈ TT := tt7 (List.mem_of_getElem? (i := 186) rfl) rfl
theorem q7_188 : (Cond.lays "FlashFilesModel" "FlashFilesModel" "checkpoints" "I" : Cond) ∈ TT := tt7 (List.mem_of_getElem? (i := 188) rfl) rfl
theorem q7_190 : (Cond.lays "FlashFilesModel" "FlashFilesModel" "forward" "I" : Cond) ∈ TT := tt7 (List.mem_of_getElem? (i := 190) rfl) rfl
theorem q7_192 : (Cond.lays "FlashFilesModel" "FlashFilesModel" "cut" "I" : Cond) ∈ TT := tt7 (List.mem_of_getElem? (i := 192) rfl) rfl
theorem q7_194 : (Cond.laysFinal "FlashFilesModel" "FlashFilesModel" "tape" "[B" : Cond) ∈ TT := tt7 (List.mem_of_getElem? (i := 194) rfl) rfl
theorem q7_196 : (Cond.lays "FlashFilesModel" "FlashFilesModel" "taped" "I" : Cond) ∈ TT := tt7 (List.mem_of_getElem? (i := 196) rfl) rfl
theorem q7_198 : (Cond.laysFinal "FlashFilesModel" "FlashFilesModel" "told" "[B" : Cond) ∈ TT := tt7 (List.mem_of_getElem? (i := 198) rfl) rfl
theorem q7_200 : (Cond.lays "FlashFilesModel" "FlashFilesModel" "toldSize" "I" : Cond) ∈ TT := tt7 (List.mem_of_getElem? (i := 200) rfl) rfl
theorem q7_202 : (Cond.laysFinal "FlashFilesModel" "FlashFilesModel" "kind" "[I" : Cond) ∈ TT := tt7 (List.mem_of_getElem? (i := 202) rfl) rfl
theorem q7_204 : (Cond.laysFinal "FlashFilesModel" "FlashFilesModel" "size" "[I" : Cond) ∈ TT := tt7 (List.mem_of_getElem? (i := 204) rfl) rfl
theorem q7_206 : (Cond.laysFinal "FlashFilesModel" "FlashFilesModel" "links" "[I" : Cond) ∈ TT := tt7 (List.mem_of_getElem? (i := 206) rfl) rfl
theorem q7_208 : (Cond.laysFinal "FlashFilesModel" "FlashFilesModel" "small" "[Z" : Cond) ∈ TT := tt7 (List.mem_of_getElem? (i := 208) rfl) rfl
theorem q7_210 : (Cond.laysFinal "FlashFilesModel" "FlashFilesModel" "synced" "[Z" : Cond) ∈ TT := tt7 (List.mem_of_getElem? (i := 210) rfl) rfl
theorem q7_212 : (Cond.laysFinal "FlashFilesModel" "FlashFilesModel" "renamed" "[Z" : Cond) ∈ TT := tt7 (List.mem_of_getElem? (i := 212) rfl) rfl
theorem q7_214 : (Cond.laysFinal "FlashFilesModel" "FlashFilesModel" "piece" "[I" : Cond) ∈ TT := tt7 (List.mem_of_getElem? (i := 214) rfl) rfl
theorem q7_216 : (Cond.laysFinal "FlashFilesModel" "FlashFilesModel" "pool" "[B" : Cond) ∈ TT := tt7 (List.mem_of_getElem? (i := 216) rfl) rfl
theorem q7_218 : (Cond.laysFinal "FlashFilesModel" "FlashFilesModel" "owners" "[I" : Cond) ∈ TT := tt7 (List.mem_of_getElem? (i := 218) rfl) rfl
theorem q7_220 : (Cond.lays "FlashFilesModel" "FlashFilesModel" "search" "I" : Cond) ∈ TT := tt7 (List.mem_of_getElem? (i := 220) rfl) rfl
theorem q7_222 : (Cond.lays "FlashFilesModel" "FlashFilesModel" "entries" "I" : Cond) ∈ TT := tt7 (List.mem_of_getElem? (i := 222) rfl) rfl
theorem q7_224 : (Cond.laysFinal "FlashFilesModel" "FlashFilesModel" "entryDirectory" "[I" : Cond) ∈ TT := tt7 (List.mem_of_getElem? (i := 224) rfl) rfl
theorem q7_226 : (Cond.laysFinal "FlashFilesModel" "FlashFilesModel" "entryId" "[I" : Cond) ∈ TT := tt7 (List.mem_of_getElem? (i := 226) rfl) rfl
theorem q7_228 : (Cond.laysFinal "FlashFilesModel" "FlashFilesModel" "entryLength" "[I" : Cond) ∈ TT := tt7 (List.mem_of_getElem? (i := 228) rfl) rfl
theorem q7_230 : (Cond.laysFinal "FlashFilesModel" "FlashFilesModel" "entryName" "[B" : Cond) ∈ TT := tt7 (List.mem_of_getElem? (i := 230) rfl) rfl
theorem q7_232 : (Cond.lays "FlashFilesModel" "FlashFilesModel" "oldEntries" "I" : Cond) ∈ TT := tt7 (List.mem_of_getElem? (i := 232) rfl) rfl
theorem q7_234 : (Cond.laysFinal "FlashFilesModel" "FlashFilesModel" "oldDirectory" "[I" : Cond) ∈ TT := tt7 (List.mem_of_getElem? (i := 234) rfl) rfl
theorem q7_236 : (Cond.laysFinal "FlashFilesModel" "FlashFilesModel" "oldId" "[I" : Cond) ∈ TT := tt7 (List.mem_of_getElem? (i := 236) rfl) rfl
theorem q7_238 : (Cond.laysFinal "FlashFilesModel" "FlashFilesModel" "oldLength" "[I" : Cond) ∈ TT := tt7 (List.mem_of_getElem? (i := 238) rfl) rfl
theorem q8_0 : (Cond.laysFinal "FlashFilesModel" "FlashFilesModel" "oldName" "[B" : Cond) ∈ TT := tt8 (List.mem_of_getElem? (i := 0) rfl) rfl
theorem q8_11 : (Cond.methodLink "FlashFilesModel" (144) ⟨"FlashFilesModel", "in", "(III)Z"⟩ : Cond) ∈ TT := tt8 (List.mem_of_getElem? (i := 11) rfl) rfl
theorem q8_12 : (Cond.static ⟨"FlashFilesModel", "in", "(III)Z"⟩ : Cond) ∈ TT := tt8 (List.mem_of_getElem? (i := 12) rfl) rfl
theorem q8_13 : (Cond.code ⟨"FlashFilesModel", "in", "(III)Z"⟩ prog_12_method_4_code (3) (some .boolean) : Cond) ∈ TT := tt8 (List.mem_of_getElem? (i := 13) rfl) rfl
theorem q8_14 : (Cond.methodLink "FlashFilesModel" (148) ⟨"FlashFilesModel", "throwing", "(ZZ)Z"⟩ : Cond) ∈ TT := tt8 (List.mem_of_getElem? (i := 14) rfl) rfl
theorem q8_16 : (Cond.instanceMethod ⟨"FlashFilesModel", "throwing", "(ZZ)Z"⟩ : Cond) ∈ TT := tt8 (List.mem_of_getElem? (i := 16) rfl) rfl
theorem q8_17 : (Cond.code ⟨"FlashFilesModel", "throwing", "(ZZ)Z"⟩ prog_12_method_3_code (3) (some .boolean) : Cond) ∈ TT := tt8 (List.mem_of_getElem? (i := 17) rfl) rfl
theorem q8_18 : (Cond.methodLink "FlashFilesModel" (141) ⟨"FlashFilesModel", "checkpoint", "()Z"⟩ : Cond) ∈ TT := tt8 (List.mem_of_getElem? (i := 18) rfl) rfl
theorem q8_20 : (Cond.instanceMethod ⟨"FlashFilesModel", "checkpoint", "()Z"⟩ : Cond) ∈ TT := tt8 (List.mem_of_getElem? (i := 20) rfl) rfl
theorem q8_21 : (Cond.code ⟨"FlashFilesModel", "checkpoint", "()Z"⟩ prog_12_method_16_code (2) (some .boolean) : Cond) ∈ TT := tt8 (List.mem_of_getElem? (i := 21) rfl) rfl
theorem q8_22 : (Cond.methodLink "FlashFilesModel" (111) ⟨"FlashFilesModel", "isCut", "()Z"⟩ : Cond) ∈ TT := tt8 (List.mem_of_getElem? (i := 22) rfl) rfl
theorem q8_24 : (Cond.instanceMethod ⟨"FlashFilesModel", "isCut", "()Z"⟩ : Cond) ∈ TT := tt8 (List.mem_of_getElem? (i := 24) rfl) rfl
theorem q8_25 : (Cond.code ⟨"FlashFilesModel", "isCut", "()Z"⟩ prog_12_method_15_code (2) (some .boolean) : Cond) ∈ TT := tt8 (List.mem_of_getElem? (i := 25) rfl) rfl
theorem q8_26 : (Cond.methodLink "FlashFilesModel" (115) ⟨"FlashFilesModel", "copyFile", "(III)V"⟩ : Cond) ∈ TT := tt8 (List.mem_of_getElem? (i := 26) rfl) rfl
theorem q8_28 : (Cond.instanceMethod ⟨"FlashFilesModel", "copyFile", "(III)V"⟩ : Cond) ∈ TT := tt8 (List.mem_of_getElem? (i := 28) rfl) rfl
theorem q8_29 : (Cond.code ⟨"FlashFilesModel", "copyFile", "(III)V"⟩ prog_12_method_9_code (8) none : Cond) ∈ TT := tt8 (List.mem_of_getElem? (i := 29) rfl) rfl
theorem q8_30 : (Cond.methodLink "FlashFilesModel" (82) ⟨"FlashFilesModel", "at", "(III)I"⟩ : Cond) ∈ TT := tt8 (List.mem_of_getElem? (i := 30) rfl) rfl
theorem q8_31 : (Cond.static ⟨"FlashFilesModel", "at", "(III)I"⟩ : Cond) ∈ TT := tt8 (List.mem_of_getElem? (i := 31) rfl) rfl
theorem q8_32 : (Cond.code ⟨"FlashFilesModel", "at", "(III)I"⟩ prog_12_method_5_code (3) (some .int) : Cond) ∈ TT := tt8 (List.mem_of_getElem? (i := 32) rfl) rfl
theorem q8_33 : (Cond.methodLink "FlashFilesModel" (90) ⟨"FlashFilesModel", "leave", "(I)V"⟩ : Cond) ∈ TT := tt8 (List.mem_of_getElem? (i := 33) rfl) rfl
theorem q8_35 : (Cond.instanceMethod ⟨"FlashFilesModel", "leave", "(I)V"⟩ : Cond) ∈ TT := tt8 (List.mem_of_getElem? (i := 35) rfl) rfl
theorem q8_36 : (Cond.code ⟨"FlashFilesModel", "leave", "(I)V"⟩ prog_12_method_7_code (2) none : Cond) ∈ TT := tt8 (List.mem_of_getElem? (i := 36) rfl) rfl
theorem q8_37 : (Cond.methodLink "FlashFilesModel" (119) ⟨"FlashFilesModel", "drop", "(II)V"⟩ : Cond) ∈ TT := tt8 (List.mem_of_getElem? (i := 37) rfl) rfl
theorem q8_39 : (Cond.instanceMethod ⟨"FlashFilesModel", "drop", "(II)V"⟩ : Cond) ∈ TT := tt8 (List.mem_of_getElem? (i := 39) rfl) rfl
theorem q8_40 : (Cond.code ⟨"FlashFilesModel", "drop", "(II)V"⟩ prog_12_method_10_code (4) none : Cond) ∈ TT := tt8 (List.mem_of_getElem? (i := 40) rfl) rfl
theorem q8_41 : (Cond.methodLink "FlashFilesModel" (126) ⟨"FlashFilesModel", "inUse", "()I"⟩ : Cond) ∈ TT := tt8 (List.mem_of_getElem? (i := 41) rfl) rfl
theorem q8_43 : (Cond.instanceMethod ⟨"FlashFilesModel", "inUse", "()I"⟩ : Cond) ∈ TT := tt8 (List.mem_of_getElem? (i := 43) rfl) rfl
theorem q8_44 : (Cond.code ⟨"FlashFilesModel", "inUse", "()I"⟩ prog_12_method_14_code (3) (some .int) : Cond) ∈ TT := tt8 (List.mem_of_getElem? (i := 44) rfl) rfl
theorem q8_45 : (Cond.methodLink "FlashFilesModel" (104) ⟨"FlashFilesModel", "blocksOf", "(I)I"⟩ : Cond) ∈ TT := tt8 (List.mem_of_getElem? (i := 45) rfl) rfl
theorem q8_47 : (Cond.instanceMethod ⟨"FlashFilesModel", "blocksOf", "(I)I"⟩ : Cond) ∈ TT := tt8 (List.mem_of_getElem? (i := 47) rfl) rfl
theorem q8_48 : (Cond.code ⟨"FlashFilesModel", "blocksOf", "(I)I"⟩ prog_12_method_13_code (4) (some .int) : Cond) ∈ TT := tt8 (List.mem_of_getElem? (i := 48) rfl) rfl
theorem q8_49 : (Cond.methodLink "FlashFilesModel" (97) ⟨"FlashFilesModel", "namesOf", "(I)I"⟩ : Cond) ∈ TT := tt8 (List.mem_of_getElem? (i := 49) rfl) rfl
theorem q8_51 : (Cond.instanceMethod ⟨"FlashFilesModel", "namesOf", "(I)I"⟩ : Cond) ∈ TT := tt8 (List.mem_of_getElem? (i := 51) rfl) rfl
theorem q8_52 : (Cond.code ⟨"FlashFilesModel", "namesOf", "(I)I"⟩ prog_12_method_12_code (4) (some .int) : Cond) ∈ TT := tt8 (List.mem_of_getElem? (i := 52) rfl) rfl
theorem q8_53 : (Cond.methodLink "FlashFilesModel" (101) ⟨"FlashFilesModel", "nodesFor", "(I)I"⟩ : Cond) ∈ TT := tt8 (List.mem_of_getElem? (i := 53) rfl) rfl
theorem q8_54 : (Cond.static ⟨"FlashFilesModel", "nodesFor", "(I)I"⟩ : Cond) ∈ TT := tt8 (List.mem_of_getElem? (i := 54) rfl) rfl
theorem q8_55 : (Cond.code ⟨"FlashFilesModel", "nodesFor", "(I)I"⟩ prog_12_method_11_code (2) (some .int) : Cond) ∈ TT := tt8 (List.mem_of_getElem? (i := 55) rfl) rfl
theorem q8_68 : (Cond.methodLink "FlashFilesModel" (194) ⟨"FlashFilesModel", "create", "(III)I"⟩ : Cond) ∈ TT := tt8 (List.mem_of_getElem? (i := 68) rfl) rfl
theorem q8_70 : (Cond.instanceMethod ⟨"FlashFilesModel", "create", "(III)I"⟩ : Cond) ∈ TT := tt8 (List.mem_of_getElem? (i := 70) rfl) rfl
theorem q8_71 : (Cond.code ⟨"FlashFilesModel", "create", "(III)I"⟩ prog_12_method_31_code (7) (some .int) : Cond) ∈ TT := tt8 (List.mem_of_getElem? (i := 71) rfl) rfl
theorem q8_72 : (Cond.methodLink "FlashFilesModel" (169) ⟨"FlashFilesModel", "isOff", "()Z"⟩ : Cond) ∈ TT := tt8 (List.mem_of_getElem? (i := 72) rfl) rfl
theorem q8_74 : (Cond.instanceMethod ⟨"FlashFilesModel", "isOff", "()Z"⟩ : Cond) ∈ TT := tt8 (List.mem_of_getElem? (i := 74) rfl) rfl
theorem q8_75 : (Cond.code ⟨"FlashFilesModel", "isOff", "()Z"⟩ prog_12_method_21_code (1) (some .boolean) : Cond) ∈ TT := tt8 (List.mem_of_getElem? (i := 75) rfl) rfl
theorem q8_76 : (Cond.methodLink "FlashFilesModel" (172) ⟨"FlashFilesModel", "is", "(II)Z"⟩ : Cond) ∈ TT := tt8 (List.mem_of_getElem? (i := 76) rfl) rfl
theorem q8_78 : (Cond.instanceMethod ⟨"FlashFilesModel", "is", "(II)Z"⟩ : Cond) ∈ TT := tt8 (List.mem_of_getElem? (i := 78) rfl) rfl
theorem q8_79 : (Cond.code ⟨"FlashFilesModel", "is", "(II)Z"⟩ prog_12_method_23_code (3) (some .boolean) : Cond) ∈ TT := tt8 (List.mem_of_getElem? (i := 79) rfl) rfl
theorem q8_80 : (Cond.methodLink "FlashFilesModel" (161) ⟨"FlashFilesModel", "isId", "(I)Z"⟩ : Cond) ∈ TT := tt8 (List.mem_of_getElem? (i := 80) rfl) rfl
theorem q8_81 : (Cond.static ⟨"FlashFilesModel", "isId", "(I)Z"⟩ : Cond) ∈ TT := tt8 (List.mem_of_getElem? (i := 81) rfl) rfl
theorem q8_82 : (Cond.code ⟨"FlashFilesModel", "isId", "(I)Z"⟩ prog_12_method_22_code (1) (some .boolean) : Cond) ∈ TT := tt8 (List.mem_of_getElem? (i := 82) rfl) rfl
theorem q8_83 : (Cond.methodLink "FlashFilesModel" (176) ⟨"FlashFilesModel", "isName", "(II)Z"⟩ : Cond) ∈ TT := tt8 (List.mem_of_getElem? (i := 83) rfl) rfl
theorem q8_85 : (Cond.instanceMethod ⟨"FlashFilesModel", "isName", "(II)Z"⟩ : Cond) ∈ TT := tt8 (List.mem_of_getElem? (i := 85) rfl) rfl
theorem q8_86 : (Cond.code ⟨"FlashFilesModel", "isName", "(II)Z"⟩ prog_12_method_24_code (5) (some .boolean) : Cond) ∈ TT := tt8 (List.mem_of_getElem? (i := 86) rfl) rfl
theorem q8_87 : (Cond.methodLink "FlashFilesModel" (179) ⟨"FlashFilesModel", "seek", "(III)I"⟩ : Cond) ∈ TT := tt8 (List.mem_of_getElem? (i := 87) rfl) rfl
theorem q8_89 : (Cond.instanceMethod ⟨"FlashFilesModel", "seek", "(III)I"⟩ : Cond) ∈ TT := tt8 (List.mem_of_getElem? (i := 89) rfl) rfl
theorem q8_90 : (Cond.code ⟨"FlashFilesModel", "seek", "(III)I"⟩ prog_12_method_25_code (7) (some .int) : Cond) ∈ TT := tt8 (List.mem_of_getElem? (i := 90) rfl) rfl
theorem q8_91 : (Cond.methodLink "FlashFilesModel" (182) ⟨"FlashFilesModel", "freeId", "()I"⟩ : Cond) ∈ TT := tt8 (List.mem_of_getElem? (i := 91) rfl) rfl
theorem q8_93 : (Cond.instanceMethod ⟨"FlashFilesModel", "freeId", "()I"⟩ : Cond) ∈ TT := tt8 (List.mem_of_getElem? (i := 93) rfl) rfl
theorem q8_94 : (Cond.code ⟨"FlashFilesModel", "freeId", "()I"⟩ prog_12_method_29_code (2) (some .int) : Cond) ∈ TT := tt8 (List.mem_of_getElem? (i := 94) rfl) rfl
theorem q8_95 : (Cond.methodLink "FlashFilesModel" (185) ⟨"FlashFilesModel", "done", "()V"⟩ : Cond) ∈ TT := tt8 (List.mem_of_getElem? (i := 95) rfl) rfl
theorem q8_97 : (Cond.instanceMethod ⟨"FlashFilesModel", "done", "()V"⟩ : Cond) ∈ TT := tt8 (List.mem_of_getElem? (i := 97) rfl) rfl
theorem q8_98 : (Cond.code ⟨"FlashFilesModel", "done", "()V"⟩ prog_12_method_30_code (1) none : Cond) ∈ TT := tt8 (List.mem_of_getElem? (i := 98) rfl) rfl
theorem q8_99 : (Cond.methodLink "FlashFilesModel" (188) ⟨"FlashFilesModel", "stops", "(I)Z"⟩ : Cond) ∈ TT := tt8 (List.mem_of_getElem? (i := 99) rfl) rfl
theorem q8_101 : (Cond.instanceMethod ⟨"FlashFilesModel", "stops", "(I)Z"⟩ : Cond) ∈ TT := tt8 (List.mem_of_getElem? (i := 101) rfl) rfl
theorem q8_102 : (Cond.code ⟨"FlashFilesModel", "stops", "(I)Z"⟩ prog_12_method_17_code (2) (some .boolean) : Cond) ∈ TT := tt8 (List.mem_of_getElem? (i := 102) rfl) rfl
theorem q8_103 : (Cond.methodLink "FlashFilesModel" (191) ⟨"FlashFilesModel", "addEntry", "(III)V"⟩ : Cond) ∈ TT := tt8 (List.mem_of_getElem? (i := 103) rfl) rfl
theorem q8_105 : (Cond.instanceMethod ⟨"FlashFilesModel", "addEntry", "(III)V"⟩ : Cond) ∈ TT := tt8 (List.mem_of_getElem? (i := 105) rfl) rfl
theorem q8_106 : (Cond.code ⟨"FlashFilesModel", "addEntry", "(III)V"⟩ prog_12_method_27_code (4) none : Cond) ∈ TT := tt8 (List.mem_of_getElem? (i := 106) rfl) rfl
theorem q8_107 : (Cond.methodLink "FlashFilesModel" (165) ⟨"FlashFilesModel", "nameEntry", "(IIII)V"⟩ : Cond) ∈ TT := tt8 (List.mem_of_getElem? (i := 107) rfl) rfl
theorem q8_109 : (Cond.instanceMethod ⟨"FlashFilesModel", "nameEntry", "(IIII)V"⟩ : Cond) ∈ TT := tt8 (List.mem_of_getElem? (i := 109) rfl) rfl
theorem q8_110 : (Cond.code ⟨"FlashFilesModel", "nameEntry", "(IIII)V"⟩ prog_12_method_26_code (6) none : Cond) ∈ TT := tt8 (List.mem_of_getElem? (i := 110) rfl) rfl
theorem q8_123 : (Cond.methodLink "FlashFilesModel" (197) ⟨"FlashFilesModel", "removeEntry", "(I)V"⟩ : Cond) ∈ TT := tt8 (List.mem_of_getElem? (i := 123) rfl) rfl
theorem q8_125 : (Cond.instanceMethod ⟨"FlashFilesModel", "removeEntry", "(I)V"⟩ : Cond) ∈ TT := tt8 (List.mem_of_getElem? (i := 125) rfl) rfl
theorem q8_126 : (Cond.code ⟨"FlashFilesModel", "removeEntry", "(I)V"⟩ prog_12_method_28_code (3) none : Cond) ∈ TT := tt8 (List.mem_of_getElem? (i := 126) rfl) rfl
theorem q8_127 : (Cond.methodLink "FlashFilesModel" (200) ⟨"FlashFilesModel", "loosen", "(I)I"⟩ : Cond) ∈ TT := tt8 (List.mem_of_getElem? (i := 127) rfl) rfl
theorem q8_129 : (Cond.instanceMethod ⟨"FlashFilesModel", "loosen", "(I)I"⟩ : Cond) ∈ TT := tt8 (List.mem_of_getElem? (i := 129) rfl) rfl
theorem q8_130 : (Cond.code ⟨"FlashFilesModel", "loosen", "(I)I"⟩ prog_12_method_35_code (2) (some .int) : Cond) ∈ TT := tt8 (List.mem_of_getElem? (i := 130) rfl) rfl
theorem q8_139 : (Cond.methodLink "FlashFilesModel" (206) ⟨"FlashFilesModel", "isRefused", "(IIII)Z"⟩ : Cond) ∈ TT := tt8 (List.mem_of_getElem? (i := 139) rfl) rfl
theorem q8_141 : (Cond.instanceMethod ⟨"FlashFilesModel", "isRefused", "(IIII)Z"⟩ : Cond) ∈ TT := tt8 (List.mem_of_getElem? (i := 141) rfl) rfl
theorem q8_142 : (Cond.code ⟨"FlashFilesModel", "isRefused", "(IIII)Z"⟩ prog_12_method_39_code (6) (some .boolean) : Cond) ∈ TT := tt8 (List.mem_of_getElem? (i := 142) rfl) rfl
theorem q8_143 : (Cond.methodLink "FlashFilesModel" (203) ⟨"FlashFilesModel", "isWithin", "(II)Z"⟩ : Cond) ∈ TT := tt8 (List.mem_of_getElem? (i := 143) rfl) rfl
theorem q8_145 : (Cond.instanceMethod ⟨"FlashFilesModel", "isWithin", "(II)Z"⟩ : Cond) ∈ TT := tt8 (List.mem_of_getElem? (i := 145) rfl) rfl
theorem q8_146 : (Cond.code ⟨"FlashFilesModel", "isWithin", "(II)Z"⟩ prog_12_method_38_code (5) (some .boolean) : Cond) ∈ TT := tt8 (List.mem_of_getElem? (i := 146) rfl) rfl
theorem q8_155 : (Cond.methodLink "FlashFilesModel" (213) ⟨"FlashFilesModel", "isBefore", "(II)Z"⟩ : Cond) ∈ TT := tt8 (List.mem_of_getElem? (i := 155) rfl) rfl
theorem q8_157 : (Cond.instanceMethod ⟨"FlashFilesModel", "isBefore", "(II)Z"⟩ : Cond) ∈ TT := tt8 (List.mem_of_getElem? (i := 157) rfl) rfl
theorem q8_158 : (Cond.code ⟨"FlashFilesModel", "isBefore", "(II)Z"⟩ prog_12_method_42_code (4) (some .boolean) : Cond) ∈ TT := tt8 (List.mem_of_getElem? (i := 158) rfl) rfl
theorem q8_163 : (Cond.constant "FlashFilesModel" (220) (100000) : Cond) ∈ TT := tt8 (List.mem_of_getElem? (i := 163) rfl) rfl
theorem q8_164 : (Cond.methodLink "FlashFilesModel" (221) ⟨"FlashFilesModel", "grow", "(II)V"⟩ : Cond) ∈ TT := tt8 (List.mem_of_getElem? (i := 164) rfl) rfl
theorem q8_166 : (Cond.instanceMethod ⟨"FlashFilesModel", "grow", "(II)V"⟩ : Cond) ∈ TT := tt8 (List.mem_of_getElem? (i := 166) rfl) rfl
theorem q8_167 : (Cond.code ⟨"FlashFilesModel", "grow", "(II)V"⟩ prog_12_method_44_code (3) none : Cond) ∈ TT := tt8 (List.mem_of_getElem? (i := 167) rfl) rfl
theorem q8_168 : (Cond.methodLink "FlashFilesModel" (216) ⟨"FlashFilesModel", "own", "(II)I"⟩ : Cond) ∈ TT := tt8 (List.mem_of_getElem? (i := 168) rfl) rfl
theorem q8_170 : (Cond.instanceMethod ⟨"FlashFilesModel", "own", "(II)I"⟩ : Cond) ∈ TT := tt8 (List.mem_of_getElem? (i := 170) rfl) rfl
theorem q8_171 : (Cond.code ⟨"FlashFilesModel", "own", "(II)I"⟩ prog_12_method_8_code (7) (some .int) : Cond) ∈ TT := tt8 (List.mem_of_getElem? (i := 171) rfl) rfl
theorem q8_172 : (Cond.methodLink "FlashFilesModel" (86) ⟨"FlashFilesModel", "take", "()I"⟩ : Cond) ∈ TT := tt8 (List.mem_of_getElem? (i := 172) rfl) rfl
theorem q8_174 : (Cond.instanceMethod ⟨"FlashFilesModel", "take", "()I"⟩ : Cond) ∈ TT := tt8 (List.mem_of_getElem? (i := 174) rfl) rfl
theorem q8_175 : (Cond.code ⟨"FlashFilesModel", "take", "()I"⟩ prog_12_method_6_code (2) (some .int) : Cond) ∈ TT := tt8 (List.mem_of_getElem? (i := 175) rfl) rfl
theorem q8_204 : (Cond.methodLink "FlashFilesModel" (224) ⟨"FlashFilesModel", "ids", "()I"⟩ : Cond) ∈ TT := tt8 (List.mem_of_getElem? (i := 204) rfl) rfl
theorem q8_206 : (Cond.instanceMethod ⟨"FlashFilesModel", "ids", "()I"⟩ : Cond) ∈ TT := tt8 (List.mem_of_getElem? (i := 206) rfl) rfl
theorem q8_207 : (Cond.code ⟨"FlashFilesModel", "ids", "()I"⟩ prog_12_method_52_code (3) (some .int) : Cond) ∈ TT := tt8 (List.mem_of_getElem? (i := 207) rfl) rfl
theorem qs1_1 : (Cond.selects "FlashFiles$Checkpoints" ⟨"FlashFiles$Checkpoints", "readSuper", "()V"⟩ ⟨"FlashFiles$Checkpoints", "readSuper", "()V"⟩ : Cond) ∈ TT := tts (q := (⟨"FlashFiles$Checkpoints", "readSuper", "()V"⟩, 11)) (List.mem_append_left _ (List.mem_of_getElem? (i := 1) rfl))
theorem qs1_2 : (Cond.selects "FlashFiles$Log" ⟨"FlashFiles$Log", "openSegment", "()I"⟩ ⟨"FlashFiles$Log", "openSegment", "()I"⟩ : Cond) ∈ TT := tts (q := (⟨"FlashFiles$Log", "openSegment", "()I"⟩, 12)) (List.mem_append_left _ (List.mem_of_getElem? (i := 2) rfl))
theorem qs1_3 : (Cond.selects "FlashFiles$Tree" ⟨"FlashFiles$Tree", "putNew", "(III)V"⟩ ⟨"FlashFiles$Tree", "putNew", "(III)V"⟩ : Cond) ∈ TT := tts (q := (⟨"FlashFiles$Tree", "putNew", "(III)V"⟩, 5)) (List.mem_append_left _ (List.mem_of_getElem? (i := 3) rfl))
theorem qs1_4 : (Cond.selects "FlashFiles$Log" ⟨"FlashFiles$Log", "isLast", "(I)Z"⟩ ⟨"FlashFiles$Log", "isLast", "(I)Z"⟩ : Cond) ∈ TT := tts (q := (⟨"FlashFiles$Log", "isLast", "(I)Z"⟩, 12)) (List.mem_append_left _ (List.mem_of_getElem? (i := 4) rfl))
theorem qs1_5 : (Cond.selects "FlashFiles$Tree" ⟨"FlashFiles$Tree", "nodesFor", "(I)I"⟩ ⟨"FlashFiles$Tree", "nodesFor", "(I)I"⟩ : Cond) ∈ TT := tts (q := (⟨"FlashFiles$Tree", "nodesFor", "(I)I"⟩, 5)) (List.mem_append_left _ (List.mem_of_getElem? (i := 5) rfl))
theorem qs1_6 : (Cond.selects "FlashFiles$Checkpoints" ⟨"FlashFiles$Checkpoints", "commit", "()V"⟩ ⟨"FlashFiles$Checkpoints", "commit", "()V"⟩ : Cond) ∈ TT := tts (q := (⟨"FlashFiles$Checkpoints", "commit", "()V"⟩, 11)) (List.mem_append_left _ (List.mem_of_getElem? (i := 6) rfl))
theorem qs1_7 : (Cond.selects "FlashFiles$Checkpoints" ⟨"FlashFiles$Checkpoints", "fillPack", "()V"⟩ ⟨"FlashFiles$Checkpoints", "fillPack", "()V"⟩ : Cond) ∈ TT := tts (q := (⟨"FlashFiles$Checkpoints", "fillPack", "()V"⟩, 11)) (List.mem_append_left _ (List.mem_of_getElem? (i := 7) rfl))
theorem qs1_8 : (Cond.selects "FlashFiles$Checkpoints" ⟨"FlashFiles$Checkpoints", "storeBlocks", "(I)V"⟩ ⟨"FlashFiles$Checkpoints", "storeBlocks", "(I)V"⟩ : Cond) ∈ TT := tts (q := (⟨"FlashFiles$Checkpoints", "storeBlocks", "(I)V"⟩, 11)) (List.mem_append_left _ (List.mem_of_getElem? (i := 8) rfl))
theorem qs1_9 : (Cond.selects "FlashFiles$Checkpoints" ⟨"FlashFiles$Checkpoints", "mustBeFree", "()I"⟩ ⟨"FlashFiles$Checkpoints", "mustBeFree", "()I"⟩ : Cond) ∈ TT := tts (q := (⟨"FlashFiles$Checkpoints", "mustBeFree", "()I"⟩, 11)) (List.mem_append_left _ (List.mem_of_getElem? (i := 9) rfl))
theorem qs1_10 : (Cond.selects "FlashFiles$Cleaner" ⟨"FlashFiles$Cleaner", "cheapest", "(I)I"⟩ ⟨"FlashFiles$Cleaner", "cheapest", "(I)I"⟩ : Cond) ∈ TT := tts (q := (⟨"FlashFiles$Cleaner", "cheapest", "(I)I"⟩, 6)) (List.mem_append_left _ (List.mem_of_getElem? (i := 10) rfl))
theorem qs1_11 : (Cond.selects "FlashFiles$Cleaner" ⟨"FlashFiles$Cleaner", "cost", "(I)I"⟩ ⟨"FlashFiles$Cleaner", "cost", "(I)I"⟩ : Cond) ∈ TT := tts (q := (⟨"FlashFiles$Cleaner", "cost", "(I)I"⟩, 6)) (List.mem_append_left _ (List.mem_of_getElem? (i := 11) rfl))
theorem qs1_12 : (Cond.selects "FlashFiles$Cleaner" ⟨"FlashFiles$Cleaner", "moveNode", "(I)V"⟩ ⟨"FlashFiles$Cleaner", "moveNode", "(I)V"⟩ : Cond) ∈ TT := tts (q := (⟨"FlashFiles$Cleaner", "moveNode", "(I)V"⟩, 6)) (List.mem_append_left _ (List.mem_of_getElem? (i := 12) rfl))
theorem qs1_13 : (Cond.selects "FlashFiles$Cleaner" ⟨"FlashFiles$Cleaner", "mustLeave", "(I)Z"⟩ ⟨"FlashFiles$Cleaner", "mustLeave", "(I)Z"⟩ : Cond) ∈ TT := tts (q := (⟨"FlashFiles$Cleaner", "mustLeave", "(I)Z"⟩, 6)) (List.mem_append_left _ (List.mem_of_getElem? (i := 13) rfl))
theorem qs1_14 : (Cond.selects "FlashFiles" ⟨"FlashFiles", "takeName", "(I)Z"⟩ ⟨"FlashFiles", "takeName", "(I)Z"⟩ : Cond) ∈ TT := tts (q := (⟨"FlashFiles", "takeName", "(I)Z"⟩, 14)) (List.mem_append_left _ (List.mem_of_getElem? (i := 14) rfl))
theorem qs1_15 : (Cond.selects "FlashFiles" ⟨"FlashFiles", "requirePower", "()V"⟩ ⟨"FlashFiles", "requirePower", "()V"⟩ : Cond) ∈ TT := tts (q := (⟨"FlashFiles", "requirePower", "()V"⟩, 14)) (List.mem_append_left _ (List.mem_of_getElem? (i := 15) rfl))
theorem qs2_0 : (Cond.selects "FlashFiles" ⟨"FlashFiles", "requireNewName", "(IZ)V"⟩ ⟨"FlashFiles", "requireNewName", "(IZ)V"⟩ : Cond) ∈ TT := tts (q := (⟨"FlashFiles", "requireNewName", "(IZ)V"⟩, 14)) (List.mem_append_right _ (List.mem_append_left _ (List.mem_of_getElem? (i := 0) rfl)))
theorem qs2_1 : (Cond.selects "FlashFiles" ⟨"FlashFiles", "requireNamed", "(IZ)V"⟩ ⟨"FlashFiles", "requireNamed", "(IZ)V"⟩ : Cond) ∈ TT := tts (q := (⟨"FlashFiles", "requireNamed", "(IZ)V"⟩, 14)) (List.mem_append_right _ (List.mem_append_left _ (List.mem_of_getElem? (i := 1) rfl)))
theorem qs2_2 : (Cond.selects "FlashFiles$Tree" ⟨"FlashFiles$Tree", "slotWord", "(II)I"⟩ ⟨"FlashFiles$Tree", "slotWord", "(II)I"⟩ : Cond) ∈ TT := tts (q := (⟨"FlashFiles$Tree", "slotWord", "(II)I"⟩, 5)) (List.mem_append_right _ (List.mem_append_left _ (List.mem_of_getElem? (i := 2) rfl)))
theorem qs2_3 : (Cond.selects "FlashFiles$Tree" ⟨"FlashFiles$Tree", "isName", "(I[I)Z"⟩ ⟨"FlashFiles$Tree", "isName", "(I[I)Z"⟩ : Cond) ∈ TT := tts (q := (⟨"FlashFiles$Tree", "isName", "(I[I)Z"⟩, 5)) (List.mem_append_right _ (List.mem_append_left _ (List.mem_of_getElem? (i := 3) rfl)))
theorem qs2_4 : (Cond.selects "FlashFiles" ⟨"FlashFiles", "requireNewId", "()V"⟩ ⟨"FlashFiles", "requireNewId", "()V"⟩ : Cond) ∈ TT := tts (q := (⟨"FlashFiles", "requireNewId", "()V"⟩, 14)) (List.mem_append_right _ (List.mem_append_left _ (List.mem_of_getElem? (i := 4) rfl)))
theorem qs2_5 : (Cond.selects "FlashFiles" ⟨"FlashFiles", "reserve", "(I)V"⟩ ⟨"FlashFiles", "reserve", "(I)V"⟩ : Cond) ∈ TT := tts (q := (⟨"FlashFiles", "reserve", "(I)V"⟩, 14)) (List.mem_append_right _ (List.mem_append_left _ (List.mem_of_getElem? (i := 5) rfl)))
theorem qs2_6 : (Cond.selects "FlashFiles" ⟨"FlashFiles", "failAtCut", "(Z)V"⟩ ⟨"FlashFiles", "failAtCut", "(Z)V"⟩ : Cond) ∈ TT := tts (q := (⟨"FlashFiles", "failAtCut", "(Z)V"⟩, 14)) (List.mem_append_right _ (List.mem_append_left _ (List.mem_of_getElem? (i := 6) rfl)))
theorem qs2_7 : (Cond.selects "FlashFiles" ⟨"FlashFiles", "losePower", "()V"⟩ ⟨"FlashFiles", "losePower", "()V"⟩ : Cond) ∈ TT := tts (q := (⟨"FlashFiles", "losePower", "()V"⟩, 14)) (List.mem_append_right _ (List.mem_append_left _ (List.mem_of_getElem? (i := 7) rfl)))
theorem qs2_8 : (Cond.selects "FlashFiles" ⟨"FlashFiles", "requireFile", "(I)V"⟩ ⟨"FlashFiles", "requireFile", "(I)V"⟩ : Cond) ∈ TT := tts (q := (⟨"FlashFiles", "requireFile", "(I)V"⟩, 14)) (List.mem_append_right _ (List.mem_append_left _ (List.mem_of_getElem? (i := 8) rfl)))
theorem qs2_9 : (Cond.selects "FlashFiles$Tree" ⟨"FlashFiles$Tree", "putWord", "(III)V"⟩ ⟨"FlashFiles$Tree", "putWord", "(III)V"⟩ : Cond) ∈ TT := tts (q := (⟨"FlashFiles$Tree", "putWord", "(III)V"⟩, 5)) (List.mem_append_right _ (List.mem_append_left _ (List.mem_of_getElem? (i := 9) rfl)))
theorem qs2_10 : (Cond.selects "FlashFiles" ⟨"FlashFiles", "requireOld", "(II)I"⟩ ⟨"FlashFiles", "requireOld", "(II)I"⟩ : Cond) ∈ TT := tts (q := (⟨"FlashFiles", "requireOld", "(II)I"⟩, 14)) (List.mem_append_right _ (List.mem_append_left _ (List.mem_of_getElem? (i := 10) rfl)))
theorem qs2_11 : (Cond.selects "FlashFiles" ⟨"FlashFiles", "loseLink", "(I)I"⟩ ⟨"FlashFiles", "loseLink", "(I)I"⟩ : Cond) ∈ TT := tts (q := (⟨"FlashFiles", "loseLink", "(I)I"⟩, 14)) (List.mem_append_right _ (List.mem_append_left _ (List.mem_of_getElem? (i := 11) rfl)))
theorem qs2_12 : (Cond.selects "FlashFiles$Files" ⟨"FlashFiles$Files", "dropWithData", "(I)V"⟩ ⟨"FlashFiles$Files", "dropWithData", "(I)V"⟩ : Cond) ∈ TT := tts (q := (⟨"FlashFiles$Files", "dropWithData", "(I)V"⟩, 11)) (List.mem_append_right _ (List.mem_append_left _ (List.mem_of_getElem? (i := 12) rfl)))
theorem qs2_13 : (Cond.selects "FlashFiles" ⟨"FlashFiles", "takeTwoNames", "(II)Z"⟩ ⟨"FlashFiles", "takeTwoNames", "(II)Z"⟩ : Cond) ∈ TT := tts (q := (⟨"FlashFiles", "takeTwoNames", "(II)Z"⟩, 14)) (List.mem_append_right _ (List.mem_append_left _ (List.mem_of_getElem? (i := 13) rfl)))
theorem qs2_14 : (Cond.selects "FlashFiles" ⟨"FlashFiles", "requireMovable", "(II)V"⟩ ⟨"FlashFiles", "requireMovable", "(II)V"⟩ : Cond) ∈ TT := tts (q := (⟨"FlashFiles", "requireMovable", "(II)V"⟩, 14)) (List.mem_append_right _ (List.mem_append_left _ (List.mem_of_getElem? (i := 14) rfl)))
theorem qs2_15 : (Cond.selects "FlashFiles" ⟨"FlashFiles", "requireTarget", "(IIII)V"⟩ ⟨"FlashFiles", "requireTarget", "(IIII)V"⟩ : Cond) ∈ TT := tts (q := (⟨"FlashFiles", "requireTarget", "(IIII)V"⟩, 14)) (List.mem_append_right _ (List.mem_append_left _ (List.mem_of_getElem? (i := 15) rfl)))
theorem qs3_0 : (Cond.selects "FlashFiles" ⟨"FlashFiles", "lose", "(I)V"⟩ ⟨"FlashFiles", "lose", "(I)V"⟩ : Cond) ∈ TT := tts (q := (⟨"FlashFiles", "lose", "(I)V"⟩, 14)) (List.mem_append_right _ (List.mem_append_right _ (List.mem_append_left _ (List.mem_of_getElem? (i := 0) rfl))))
theorem qs3_1 : (Cond.selects "FlashFiles$Files" ⟨"FlashFiles$Files", "begin", "(I)V"⟩ ⟨"FlashFiles$Files", "begin", "(I)V"⟩ : Cond) ∈ TT := tts (q := (⟨"FlashFiles$Files", "begin", "(I)V"⟩, 11)) (List.mem_append_right _ (List.mem_append_right _ (List.mem_append_left _ (List.mem_of_getElem? (i := 1) rfl))))
theorem qs3_2 : (Cond.selects "FlashFiles$Files" ⟨"FlashFiles$Files", "loadNode", "(I[I)V"⟩ ⟨"FlashFiles$Files", "loadNode", "(I[I)V"⟩ : Cond) ∈ TT := tts (q := (⟨"FlashFiles$Files", "loadNode", "(I[I)V"⟩, 11)) (List.mem_append_right _ (List.mem_append_right _ (List.mem_append_left _ (List.mem_of_getElem? (i := 2) rfl))))
theorem qs3_3 : (Cond.selects "FlashFiles$Files" ⟨"FlashFiles$Files", "leaveSmall", "()V"⟩ ⟨"FlashFiles$Files", "leaveSmall", "()V"⟩ : Cond) ∈ TT := tts (q := (⟨"FlashFiles$Files", "leaveSmall", "()V"⟩, 11)) (List.mem_append_right _ (List.mem_append_right _ (List.mem_append_left _ (List.mem_of_getElem? (i := 3) rfl))))
theorem qs3_4 : (Cond.selects "FlashFiles$Files" ⟨"FlashFiles$Files", "clearFrom", "([IIII)V"⟩ ⟨"FlashFiles$Files", "clearFrom", "([IIII)V"⟩ : Cond) ∈ TT := tts (q := (⟨"FlashFiles$Files", "clearFrom", "([IIII)V"⟩, 11)) (List.mem_append_right _ (List.mem_append_right _ (List.mem_append_left _ (List.mem_of_getElem? (i := 4) rfl))))
theorem qs3_5 : (Cond.selects "FlashFiles$Files" ⟨"FlashFiles$Files", "turnTo", "(I)V"⟩ ⟨"FlashFiles$Files", "turnTo", "(I)V"⟩ : Cond) ∈ TT := tts (q := (⟨"FlashFiles$Files", "turnTo", "(I)V"⟩, 11)) (List.mem_append_right _ (List.mem_append_right _ (List.mem_append_left _ (List.mem_of_getElem? (i := 5) rfl))))
theorem qs3_6 : (Cond.selects "FlashFiles$Files" ⟨"FlashFiles$Files", "closeNode", "()V"⟩ ⟨"FlashFiles$Files", "closeNode", "()V"⟩ : Cond) ∈ TT := tts (q := (⟨"FlashFiles$Files", "closeNode", "()V"⟩, 11)) (List.mem_append_right _ (List.mem_append_right _ (List.mem_append_left _ (List.mem_of_getElem? (i := 6) rfl))))
theorem qs3_7 : (Cond.selects "FlashFiles$Files" ⟨"FlashFiles$Files", "numberOf", "(I)I"⟩ ⟨"FlashFiles$Files", "numberOf", "(I)I"⟩ : Cond) ∈ TT := tts (q := (⟨"FlashFiles$Files", "numberOf", "(I)I"⟩, 11)) (List.mem_append_right _ (List.mem_append_right _ (List.mem_append_left _ (List.mem_of_getElem? (i := 7) rfl))))
theorem qs3_8 : (Cond.selects "FlashFiles$Files" ⟨"FlashFiles$Files", "storeNode", "(I[II)I"⟩ ⟨"FlashFiles$Files", "storeNode", "(I[II)I"⟩ : Cond) ∈ TT := tts (q := (⟨"FlashFiles$Files", "storeNode", "(I[II)I"⟩, 11)) (List.mem_append_right _ (List.mem_append_right _ (List.mem_append_left _ (List.mem_of_getElem? (i := 8) rfl))))
theorem qs3_9 : (Cond.selects "FlashFiles$Files" ⟨"FlashFiles$Files", "isEmpty", "([I)Z"⟩ ⟨"FlashFiles$Files", "isEmpty", "([I)Z"⟩ : Cond) ∈ TT := tts (q := (⟨"FlashFiles$Files", "isEmpty", "([I)Z"⟩, 11)) (List.mem_append_right _ (List.mem_append_right _ (List.mem_append_left _ (List.mem_of_getElem? (i := 9) rfl))))
theorem qs3_10 : (Cond.selects "FlashFiles$Files" ⟨"FlashFiles$Files", "setNumber", "(II)V"⟩ ⟨"FlashFiles$Files", "setNumber", "(II)V"⟩ : Cond) ∈ TT := tts (q := (⟨"FlashFiles$Files", "setNumber", "(II)V"⟩, 11)) (List.mem_append_right _ (List.mem_append_right _ (List.mem_append_left _ (List.mem_of_getElem? (i := 10) rfl))))
theorem qs3_11 : (Cond.selects "FlashFiles$Files" ⟨"FlashFiles$Files", "fillBlock", "(IIILFlashFiles$Row;)V"⟩ ⟨"FlashFiles$Files", "fillBlock", "(IIILFlashFiles$Row;)V"⟩ : Cond) ∈ TT := tts (q := (⟨"FlashFiles$Files", "fillBlock", "(IIILFlashFiles$Row;)V"⟩, 11)) (List.mem_append_right _ (List.mem_append_right _ (List.mem_append_left _ (List.mem_of_getElem? (i := 11) rfl))))
theorem qs3_12 : (Cond.selects "FlashFiles$Files" ⟨"FlashFiles$Files", "placeOf", "(I)I"⟩ ⟨"FlashFiles$Files", "placeOf", "(I)I"⟩ : Cond) ∈ TT := tts (q := (⟨"FlashFiles$Files", "placeOf", "(I)I"⟩, 11)) (List.mem_append_right _ (List.mem_append_right _ (List.mem_append_left _ (List.mem_of_getElem? (i := 12) rfl))))
theorem qs3_13 : (Cond.selects "FlashFiles$Files" ⟨"FlashFiles$Files", "loadBlock", "(I)V"⟩ ⟨"FlashFiles$Files", "loadBlock", "(I)V"⟩ : Cond) ∈ TT := tts (q := (⟨"FlashFiles$Files", "loadBlock", "(I)V"⟩, 11)) (List.mem_append_right _ (List.mem_append_right _ (List.mem_append_left _ (List.mem_of_getElem? (i := 13) rfl))))
theorem qs3_14 : (Cond.selects "FlashFiles$Files" ⟨"FlashFiles$Files", "setPlace", "(II)V"⟩ ⟨"FlashFiles$Files", "setPlace", "(II)V"⟩ : Cond) ∈ TT := tts (q := (⟨"FlashFiles$Files", "setPlace", "(II)V"⟩, 11)) (List.mem_append_right _ (List.mem_append_right _ (List.mem_append_left _ (List.mem_of_getElem? (i := 14) rfl))))
theorem qs3_15 : (Cond.selects "FlashFiles$Files" ⟨"FlashFiles$Files", "finish", "(I)V"⟩ ⟨"FlashFiles$Files", "finish", "(I)V"⟩ : Cond) ∈ TT := tts (q := (⟨"FlashFiles$Files", "finish", "(I)V"⟩, 11)) (List.mem_append_right _ (List.mem_append_right _ (List.mem_append_left _ (List.mem_of_getElem? (i := 15) rfl))))
theorem qs4_0 : (Cond.selects "FlashFiles$Files" ⟨"FlashFiles$Files", "clearTail", "(I)V"⟩ ⟨"FlashFiles$Files", "clearTail", "(I)V"⟩ : Cond) ∈ TT := tts (q := (⟨"FlashFiles$Files", "clearTail", "(I)V"⟩, 11)) (List.mem_append_right _ (List.mem_append_right _ (List.mem_append_right _ (List.mem_append_left _ (List.mem_of_getElem? (i := 0) rfl)))))
theorem qs4_1 : (Cond.selects "FlashFiles$Files" ⟨"FlashFiles$Files", "cutBlock", "(I)V"⟩ ⟨"FlashFiles$Files", "cutBlock", "(I)V"⟩ : Cond) ∈ TT := tts (q := (⟨"FlashFiles$Files", "cutBlock", "(I)V"⟩, 11)) (List.mem_append_right _ (List.mem_append_right _ (List.mem_append_right _ (List.mem_append_left _ (List.mem_of_getElem? (i := 1) rfl)))))
theorem qs4_2 : (Cond.selects "FlashFiles$Tree" ⟨"FlashFiles$Tree", "namesBefore", "(I)I"⟩ ⟨"FlashFiles$Tree", "namesBefore", "(I)I"⟩ : Cond) ∈ TT := tts (q := (⟨"FlashFiles$Tree", "namesBefore", "(I)I"⟩, 5)) (List.mem_append_right _ (List.mem_append_right _ (List.mem_append_right _ (List.mem_append_left _ (List.mem_of_getElem? (i := 2) rfl)))))
theorem qs4_3 : (Cond.selects "FlashFiles$Tree" ⟨"FlashFiles$Tree", "isBefore", "(II)Z"⟩ ⟨"FlashFiles$Tree", "isBefore", "(II)Z"⟩ : Cond) ∈ TT := tts (q := (⟨"FlashFiles$Tree", "isBefore", "(II)Z"⟩, 5)) (List.mem_append_right _ (List.mem_append_right _ (List.mem_append_right _ (List.mem_append_left _ (List.mem_of_getElem? (i := 3) rfl)))))
theorem qs4_4 : (Cond.selects "FlashFiles$Checkpoints" ⟨"FlashFiles$Checkpoints", "findMarks", "(I)I"⟩ ⟨"FlashFiles$Checkpoints", "findMarks", "(I)I"⟩ : Cond) ∈ TT := tts (q := (⟨"FlashFiles$Checkpoints", "findMarks", "(I)I"⟩, 11)) (List.mem_append_right _ (List.mem_append_right _ (List.mem_append_right _ (List.mem_append_left _ (List.mem_of_getElem? (i := 4) rfl)))))
theorem qs4_5 : (Cond.selects "FlashFiles$Checkpoints" ⟨"FlashFiles$Checkpoints", "goesOn", "(I)Z"⟩ ⟨"FlashFiles$Checkpoints", "goesOn", "(I)Z"⟩ : Cond) ∈ TT := tts (q := (⟨"FlashFiles$Checkpoints", "goesOn", "(I)Z"⟩, 11)) (List.mem_append_right _ (List.mem_append_right _ (List.mem_append_right _ (List.mem_append_left _ (List.mem_of_getElem? (i := 5) rfl)))))
theorem qs4_6 : (Cond.selects "FlashFiles$Checkpoints" ⟨"FlashFiles$Checkpoints", "bringForward", "(I)V"⟩ ⟨"FlashFiles$Checkpoints", "bringForward", "(I)V"⟩ : Cond) ∈ TT := tts (q := (⟨"FlashFiles$Checkpoints", "bringForward", "(I)V"⟩, 11)) (List.mem_append_right _ (List.mem_append_right _ (List.mem_append_right _ (List.mem_append_left _ (List.mem_of_getElem? (i := 6) rfl)))))
theorem qs4_7 : (Cond.selects "FlashFiles$Checkpoints" ⟨"FlashFiles$Checkpoints", "claimAll", "()V"⟩ ⟨"FlashFiles$Checkpoints", "claimAll", "()V"⟩ : Cond) ∈ TT := tts (q := (⟨"FlashFiles$Checkpoints", "claimAll", "()V"⟩, 11)) (List.mem_append_right _ (List.mem_append_right _ (List.mem_append_right _ (List.mem_append_left _ (List.mem_of_getElem? (i := 7) rfl)))))
theorem qs4_8 : (Cond.selects "FlashFiles$Checkpoints" ⟨"FlashFiles$Checkpoints", "claimNode", "(I)V"⟩ ⟨"FlashFiles$Checkpoints", "claimNode", "(I)V"⟩ : Cond) ∈ TT := tts (q := (⟨"FlashFiles$Checkpoints", "claimNode", "(I)V"⟩, 11)) (List.mem_append_right _ (List.mem_append_right _ (List.mem_append_right _ (List.mem_append_left _ (List.mem_of_getElem? (i := 8) rfl)))))
theorem qs4_9 : (Cond.selects "FlashFiles$Inspector" ⟨"FlashFiles$Inspector", "inspectNode", "(II)V"⟩ ⟨"FlashFiles$Inspector", "inspectNode", "(II)V"⟩ : Cond) ∈ TT := tts (q := (⟨"FlashFiles$Inspector", "inspectNode", "(II)V"⟩, 8)) (List.mem_append_right _ (List.mem_append_right _ (List.mem_append_right _ (List.mem_append_left _ (List.mem_of_getElem? (i := 9) rfl)))))
theorem qs4_10 : (Cond.selects "FlashFiles$Inspector" ⟨"FlashFiles$Inspector", "own", "(II)V"⟩ ⟨"FlashFiles$Inspector", "own", "(II)V"⟩ : Cond) ∈ TT := tts (q := (⟨"FlashFiles$Inspector", "own", "(II)V"⟩, 8)) (List.mem_append_right _ (List.mem_append_right _ (List.mem_append_right _ (List.mem_append_left _ (List.mem_of_getElem? (i := 10) rfl)))))
theorem qs4_11 : (Cond.selects "FlashFiles$Inspector" ⟨"FlashFiles$Inspector", "expect", "(Z)V"⟩ ⟨"FlashFiles$Inspector", "expect", "(Z)V"⟩ : Cond) ∈ TT := tts (q := (⟨"FlashFiles$Inspector", "expect", "(Z)V"⟩, 8)) (List.mem_append_right _ (List.mem_append_right _ (List.mem_append_right _ (List.mem_append_left _ (List.mem_of_getElem? (i := 11) rfl)))))
theorem qs4_12 : (Cond.selects "FlashFiles$Inspector" ⟨"FlashFiles$Inspector", "inspectIndirect", "(II)V"⟩ ⟨"FlashFiles$Inspector", "inspectIndirect", "(II)V"⟩ : Cond) ∈ TT := tts (q := (⟨"FlashFiles$Inspector", "inspectIndirect", "(II)V"⟩, 8)) (List.mem_append_right _ (List.mem_append_right _ (List.mem_append_right _ (List.mem_append_left _ (List.mem_of_getElem? (i := 12) rfl)))))
theorem qs4_13 : (Cond.selects "FlashFiles$Inspector" ⟨"FlashFiles$Inspector", "lead", "(I)V"⟩ ⟨"FlashFiles$Inspector", "lead", "(I)V"⟩ : Cond) ∈ TT := tts (q := (⟨"FlashFiles$Inspector", "lead", "(I)V"⟩, 8)) (List.mem_append_right _ (List.mem_append_right _ (List.mem_append_right _ (List.mem_append_left _ (List.mem_of_getElem? (i := 13) rfl)))))
theorem qs4_14 : (Cond.selects "FlashFiles$Inspector" ⟨"FlashFiles$Inspector", "inspectDirectory", "(II)V"⟩ ⟨"FlashFiles$Inspector", "inspectDirectory", "(II)V"⟩ : Cond) ∈ TT := tts (q := (⟨"FlashFiles$Inspector", "inspectDirectory", "(II)V"⟩, 8)) (List.mem_append_right _ (List.mem_append_right _ (List.mem_append_right _ (List.mem_append_left _ (List.mem_of_getElem? (i := 14) rfl)))))
theorem qs4_15 : (Cond.selects "FlashFiles$Inspector" ⟨"FlashFiles$Inspector", "inspectFile", "(II)V"⟩ ⟨"FlashFiles$Inspector", "inspectFile", "(II)V"⟩ : Cond) ∈ TT := tts (q := (⟨"FlashFiles$Inspector", "inspectFile", "(II)V"⟩, 8)) (List.mem_append_right _ (List.mem_append_right _ (List.mem_append_right _ (List.mem_append_left _ (List.mem_of_getElem? (i := 15) rfl)))))
theorem qs5_0 : (Cond.selects "FlashFiles$Inspector" ⟨"FlashFiles$Inspector", "placeOfBlock", "(II)I"⟩ ⟨"FlashFiles$Inspector", "placeOfBlock", "(II)I"⟩ : Cond) ∈ TT := tts (q := (⟨"FlashFiles$Inspector", "placeOfBlock", "(II)I"⟩, 8)) (List.mem_append_right _ (List.mem_append_right _ (List.mem_append_right _ (List.mem_append_right _ (List.mem_append_left _ (List.mem_of_getElem? (i := 0) rfl))))))
theorem qs5_1 : (Cond.selects "FlashFiles$Inspector" ⟨"FlashFiles$Inspector", "inspectLed", "(II)V"⟩ ⟨"FlashFiles$Inspector", "inspectLed", "(II)V"⟩ : Cond) ∈ TT := tts (q := (⟨"FlashFiles$Inspector", "inspectLed", "(II)V"⟩, 8)) (List.mem_append_right _ (List.mem_append_right _ (List.mem_append_right _ (List.mem_append_right _ (List.mem_append_left _ (List.mem_of_getElem? (i := 1) rfl))))))
theorem qs5_2 : (Cond.selects "FlashFiles$Inspector" ⟨"FlashFiles$Inspector", "inspectSegment", "(I)V"⟩ ⟨"FlashFiles$Inspector", "inspectSegment", "(I)V"⟩ : Cond) ∈ TT := tts (q := (⟨"FlashFiles$Inspector", "inspectSegment", "(I)V"⟩, 8)) (List.mem_append_right _ (List.mem_append_right _ (List.mem_append_right _ (List.mem_append_right _ (List.mem_append_left _ (List.mem_of_getElem? (i := 2) rfl))))))
theorem qs5_3 : (Cond.selects "FlashFiles$Inspector" ⟨"FlashFiles$Inspector", "inspectFree", "()V"⟩ ⟨"FlashFiles$Inspector", "inspectFree", "()V"⟩ : Cond) ∈ TT := tts (q := (⟨"FlashFiles$Inspector", "inspectFree", "()V"⟩, 8)) (List.mem_append_right _ (List.mem_append_right _ (List.mem_append_right _ (List.mem_append_right _ (List.mem_append_left _ (List.mem_of_getElem? (i := 3) rfl))))))
theorem qs5_4 : (Cond.selects "FlashFilesModel" ⟨"FlashFilesModel", "throwing", "(ZZ)Z"⟩ ⟨"FlashFilesModel", "throwing", "(ZZ)Z"⟩ : Cond) ∈ TT := tts (q := (⟨"FlashFilesModel", "throwing", "(ZZ)Z"⟩, 33)) (List.mem_append_right _ (List.mem_append_right _ (List.mem_append_right _ (List.mem_append_right _ (List.mem_append_left _ (List.mem_of_getElem? (i := 4) rfl))))))
theorem qs5_5 : (Cond.selects "FlashFilesModel" ⟨"FlashFilesModel", "checkpoint", "()Z"⟩ ⟨"FlashFilesModel", "checkpoint", "()Z"⟩ : Cond) ∈ TT := tts (q := (⟨"FlashFilesModel", "checkpoint", "()Z"⟩, 33)) (List.mem_append_right _ (List.mem_append_right _ (List.mem_append_right _ (List.mem_append_right _ (List.mem_append_left _ (List.mem_of_getElem? (i := 5) rfl))))))
theorem qs5_6 : (Cond.selects "FlashFilesModel" ⟨"FlashFilesModel", "isCut", "()Z"⟩ ⟨"FlashFilesModel", "isCut", "()Z"⟩ : Cond) ∈ TT := tts (q := (⟨"FlashFilesModel", "isCut", "()Z"⟩, 33)) (List.mem_append_right _ (List.mem_append_right _ (List.mem_append_right _ (List.mem_append_right _ (List.mem_append_left _ (List.mem_of_getElem? (i := 6) rfl))))))
theorem qs5_7 : (Cond.selects "FlashFilesModel" ⟨"FlashFilesModel", "copyFile", "(III)V"⟩ ⟨"FlashFilesModel", "copyFile", "(III)V"⟩ : Cond) ∈ TT := tts (q := (⟨"FlashFilesModel", "copyFile", "(III)V"⟩, 33)) (List.mem_append_right _ (List.mem_append_right _ (List.mem_append_right _ (List.mem_append_right _ (List.mem_append_left _ (List.mem_of_getElem? (i := 7) rfl))))))
theorem qs5_8 : (Cond.selects "FlashFilesModel" ⟨"FlashFilesModel", "leave", "(I)V"⟩ ⟨"FlashFilesModel", "leave", "(I)V"⟩ : Cond) ∈ TT := tts (q := (⟨"FlashFilesModel", "leave", "(I)V"⟩, 33)) (List.mem_append_right _ (List.mem_append_right _ (List.mem_append_right _ (List.mem_append_right _ (List.mem_append_left _ (List.mem_of_getElem? (i := 8) rfl))))))
theorem qs5_9 : (Cond.selects "FlashFilesModel" ⟨"FlashFilesModel", "drop", "(II)V"⟩ ⟨"FlashFilesModel", "drop", "(II)V"⟩ : Cond) ∈ TT := tts (q := (⟨"FlashFilesModel", "drop", "(II)V"⟩, 33)) (List.mem_append_right _ (List.mem_append_right _ (List.mem_append_right _ (List.mem_append_right _ (List.mem_append_left _ (List.mem_of_getElem? (i := 9) rfl))))))
theorem qs5_10 : (Cond.selects "FlashFilesModel" ⟨"FlashFilesModel", "inUse", "()I"⟩ ⟨"FlashFilesModel", "inUse", "()I"⟩ : Cond) ∈ TT := tts (q := (⟨"FlashFilesModel", "inUse", "()I"⟩, 33)) (List.mem_append_right _ (List.mem_append_right _ (List.mem_append_right _ (List.mem_append_right _ (List.mem_append_left _ (List.mem_of_getElem? (i := 10) rfl))))))
theorem qs5_11 : (Cond.selects "FlashFilesModel" ⟨"FlashFilesModel", "blocksOf", "(I)I"⟩ ⟨"FlashFilesModel", "blocksOf", "(I)I"⟩ : Cond) ∈ TT := tts (q := (⟨"FlashFilesModel", "blocksOf", "(I)I"⟩, 33)) (List.mem_append_right _ (List.mem_append_right _ (List.mem_append_right _ (List.mem_append_right _ (List.mem_append_left _ (List.mem_of_getElem? (i := 11) rfl))))))
theorem qs5_12 : (Cond.selects "FlashFilesModel" ⟨"FlashFilesModel", "namesOf", "(I)I"⟩ ⟨"FlashFilesModel", "namesOf", "(I)I"⟩ : Cond) ∈ TT := tts (q := (⟨"FlashFilesModel", "namesOf", "(I)I"⟩, 33)) (List.mem_append_right _ (List.mem_append_right _ (List.mem_append_right _ (List.mem_append_right _ (List.mem_append_left _ (List.mem_of_getElem? (i := 12) rfl))))))
theorem qs5_13 : (Cond.selects "FlashFilesModel" ⟨"FlashFilesModel", "create", "(III)I"⟩ ⟨"FlashFilesModel", "create", "(III)I"⟩ : Cond) ∈ TT := tts (q := (⟨"FlashFilesModel", "create", "(III)I"⟩, 33)) (List.mem_append_right _ (List.mem_append_right _ (List.mem_append_right _ (List.mem_append_right _ (List.mem_append_left _ (List.mem_of_getElem? (i := 13) rfl))))))
theorem qs5_14 : (Cond.selects "FlashFilesModel" ⟨"FlashFilesModel", "isOff", "()Z"⟩ ⟨"FlashFilesModel", "isOff", "()Z"⟩ : Cond) ∈ TT := tts (q := (⟨"FlashFilesModel", "isOff", "()Z"⟩, 33)) (List.mem_append_right _ (List.mem_append_right _ (List.mem_append_right _ (List.mem_append_right _ (List.mem_append_left _ (List.mem_of_getElem? (i := 14) rfl))))))
theorem qs5_15 : (Cond.selects "FlashFilesModel" ⟨"FlashFilesModel", "is", "(II)Z"⟩ ⟨"FlashFilesModel", "is", "(II)Z"⟩ : Cond) ∈ TT := tts (q := (⟨"FlashFilesModel", "is", "(II)Z"⟩, 33)) (List.mem_append_right _ (List.mem_append_right _ (List.mem_append_right _ (List.mem_append_right _ (List.mem_append_left _ (List.mem_of_getElem? (i := 15) rfl))))))
theorem qs6_0 : (Cond.selects "FlashFilesModel" ⟨"FlashFilesModel", "isName", "(II)Z"⟩ ⟨"FlashFilesModel", "isName", "(II)Z"⟩ : Cond) ∈ TT := tts (q := (⟨"FlashFilesModel", "isName", "(II)Z"⟩, 33)) (List.mem_append_right _ (List.mem_append_right _ (List.mem_append_right _ (List.mem_append_right _ (List.mem_append_right _ (List.mem_of_getElem? (i := 0) rfl))))))
theorem qs6_1 : (Cond.selects "FlashFilesModel" ⟨"FlashFilesModel", "seek", "(III)I"⟩ ⟨"FlashFilesModel", "seek", "(III)I"⟩ : Cond) ∈ TT := tts (q := (⟨"FlashFilesModel", "seek", "(III)I"⟩, 33)) (List.mem_append_right _ (List.mem_append_right _ (List.mem_append_right _ (List.mem_append_right _ (List.mem_append_right _ (List.mem_of_getElem? (i := 1) rfl))))))
theorem qs6_2 : (Cond.selects "FlashFilesModel" ⟨"FlashFilesModel", "freeId", "()I"⟩ ⟨"FlashFilesModel", "freeId", "()I"⟩ : Cond) ∈ TT := tts (q := (⟨"FlashFilesModel", "freeId", "()I"⟩, 33)) (List.mem_append_right _ (List.mem_append_right _ (List.mem_append_right _ (List.mem_append_right _ (List.mem_append_right _ (List.mem_of_getElem? (i := 2) rfl))))))
theorem qs6_3 : (Cond.selects "FlashFilesModel" ⟨"FlashFilesModel", "done", "()V"⟩ ⟨"FlashFilesModel", "done", "()V"⟩ : Cond) ∈ TT := tts (q := (⟨"FlashFilesModel", "done", "()V"⟩, 33)) (List.mem_append_right _ (List.mem_append_right _ (List.mem_append_right _ (List.mem_append_right _ (List.mem_append_right _ (List.mem_of_getElem? (i := 3) rfl))))))
theorem qs6_4 : (Cond.selects "FlashFilesModel" ⟨"FlashFilesModel", "stops", "(I)Z"⟩ ⟨"FlashFilesModel", "stops", "(I)Z"⟩ : Cond) ∈ TT := tts (q := (⟨"FlashFilesModel", "stops", "(I)Z"⟩, 33)) (List.mem_append_right _ (List.mem_append_right _ (List.mem_append_right _ (List.mem_append_right _ (List.mem_append_right _ (List.mem_of_getElem? (i := 4) rfl))))))
theorem qs6_5 : (Cond.selects "FlashFilesModel" ⟨"FlashFilesModel", "addEntry", "(III)V"⟩ ⟨"FlashFilesModel", "addEntry", "(III)V"⟩ : Cond) ∈ TT := tts (q := (⟨"FlashFilesModel", "addEntry", "(III)V"⟩, 33)) (List.mem_append_right _ (List.mem_append_right _ (List.mem_append_right _ (List.mem_append_right _ (List.mem_append_right _ (List.mem_of_getElem? (i := 5) rfl))))))
theorem qs6_6 : (Cond.selects "FlashFilesModel" ⟨"FlashFilesModel", "nameEntry", "(IIII)V"⟩ ⟨"FlashFilesModel", "nameEntry", "(IIII)V"⟩ : Cond) ∈ TT := tts (q := (⟨"FlashFilesModel", "nameEntry", "(IIII)V"⟩, 33)) (List.mem_append_right _ (List.mem_append_right _ (List.mem_append_right _ (List.mem_append_right _ (List.mem_append_right _ (List.mem_of_getElem? (i := 6) rfl))))))
theorem qs6_7 : (Cond.selects "FlashFilesModel" ⟨"FlashFilesModel", "removeEntry", "(I)V"⟩ ⟨"FlashFilesModel", "removeEntry", "(I)V"⟩ : Cond) ∈ TT := tts (q := (⟨"FlashFilesModel", "removeEntry", "(I)V"⟩, 33)) (List.mem_append_right _ (List.mem_append_right _ (List.mem_append_right _ (List.mem_append_right _ (List.mem_append_right _ (List.mem_of_getElem? (i := 7) rfl))))))
theorem qs6_8 : (Cond.selects "FlashFilesModel" ⟨"FlashFilesModel", "loosen", "(I)I"⟩ ⟨"FlashFilesModel", "loosen", "(I)I"⟩ : Cond) ∈ TT := tts (q := (⟨"FlashFilesModel", "loosen", "(I)I"⟩, 33)) (List.mem_append_right _ (List.mem_append_right _ (List.mem_append_right _ (List.mem_append_right _ (List.mem_append_right _ (List.mem_of_getElem? (i := 8) rfl))))))
theorem qs6_9 : (Cond.selects "FlashFilesModel" ⟨"FlashFilesModel", "isRefused", "(IIII)Z"⟩ ⟨"FlashFilesModel", "isRefused", "(IIII)Z"⟩ : Cond) ∈ TT := tts (q := (⟨"FlashFilesModel", "isRefused", "(IIII)Z"⟩, 33)) (List.mem_append_right _ (List.mem_append_right _ (List.mem_append_right _ (List.mem_append_right _ (List.mem_append_right _ (List.mem_of_getElem? (i := 9) rfl))))))
theorem qs6_10 : (Cond.selects "FlashFilesModel" ⟨"FlashFilesModel", "isWithin", "(II)Z"⟩ ⟨"FlashFilesModel", "isWithin", "(II)Z"⟩ : Cond) ∈ TT := tts (q := (⟨"FlashFilesModel", "isWithin", "(II)Z"⟩, 33)) (List.mem_append_right _ (List.mem_append_right _ (List.mem_append_right _ (List.mem_append_right _ (List.mem_append_right _ (List.mem_of_getElem? (i := 10) rfl))))))
theorem qs6_11 : (Cond.selects "FlashFilesModel" ⟨"FlashFilesModel", "isBefore", "(II)Z"⟩ ⟨"FlashFilesModel", "isBefore", "(II)Z"⟩ : Cond) ∈ TT := tts (q := (⟨"FlashFilesModel", "isBefore", "(II)Z"⟩, 33)) (List.mem_append_right _ (List.mem_append_right _ (List.mem_append_right _ (List.mem_append_right _ (List.mem_append_right _ (List.mem_of_getElem? (i := 11) rfl))))))
theorem qs6_12 : (Cond.selects "FlashFilesModel" ⟨"FlashFilesModel", "grow", "(II)V"⟩ ⟨"FlashFilesModel", "grow", "(II)V"⟩ : Cond) ∈ TT := tts (q := (⟨"FlashFilesModel", "grow", "(II)V"⟩, 33)) (List.mem_append_right _ (List.mem_append_right _ (List.mem_append_right _ (List.mem_append_right _ (List.mem_append_right _ (List.mem_of_getElem? (i := 12) rfl))))))
theorem qs6_13 : (Cond.selects "FlashFilesModel" ⟨"FlashFilesModel", "own", "(II)I"⟩ ⟨"FlashFilesModel", "own", "(II)I"⟩ : Cond) ∈ TT := tts (q := (⟨"FlashFilesModel", "own", "(II)I"⟩, 33)) (List.mem_append_right _ (List.mem_append_right _ (List.mem_append_right _ (List.mem_append_right _ (List.mem_append_right _ (List.mem_of_getElem? (i := 13) rfl))))))
theorem qs6_14 : (Cond.selects "FlashFilesModel" ⟨"FlashFilesModel", "take", "()I"⟩ ⟨"FlashFilesModel", "take", "()I"⟩ : Cond) ∈ TT := tts (q := (⟨"FlashFilesModel", "take", "()I"⟩, 33)) (List.mem_append_right _ (List.mem_append_right _ (List.mem_append_right _ (List.mem_append_right _ (List.mem_append_right _ (List.mem_of_getElem? (i := 14) rfl))))))
theorem qs6_15 : (Cond.selects "FlashFilesModel" ⟨"FlashFilesModel", "ids", "()I"⟩ ⟨"FlashFilesModel", "ids", "()I"⟩ : Cond) ∈ TT := tts (q := (⟨"FlashFilesModel", "ids", "()I"⟩, 33)) (List.mem_append_right _ (List.mem_append_right _ (List.mem_append_right _ (List.mem_append_right _ (List.mem_append_right _ (List.mem_of_getElem? (i := 15) rfl))))))
abbrev R_FF : String := "FlashFiles"
def F_FF : u_T := fun k => match k with
  | 0 => ("FlashFiles", "onTape", "LFlashFiles$Row;", true)
  | 1 => ("FlashFiles", "told", "LFlashFiles$Row;", true)
  | 2 => ("FlashFiles", "first", "[I", true)
  | 3 => ("FlashFiles", "second", "[I", true)
  | 4 => ("FlashFiles", "device", "LFlashFiles$Device;", true)
  | 5 => ("FlashFiles", "table", "LFlashFiles$Table;", true)
  | 6 => ("FlashFiles", "log", "LFlashFiles$Log;", true)
  | 7 => ("FlashFiles", "files", "LFlashFiles$Files;", true)
  | 8 => ("FlashFiles", "tree", "LFlashFiles$Tree;", true)
  | 9 => ("FlashFiles", "checkpoints", "LFlashFiles$Checkpoints;", true)
  | 10 => ("FlashFiles", "inspector", "LFlashFiles$Inspector;", true)
  | 11 => ("FlashFiles", "state", "I", false)
  | 12 => ("FlashFiles", "cutAfter", "I", false)
  | _ => ("FlashFiles", "broughtForward", "I", false)
def ft_FF : Nat → FieldType := fun k => match k with
  | 0 => .object "FlashFiles$Row"
  | 1 => .object "FlashFiles$Row"
  | 2 => .array .int
  | 3 => .array .int
  | 4 => .object "FlashFiles$Device"
  | 5 => .object "FlashFiles$Table"
  | 6 => .object "FlashFiles$Log"
  | 7 => .object "FlashFiles$Files"
  | 8 => .object "FlashFiles$Tree"
  | 9 => .object "FlashFiles$Checkpoints"
  | 10 => .object "FlashFiles$Inspector"
  | 11 => .int
  | 12 => .int
  | _ => .int
theorem n_FF : ∀ a, a < 14 → ∀ b, b < 14 → a ≠ b → (F_FF a).2.1 ≠ (F_FF b).2.1 := by decide +kernel
theorem ft_FF_ok : ∀ k, k < 14 → parseFieldDescriptor (F_FF k).2.2.1 = some (ft_FF k) := by decide +kernel
theorem in_FF : ∀ w ∈ u_ws R_FF F_FF 14, w ∈ TT := List.forall_mem_cons.mpr ⟨q2_60, List.forall_mem_cons.mpr ⟨q2_62, List.forall_mem_cons.mpr ⟨q2_64, List.forall_mem_cons.mpr ⟨q2_66, List.forall_mem_cons.mpr ⟨q2_68, List.forall_mem_cons.mpr ⟨q2_70, List.forall_mem_cons.mpr ⟨q2_72, List.forall_mem_cons.mpr ⟨q2_74, List.forall_mem_cons.mpr ⟨q2_76, List.forall_mem_cons.mpr ⟨q2_78, List.forall_mem_cons.mpr ⟨q2_80, List.forall_mem_cons.mpr ⟨q2_82, List.forall_mem_cons.mpr ⟨q2_84, List.forall_mem_cons.mpr ⟨q2_86, fun _ h => absurd h List.not_mem_nil⟩⟩⟩⟩⟩⟩⟩⟩⟩⟩⟩⟩⟩⟩
abbrev R_Row : String := "FlashFiles$Row"
def F_Row : u_T := fun k => match k with
  | 0 => ("FlashFiles$Row", "bytes", "[I", true)
  | _ => ("FlashFiles$Row", "length", "I", false)
def ft_Row : Nat → FieldType := fun k => match k with
  | 0 => .array .int
  | _ => .int
theorem n_Row : ∀ a, a < 2 → ∀ b, b < 2 → a ≠ b → (F_Row a).2.1 ≠ (F_Row b).2.1 := by decide +kernel
theorem ft_Row_ok : ∀ k, k < 2 → parseFieldDescriptor (F_Row k).2.2.1 = some (ft_Row k) := by decide +kernel
theorem in_Row : ∀ w ∈ u_ws R_Row F_Row 2, w ∈ TT := List.forall_mem_cons.mpr ⟨q1_45, List.forall_mem_cons.mpr ⟨q1_47, fun _ h => absurd h List.not_mem_nil⟩⟩
abbrev R_Dev : String := "FlashFiles$Device"
def F_Dev : u_T := fun k => match k with
  | 0 => ("FlashFiles$Device", "words", "[I", true)
  | 1 => ("FlashFiles$Device", "written", "[Z", true)
  | _ => ("FlashFiles$Device", "spoiled", "I", false)
def ft_Dev : Nat → FieldType := fun k => match k with
  | 0 => .array .int
  | 1 => .array .boolean
  | _ => .int
theorem n_Dev : ∀ a, a < 3 → ∀ b, b < 3 → a ≠ b → (F_Dev a).2.1 ≠ (F_Dev b).2.1 := by decide +kernel
theorem ft_Dev_ok : ∀ k, k < 3 → parseFieldDescriptor (F_Dev k).2.2.1 = some (ft_Dev k) := by decide +kernel
theorem in_Dev : ∀ w ∈ u_ws R_Dev F_Dev 3, w ∈ TT := List.forall_mem_cons.mpr ⟨q1_61, List.forall_mem_cons.mpr ⟨q1_63, List.forall_mem_cons.mpr ⟨q1_65, fun _ h => absurd h List.not_mem_nil⟩⟩⟩
abbrev R_Tab : String := "FlashFiles$Table"
def F_Tab : u_T := fun k => match k with
  | 0 => ("FlashFiles$Table", "places", "[I", true)
  | 1 => ("FlashFiles$Table", "kept", "[I", true)
  | _ => ("FlashFiles$Table", "stirred", "[Z", true)
def ft_Tab : Nat → FieldType := fun k => match k with
  | 0 => .array .int
  | 1 => .array .int
  | _ => .array .boolean
theorem n_Tab : ∀ a, a < 3 → ∀ b, b < 3 → a ≠ b → (F_Tab a).2.1 ≠ (F_Tab b).2.1 := by decide +kernel
theorem ft_Tab_ok : ∀ k, k < 3 → parseFieldDescriptor (F_Tab k).2.2.1 = some (ft_Tab k) := by decide +kernel
theorem in_Tab : ∀ w ∈ u_ws R_Tab F_Tab 3, w ∈ TT := List.forall_mem_cons.mpr ⟨q1_78, List.forall_mem_cons.mpr ⟨q1_80, List.forall_mem_cons.mpr ⟨q1_82, fun _ h => absurd h List.not_mem_nil⟩⟩⟩
abbrev R_Log : String := "FlashFiles$Log"
def F_Log : u_T := fun k => match k with
  | 0 => ("FlashFiles$Log", "device", "LFlashFiles$Device;", true)
  | 1 => ("FlashFiles$Log", "table", "LFlashFiles$Table;", true)
  | 2 => ("FlashFiles$Log", "use", "[I", true)
  | 3 => ("FlashFiles$Log", "nodes", "[I", true)
  | 4 => ("FlashFiles$Log", "data", "[I", true)
  | 5 => ("FlashFiles$Log", "free", "[Z", true)
  | 6 => ("FlashFiles$Log", "segments", "I", false)
  | 7 => ("FlashFiles$Log", "freeSegments", "I", false)
  | 8 => ("FlashFiles$Log", "nodeEnd", "I", false)
  | 9 => ("FlashFiles$Log", "dataEnd", "I", false)
  | 10 => ("FlashFiles$Log", "lastOpened", "I", false)
  | _ => ("FlashFiles$Log", "serial", "I", false)
def ft_Log : Nat → FieldType := fun k => match k with
  | 0 => .object "FlashFiles$Device"
  | 1 => .object "FlashFiles$Table"
  | 2 => .array .int
  | 3 => .array .int
  | 4 => .array .int
  | 5 => .array .boolean
  | 6 => .int
  | 7 => .int
  | 8 => .int
  | 9 => .int
  | 10 => .int
  | _ => .int
theorem n_Log : ∀ a, a < 12 → ∀ b, b < 12 → a ≠ b → (F_Log a).2.1 ≠ (F_Log b).2.1 := by decide +kernel
theorem ft_Log_ok : ∀ k, k < 12 → parseFieldDescriptor (F_Log k).2.2.1 = some (ft_Log k) := by decide +kernel
theorem in_Log : ∀ w ∈ u_ws R_Log F_Log 12, w ∈ TT := List.forall_mem_cons.mpr ⟨q1_103, List.forall_mem_cons.mpr ⟨q1_105, List.forall_mem_cons.mpr ⟨q1_107, List.forall_mem_cons.mpr ⟨q1_109, List.forall_mem_cons.mpr ⟨q1_111, List.forall_mem_cons.mpr ⟨q1_113, List.forall_mem_cons.mpr ⟨q1_115, List.forall_mem_cons.mpr ⟨q1_117, List.forall_mem_cons.mpr ⟨q1_119, List.forall_mem_cons.mpr ⟨q1_121, List.forall_mem_cons.mpr ⟨q1_123, List.forall_mem_cons.mpr ⟨q1_125, fun _ h => absurd h List.not_mem_nil⟩⟩⟩⟩⟩⟩⟩⟩⟩⟩⟩⟩
abbrev R_Fil : String := "FlashFiles$Files"
def F_Fil : u_T := fun k => match k with
  | 0 => ("FlashFiles$Files", "device", "LFlashFiles$Device;", true)
  | 1 => ("FlashFiles$Files", "table", "LFlashFiles$Table;", true)
  | 2 => ("FlashFiles$Files", "log", "LFlashFiles$Log;", true)
  | 3 => ("FlashFiles$Files", "inode", "[I", true)
  | 4 => ("FlashFiles$Files", "indirect", "[I", true)
  | 5 => ("FlashFiles$Files", "direct", "[I", true)
  | 6 => ("FlashFiles$Files", "block", "[I", true)
  | 7 => ("FlashFiles$Files", "id", "I", false)
  | 8 => ("FlashFiles$Files", "opened", "I", false)
  | 9 => ("FlashFiles$Files", "directChanged", "Z", false)
  | _ => ("FlashFiles$Files", "indirectChanged", "Z", false)
def ft_Fil : Nat → FieldType := fun k => match k with
  | 0 => .object "FlashFiles$Device"
  | 1 => .object "FlashFiles$Table"
  | 2 => .object "FlashFiles$Log"
  | 3 => .array .int
  | 4 => .array .int
  | 5 => .array .int
  | 6 => .array .int
  | 7 => .int
  | 8 => .int
  | 9 => .boolean
  | _ => .boolean
theorem n_Fil : ∀ a, a < 11 → ∀ b, b < 11 → a ≠ b → (F_Fil a).2.1 ≠ (F_Fil b).2.1 := by decide +kernel
theorem ft_Fil_ok : ∀ k, k < 11 → parseFieldDescriptor (F_Fil k).2.2.1 = some (ft_Fil k) := by decide +kernel
theorem in_Fil : ∀ w ∈ u_ws R_Fil F_Fil 11, w ∈ TT := List.forall_mem_cons.mpr ⟨q1_145, List.forall_mem_cons.mpr ⟨q1_147, List.forall_mem_cons.mpr ⟨q1_149, List.forall_mem_cons.mpr ⟨q1_151, List.forall_mem_cons.mpr ⟨q1_153, List.forall_mem_cons.mpr ⟨q1_155, List.forall_mem_cons.mpr ⟨q1_157, List.forall_mem_cons.mpr ⟨q1_159, List.forall_mem_cons.mpr ⟨q1_161, List.forall_mem_cons.mpr ⟨q1_163, List.forall_mem_cons.mpr ⟨q1_165, fun _ h => absurd h List.not_mem_nil⟩⟩⟩⟩⟩⟩⟩⟩⟩⟩⟩
abbrev R_Tre : String := "FlashFiles$Tree"
def F_Tre : u_T := fun k => match k with
  | 0 => ("FlashFiles$Tree", "device", "LFlashFiles$Device;", true)
  | 1 => ("FlashFiles$Tree", "table", "LFlashFiles$Table;", true)
  | 2 => ("FlashFiles$Tree", "log", "LFlashFiles$Log;", true)
  | 3 => ("FlashFiles$Tree", "inode", "[I", true)
  | _ => ("FlashFiles$Tree", "entry", "[I", true)
def ft_Tre : Nat → FieldType := fun k => match k with
  | 0 => .object "FlashFiles$Device"
  | 1 => .object "FlashFiles$Table"
  | 2 => .object "FlashFiles$Log"
  | 3 => .array .int
  | _ => .array .int
theorem n_Tre : ∀ a, a < 5 → ∀ b, b < 5 → a ≠ b → (F_Tre a).2.1 ≠ (F_Tre b).2.1 := by decide +kernel
theorem ft_Tre_ok : ∀ k, k < 5 → parseFieldDescriptor (F_Tre k).2.2.1 = some (ft_Tre k) := by decide +kernel
theorem in_Tre : ∀ w ∈ u_ws R_Tre F_Tre 5, w ∈ TT := List.forall_mem_cons.mpr ⟨q1_179, List.forall_mem_cons.mpr ⟨q1_181, List.forall_mem_cons.mpr ⟨q1_183, List.forall_mem_cons.mpr ⟨q1_185, List.forall_mem_cons.mpr ⟨q1_187, fun _ h => absurd h List.not_mem_nil⟩⟩⟩⟩⟩
abbrev R_Cle : String := "FlashFiles$Cleaner"
def F_Cle : u_T := fun k => match k with
  | 0 => ("FlashFiles$Cleaner", "device", "LFlashFiles$Device;", true)
  | 1 => ("FlashFiles$Cleaner", "table", "LFlashFiles$Table;", true)
  | 2 => ("FlashFiles$Cleaner", "log", "LFlashFiles$Log;", true)
  | 3 => ("FlashFiles$Cleaner", "victims", "[Z", true)
  | 4 => ("FlashFiles$Cleaner", "node", "[I", true)
  | _ => ("FlashFiles$Cleaner", "block", "[I", true)
def ft_Cle : Nat → FieldType := fun k => match k with
  | 0 => .object "FlashFiles$Device"
  | 1 => .object "FlashFiles$Table"
  | 2 => .object "FlashFiles$Log"
  | 3 => .array .boolean
  | 4 => .array .int
  | _ => .array .int
theorem n_Cle : ∀ a, a < 6 → ∀ b, b < 6 → a ≠ b → (F_Cle a).2.1 ≠ (F_Cle b).2.1 := by decide +kernel
theorem ft_Cle_ok : ∀ k, k < 6 → parseFieldDescriptor (F_Cle k).2.2.1 = some (ft_Cle k) := by decide +kernel
theorem in_Cle : ∀ w ∈ u_ws R_Cle F_Cle 6, w ∈ TT := List.forall_mem_cons.mpr ⟨q1_204, List.forall_mem_cons.mpr ⟨q1_206, List.forall_mem_cons.mpr ⟨q1_208, List.forall_mem_cons.mpr ⟨q1_210, List.forall_mem_cons.mpr ⟨q1_212, List.forall_mem_cons.mpr ⟨q1_214, fun _ h => absurd h List.not_mem_nil⟩⟩⟩⟩⟩⟩
abbrev R_Chk : String := "FlashFiles$Checkpoints"
def F_Chk : u_T := fun k => match k with
  | 0 => ("FlashFiles$Checkpoints", "device", "LFlashFiles$Device;", true)
  | 1 => ("FlashFiles$Checkpoints", "table", "LFlashFiles$Table;", true)
  | 2 => ("FlashFiles$Checkpoints", "log", "LFlashFiles$Log;", true)
  | 3 => ("FlashFiles$Checkpoints", "tree", "LFlashFiles$Tree;", true)
  | 4 => ("FlashFiles$Checkpoints", "cleaner", "LFlashFiles$Cleaner;", true)
  | 5 => ("FlashFiles$Checkpoints", "pack", "[I", true)
  | 6 => ("FlashFiles$Checkpoints", "lastMark", "[I", true)
  | 7 => ("FlashFiles$Checkpoints", "room", "I", false)
  | 8 => ("FlashFiles$Checkpoints", "used", "I", false)
  | 9 => ("FlashFiles$Checkpoints", "fresh", "I", false)
  | _ => ("FlashFiles$Checkpoints", "taken", "I", false)
def ft_Chk : Nat → FieldType := fun k => match k with
  | 0 => .object "FlashFiles$Device"
  | 1 => .object "FlashFiles$Table"
  | 2 => .object "FlashFiles$Log"
  | 3 => .object "FlashFiles$Tree"
  | 4 => .object "FlashFiles$Cleaner"
  | 5 => .array .int
  | 6 => .array .int
  | 7 => .int
  | 8 => .int
  | 9 => .int
  | _ => .int
theorem n_Chk : ∀ a, a < 11 → ∀ b, b < 11 → a ≠ b → (F_Chk a).2.1 ≠ (F_Chk b).2.1 := by decide +kernel
theorem ft_Chk_ok : ∀ k, k < 11 → parseFieldDescriptor (F_Chk k).2.2.1 = some (ft_Chk k) := by decide +kernel
theorem in_Chk : ∀ w ∈ u_ws R_Chk F_Chk 11, w ∈ TT := List.forall_mem_cons.mpr ⟨q1_232, List.forall_mem_cons.mpr ⟨q1_234, List.forall_mem_cons.mpr ⟨q1_236, List.forall_mem_cons.mpr ⟨q1_238, List.forall_mem_cons.mpr ⟨q2_0, List.forall_mem_cons.mpr ⟨q2_2, List.forall_mem_cons.mpr ⟨q2_4, List.forall_mem_cons.mpr ⟨q2_6, List.forall_mem_cons.mpr ⟨q2_8, List.forall_mem_cons.mpr ⟨q2_10, List.forall_mem_cons.mpr ⟨q2_12, fun _ h => absurd h List.not_mem_nil⟩⟩⟩⟩⟩⟩⟩⟩⟩⟩⟩
abbrev R_Ins : String := "FlashFiles$Inspector"
def F_Ins : u_T := fun k => match k with
  | 0 => ("FlashFiles$Inspector", "device", "LFlashFiles$Device;", true)
  | 1 => ("FlashFiles$Inspector", "table", "LFlashFiles$Table;", true)
  | 2 => ("FlashFiles$Inspector", "log", "LFlashFiles$Log;", true)
  | 3 => ("FlashFiles$Inspector", "checkpoints", "LFlashFiles$Checkpoints;", true)
  | 4 => ("FlashFiles$Inspector", "owned", "[I", true)
  | 5 => ("FlashFiles$Inspector", "led", "[I", true)
  | 6 => ("FlashFiles$Inspector", "entry", "[I", true)
  | _ => ("FlashFiles$Inspector", "found", "I", false)
def ft_Ins : Nat → FieldType := fun k => match k with
  | 0 => .object "FlashFiles$Device"
  | 1 => .object "FlashFiles$Table"
  | 2 => .object "FlashFiles$Log"
  | 3 => .object "FlashFiles$Checkpoints"
  | 4 => .array .int
  | 5 => .array .int
  | 6 => .array .int
  | _ => .int
theorem n_Ins : ∀ a, a < 8 → ∀ b, b < 8 → a ≠ b → (F_Ins a).2.1 ≠ (F_Ins b).2.1 := by decide +kernel
theorem ft_Ins_ok : ∀ k, k < 8 → parseFieldDescriptor (F_Ins k).2.2.1 = some (ft_Ins k) := by decide +kernel
theorem in_Ins : ∀ w ∈ u_ws R_Ins F_Ins 8, w ∈ TT := List.forall_mem_cons.mpr ⟨q2_29, List.forall_mem_cons.mpr ⟨q2_31, List.forall_mem_cons.mpr ⟨q2_33, List.forall_mem_cons.mpr ⟨q2_35, List.forall_mem_cons.mpr ⟨q2_37, List.forall_mem_cons.mpr ⟨q2_39, List.forall_mem_cons.mpr ⟨q2_41, List.forall_mem_cons.mpr ⟨q2_43, fun _ h => absurd h List.not_mem_nil⟩⟩⟩⟩⟩⟩⟩⟩
abbrev R_Mod : String := "FlashFilesModel"
def F_Mod : u_T := fun k => match k with
  | 0 => ("FlashFilesModel", "thrown", "I", false)
  | 1 => ("FlashFilesModel", "device", "Z", false)
  | 2 => ("FlashFilesModel", "mounted", "Z", false)
  | 3 => ("FlashFilesModel", "most", "I", false)
  | 4 => ("FlashFilesModel", "used", "I", false)
  | 5 => ("FlashFilesModel", "fresh", "I", false)
  | 6 => ("FlashFilesModel", "checkpoints", "I", false)
  | 7 => ("FlashFilesModel", "forward", "I", false)
  | 8 => ("FlashFilesModel", "cut", "I", false)
  | 9 => ("FlashFilesModel", "tape", "[B", true)
  | 10 => ("FlashFilesModel", "taped", "I", false)
  | 11 => ("FlashFilesModel", "told", "[B", true)
  | 12 => ("FlashFilesModel", "toldSize", "I", false)
  | 13 => ("FlashFilesModel", "kind", "[I", true)
  | 14 => ("FlashFilesModel", "size", "[I", true)
  | 15 => ("FlashFilesModel", "links", "[I", true)
  | 16 => ("FlashFilesModel", "small", "[Z", true)
  | 17 => ("FlashFilesModel", "synced", "[Z", true)
  | 18 => ("FlashFilesModel", "renamed", "[Z", true)
  | 19 => ("FlashFilesModel", "piece", "[I", true)
  | 20 => ("FlashFilesModel", "pool", "[B", true)
  | 21 => ("FlashFilesModel", "owners", "[I", true)
  | 22 => ("FlashFilesModel", "search", "I", false)
  | 23 => ("FlashFilesModel", "entries", "I", false)
  | 24 => ("FlashFilesModel", "entryDirectory", "[I", true)
  | 25 => ("FlashFilesModel", "entryId", "[I", true)
  | 26 => ("FlashFilesModel", "entryLength", "[I", true)
  | 27 => ("FlashFilesModel", "entryName", "[B", true)
  | 28 => ("FlashFilesModel", "oldEntries", "I", false)
  | 29 => ("FlashFilesModel", "oldDirectory", "[I", true)
  | 30 => ("FlashFilesModel", "oldId", "[I", true)
  | 31 => ("FlashFilesModel", "oldLength", "[I", true)
  | _ => ("FlashFilesModel", "oldName", "[B", true)
def ft_Mod : Nat → FieldType := fun k => match k with
  | 0 => .int
  | 1 => .boolean
  | 2 => .boolean
  | 3 => .int
  | 4 => .int
  | 5 => .int
  | 6 => .int
  | 7 => .int
  | 8 => .int
  | 9 => .array .byte
  | 10 => .int
  | 11 => .array .byte
  | 12 => .int
  | 13 => .array .int
  | 14 => .array .int
  | 15 => .array .int
  | 16 => .array .boolean
  | 17 => .array .boolean
  | 18 => .array .boolean
  | 19 => .array .int
  | 20 => .array .byte
  | 21 => .array .int
  | 22 => .int
  | 23 => .int
  | 24 => .array .int
  | 25 => .array .int
  | 26 => .array .int
  | 27 => .array .byte
  | 28 => .int
  | 29 => .array .int
  | 30 => .array .int
  | 31 => .array .int
  | _ => .array .byte
theorem n_Mod : ∀ a, a < 33 → ∀ b, b < 33 → a ≠ b → (F_Mod a).2.1 ≠ (F_Mod b).2.1 := by decide +kernel
theorem ft_Mod_ok : ∀ k, k < 33 → parseFieldDescriptor (F_Mod k).2.2.1 = some (ft_Mod k) := by decide +kernel
theorem in_Mod : ∀ w ∈ u_ws R_Mod F_Mod 33, w ∈ TT := List.forall_mem_cons.mpr ⟨q7_176, List.forall_mem_cons.mpr ⟨q7_178, List.forall_mem_cons.mpr ⟨q7_180, List.forall_mem_cons.mpr ⟨q7_182, List.forall_mem_cons.mpr ⟨q7_184, List.forall_mem_cons.mpr ⟨q7_186, List.forall_mem_cons.mpr ⟨q7_188, List.forall_mem_cons.mpr ⟨q7_190, List.forall_mem_cons.mpr ⟨q7_192, List.forall_mem_cons.mpr ⟨q7_194, List.forall_mem_cons.mpr ⟨q7_196, List.forall_mem_cons.mpr ⟨q7_198, List.forall_mem_cons.mpr ⟨q7_200, List.forall_mem_cons.mpr ⟨q7_202, List.forall_mem_cons.mpr ⟨q7_204, List.forall_mem_cons.mpr ⟨q7_206, List.forall_mem_cons.mpr ⟨q7_208, List.forall_mem_cons.mpr ⟨q7_210, List.forall_mem_cons.mpr ⟨q7_212, List.forall_mem_cons.mpr ⟨q7_214, List.forall_mem_cons.mpr ⟨q7_216, List.forall_mem_cons.mpr ⟨q7_218, List.forall_mem_cons.mpr ⟨q7_220, List.forall_mem_cons.mpr ⟨q7_222, List.forall_mem_cons.mpr ⟨q7_224, List.forall_mem_cons.mpr ⟨q7_226, List.forall_mem_cons.mpr ⟨q7_228, List.forall_mem_cons.mpr ⟨q7_230, List.forall_mem_cons.mpr ⟨q7_232, List.forall_mem_cons.mpr ⟨q7_234, List.forall_mem_cons.mpr ⟨q7_236, List.forall_mem_cons.mpr ⟨q7_238, List.forall_mem_cons.mpr ⟨q8_0, fun _ h => absurd h List.not_mem_nil⟩⟩⟩⟩⟩⟩⟩⟩⟩⟩⟩⟩⟩⟩⟩⟩⟩⟩⟩⟩⟩⟩⟩⟩⟩⟩⟩⟩⟩⟩⟩⟩⟩
abbrev cls : List vw_C := [(R_FF, F_FF, 14), (R_Row, F_Row, 2), (R_Dev, F_Dev, 3), (R_Tab, F_Tab, 3), (R_Log, F_Log, 12), (R_Fil, F_Fil, 11), (R_Tre, F_Tre, 5), (R_Cle, F_Cle, 6), (R_Chk, F_Chk, 11), (R_Ins, F_Ins, 8), (R_Mod, F_Mod, 33)]
def lenF : Nat → Nat
  | 0 => 2060
  | 1 => 2000
  | 2 => 6
  | 3 => 6
  | 4 => 135488
  | 5 => 2117
  | 6 => 2048
  | 7 => 2048
  | 8 => 251
  | 9 => 2117
  | 10 => 128
  | 11 => 128
  | 12 => 128
  | 13 => 64
  | 14 => 64
  | 15 => 64
  | 16 => 64
  | 17 => 64
  | 18 => 64
  | 19 => 128
  | 20 => 64
  | 21 => 64
  | 22 => 2176
  | 23 => 251
  | 24 => 2117
  | 25 => 2048
  | _ => 64
def wF (ad : Nat → Nat) (ca : Nat → ClassId) (s : St) : va_W := [
  (ad 0, .inr (0, [.ref (ad 1), .ref (ad 2), .ref (ad 13), .ref (ad 14), .ref (ad 3), .ref (ad 4), .ref (ad 5), .ref (ad 6), .ref (ad 7), .ref (ad 9), .ref (ad 10), .int (s.1 2), .int (s.1 3), .int (s.1 4)])),
  (ad 1, .inr (1, [.ref (ad 11), .int (s.1 0)])),
  (ad 2, .inr (1, [.ref (ad 12), .int (s.1 1)])),
  (ad 3, .inr (2, [.ref (ad 15), .ref (ad 16), .int (s.1 5)])),
  (ad 4, .inr (3, [.ref (ad 17), .ref (ad 18), .ref (ad 19)])),
  (ad 5, .inr (4, [.ref (ad 3), .ref (ad 4), .ref (ad 20), .ref (ad 21), .ref (ad 22), .ref (ad 23), .int (s.1 6), .int (s.1 7), .int (s.1 8), .int (s.1 9), .int (s.1 10), .int (s.1 11)])),
  (ad 6, .inr (5, [.ref (ad 3), .ref (ad 4), .ref (ad 5), .ref (ad 24), .ref (ad 25), .ref (ad 26), .ref (ad 27), .int (s.1 12), .int (s.1 13), .int (s.1 14), .int (s.1 15)])),
  (ad 7, .inr (6, [.ref (ad 3), .ref (ad 4), .ref (ad 5), .ref (ad 28), .ref (ad 29)])),
  (ad 8, .inr (7, [.ref (ad 3), .ref (ad 4), .ref (ad 5), .ref (ad 30), .ref (ad 31), .ref (ad 32)])),
  (ad 9, .inr (8, [.ref (ad 3), .ref (ad 4), .ref (ad 5), .ref (ad 7), .ref (ad 8), .ref (ad 33), .ref (ad 34), .int (s.1 16), .int (s.1 17), .int (s.1 18), .int (s.1 19)])),
  (ad 10, .inr (9, [.ref (ad 3), .ref (ad 4), .ref (ad 5), .ref (ad 9), .ref (ad 35), .ref (ad 36), .ref (ad 37), .int (s.1 20)])),
  (ad 11, .inl (ca 0, (2060, .inl (s.2 0)))),
  (ad 12, .inl (ca 1, (2000, .inl (s.2 1)))),
  (ad 13, .inl (ca 2, (6, .inl (s.2 2)))),
  (ad 14, .inl (ca 3, (6, .inl (s.2 3)))),
  (ad 15, .inl (ca 4, (135488, .inl (s.2 4)))),
  (ad 16, .inl (ca 5, (2117, .inl (s.2 5)))),
  (ad 17, .inl (ca 6, (2048, .inl (s.2 6)))),
  (ad 18, .inl (ca 7, (2048, .inl (s.2 7)))),
  (ad 19, .inl (ca 8, (251, .inl (s.2 8)))),
  (ad 20, .inl (ca 9, (2117, .inl (s.2 9)))),
  (ad 21, .inl (ca 10, (128, .inl (s.2 10)))),
  (ad 22, .inl (ca 11, (128, .inl (s.2 11)))),
  (ad 23, .inl (ca 12, (128, .inl (s.2 12)))),
  (ad 24, .inl (ca 13, (64, .inl (s.2 13)))),
  (ad 25, .inl (ca 14, (64, .inl (s.2 14)))),
  (ad 26, .inl (ca 15, (64, .inl (s.2 15)))),
  (ad 27, .inl (ca 16, (64, .inl (s.2 16)))),
  (ad 28, .inl (ca 17, (64, .inl (s.2 17)))),
  (ad 29, .inl (ca 18, (64, .inl (s.2 18)))),
  (ad 30, .inl (ca 19, (128, .inl (s.2 19)))),
  (ad 31, .inl (ca 20, (64, .inl (s.2 20)))),
  (ad 32, .inl (ca 21, (64, .inl (s.2 21)))),
  (ad 33, .inl (ca 22, (2176, .inl (s.2 22)))),
  (ad 34, .inl (ca 23, (251, .inl (s.2 23)))),
  (ad 35, .inl (ca 24, (2117, .inl (s.2 24)))),
  (ad 36, .inl (ca 25, (2048, .inl (s.2 25)))),
  (ad 37, .inl (ca 26, (64, .inl (s.2 26))))]
def tyF (ca : Nat → ClassId) : List (ClassId × FieldType) := [(ca 0, .int), (ca 1, .int), (ca 2, .int), (ca 3, .int), (ca 4, .int), (ca 5, .boolean), (ca 6, .int), (ca 7, .int), (ca 8, .boolean), (ca 9, .int), (ca 10, .int), (ca 11, .int), (ca 12, .boolean), (ca 13, .int), (ca 14, .int), (ca 15, .int), (ca 16, .int), (ca 17, .int), (ca 18, .int), (ca 19, .boolean), (ca 20, .int), (ca 21, .int), (ca 22, .int), (ca 23, .int), (ca 24, .int), (ca 25, .int), (ca 26, .int)]
def wM (ad : Nat → Nat) (ca : Nat → ClassId) (s : St) : va_W := [
  (ad 0, .inr (10, [.int (s.1 0), .int (s.1 1), .int (s.1 2), .int (s.1 3), .int (s.1 4), .int (s.1 5), .int (s.1 6), .int (s.1 7), .int (s.1 8), .ref (ad 1), .int (s.1 9), .ref (ad 2), .int (s.1 10), .ref (ad 3), .ref (ad 4), .ref (ad 5), .ref (ad 6), .ref (ad 7), .ref (ad 8), .ref (ad 9), .ref (ad 10), .ref (ad 11), .int (s.1 11), .int (s.1 12), .ref (ad 12), .ref (ad 13), .ref (ad 14), .ref (ad 15), .int (s.1 13), .ref (ad 16), .ref (ad 17), .ref (ad 18), .ref (ad 19)])),
  (ad 1, .inl (ca 0, (2060, .inl (s.2 0)))),
  (ad 2, .inl (ca 1, (2000, .inl (s.2 1)))),
  (ad 3, .inl (ca 2, (753, .inl (s.2 2)))),
  (ad 4, .inl (ca 3, (753, .inl (s.2 3)))),
  (ad 5, .inl (ca 4, (753, .inl (s.2 4)))),
  (ad 6, .inl (ca 5, (753, .inl (s.2 5)))),
  (ad 7, .inl (ca 6, (251, .inl (s.2 6)))),
  (ad 8, .inl (ca 7, (251, .inl (s.2 7)))),
  (ad 9, .inl (ca 8, (294423, .inl (s.2 8)))),
  (ad 10, .inl (ca 9, (1689600, .inl (s.2 9)))),
  (ad 11, .inl (ca 10, (6600, .inl (s.2 10)))),
  (ad 12, .inl (ca 11, (2400, .inl (s.2 11)))),
  (ad 13, .inl (ca 12, (2400, .inl (s.2 12)))),
  (ad 14, .inl (ca 13, (2400, .inl (s.2 13)))),
  (ad 15, .inl (ca 14, (48000, .inl (s.2 14)))),
  (ad 16, .inl (ca 15, (2400, .inl (s.2 15)))),
  (ad 17, .inl (ca 16, (2400, .inl (s.2 16)))),
  (ad 18, .inl (ca 17, (2400, .inl (s.2 17)))),
  (ad 19, .inl (ca 18, (48000, .inl (s.2 18))))]
def tyM (ca : Nat → ClassId) : List (ClassId × FieldType) := [(ca 0, .byte), (ca 1, .byte), (ca 2, .int), (ca 3, .int), (ca 4, .int), (ca 5, .boolean), (ca 6, .boolean), (ca 7, .boolean), (ca 8, .int), (ca 9, .byte), (ca 10, .int), (ca 11, .int), (ca 12, .int), (ca 13, .int), (ca 14, .byte), (ca 15, .int), (ca 16, .int), (ca 17, .int), (ca 18, .byte)]
