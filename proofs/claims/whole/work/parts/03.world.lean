theorem q1_43 : (Cond.fieldLink "FlashFiles$Row" (9) "FlashFiles$Row" "bytes" "[I" : Cond) ∈ TT := tt1 (List.mem_of_getElem? (i := 43) rfl) rfl
theorem q1_44 : (Cond.fieldLink "FlashFiles$Row" (15) "FlashFiles$Row" "length" "I" : Cond) ∈ TT := tt1 (List.mem_of_getElem? (i := 44) rfl) rfl
theorem q1_45 : (Cond.laysFinal "FlashFiles$Row" "FlashFiles$Row" "bytes" "[I" : Cond) ∈ TT := tt1 (List.mem_of_getElem? (i := 45) rfl) rfl
theorem q1_47 : (Cond.lays "FlashFiles$Row" "FlashFiles$Row" "length" "I" : Cond) ∈ TT := tt1 (List.mem_of_getElem? (i := 47) rfl) rfl
theorem q1_58 : (Cond.fieldLink "FlashFiles$Device" (10) "FlashFiles$Device" "words" "[I" : Cond) ∈ TT := tt1 (List.mem_of_getElem? (i := 58) rfl) rfl
theorem q1_59 : (Cond.fieldLink "FlashFiles$Device" (16) "FlashFiles$Device" "written" "[Z" : Cond) ∈ TT := tt1 (List.mem_of_getElem? (i := 59) rfl) rfl
theorem q1_60 : (Cond.fieldLink "FlashFiles$Device" (20) "FlashFiles$Device" "spoiled" "I" : Cond) ∈ TT := tt1 (List.mem_of_getElem? (i := 60) rfl) rfl
theorem q1_61 : (Cond.laysFinal "FlashFiles$Device" "FlashFiles$Device" "words" "[I" : Cond) ∈ TT := tt1 (List.mem_of_getElem? (i := 61) rfl) rfl
theorem q1_63 : (Cond.laysFinal "FlashFiles$Device" "FlashFiles$Device" "written" "[Z" : Cond) ∈ TT := tt1 (List.mem_of_getElem? (i := 63) rfl) rfl
theorem q1_65 : (Cond.lays "FlashFiles$Device" "FlashFiles$Device" "spoiled" "I" : Cond) ∈ TT := tt1 (List.mem_of_getElem? (i := 65) rfl) rfl
theorem q1_75 : (Cond.fieldLink "FlashFiles$Table" (9) "FlashFiles$Table" "places" "[I" : Cond) ∈ TT := tt1 (List.mem_of_getElem? (i := 75) rfl) rfl
theorem q1_76 : (Cond.fieldLink "FlashFiles$Table" (15) "FlashFiles$Table" "kept" "[I" : Cond) ∈ TT := tt1 (List.mem_of_getElem? (i := 76) rfl) rfl
theorem q1_77 : (Cond.fieldLink "FlashFiles$Table" (18) "FlashFiles$Table" "stirred" "[Z" : Cond) ∈ TT := tt1 (List.mem_of_getElem? (i := 77) rfl) rfl
theorem q1_78 : (Cond.laysFinal "FlashFiles$Table" "FlashFiles$Table" "places" "[I" : Cond) ∈ TT := tt1 (List.mem_of_getElem? (i := 78) rfl) rfl
theorem q1_80 : (Cond.laysFinal "FlashFiles$Table" "FlashFiles$Table" "kept" "[I" : Cond) ∈ TT := tt1 (List.mem_of_getElem? (i := 80) rfl) rfl
theorem q1_82 : (Cond.laysFinal "FlashFiles$Table" "FlashFiles$Table" "stirred" "[Z" : Cond) ∈ TT := tt1 (List.mem_of_getElem? (i := 82) rfl) rfl
theorem q1_91 : (Cond.fieldLink "FlashFiles$Log" (9) "FlashFiles$Log" "device" "LFlashFiles$Device;" : Cond) ∈ TT := tt1 (List.mem_of_getElem? (i := 91) rfl) rfl
theorem q1_92 : (Cond.fieldLink "FlashFiles$Log" (15) "FlashFiles$Log" "table" "LFlashFiles$Table;" : Cond) ∈ TT := tt1 (List.mem_of_getElem? (i := 92) rfl) rfl
theorem q1_93 : (Cond.fieldLink "FlashFiles$Log" (19) "FlashFiles$Log" "use" "[I" : Cond) ∈ TT := tt1 (List.mem_of_getElem? (i := 93) rfl) rfl
theorem q1_94 : (Cond.fieldLink "FlashFiles$Log" (23) "FlashFiles$Log" "nodes" "[I" : Cond) ∈ TT := tt1 (List.mem_of_getElem? (i := 94) rfl) rfl
theorem q1_95 : (Cond.fieldLink "FlashFiles$Log" (26) "FlashFiles$Log" "data" "[I" : Cond) ∈ TT := tt1 (List.mem_of_getElem? (i := 95) rfl) rfl
theorem q1_96 : (Cond.fieldLink "FlashFiles$Log" (29) "FlashFiles$Log" "free" "[Z" : Cond) ∈ TT := tt1 (List.mem_of_getElem? (i := 96) rfl) rfl
theorem q1_97 : (Cond.fieldLink "FlashFiles$Log" (39) "FlashFiles$Log" "segments" "I" : Cond) ∈ TT := tt1 (List.mem_of_getElem? (i := 97) rfl) rfl
theorem q1_98 : (Cond.fieldLink "FlashFiles$Log" (43) "FlashFiles$Log" "freeSegments" "I" : Cond) ∈ TT := tt1 (List.mem_of_getElem? (i := 98) rfl) rfl
theorem q1_99 : (Cond.fieldLink "FlashFiles$Log" (46) "FlashFiles$Log" "nodeEnd" "I" : Cond) ∈ TT := tt1 (List.mem_of_getElem? (i := 99) rfl) rfl
theorem q1_100 : (Cond.fieldLink "FlashFiles$Log" (49) "FlashFiles$Log" "dataEnd" "I" : Cond) ∈ TT := tt1 (List.mem_of_getElem? (i := 100) rfl) rfl
theorem q1_101 : (Cond.fieldLink "FlashFiles$Log" (52) "FlashFiles$Log" "lastOpened" "I" : Cond) ∈ TT := tt1 (List.mem_of_getElem? (i := 101) rfl) rfl
theorem q1_102 : (Cond.fieldLink "FlashFiles$Log" (55) "FlashFiles$Log" "serial" "I" : Cond) ∈ TT := tt1 (List.mem_of_getElem? (i := 102) rfl) rfl
theorem q1_103 : (Cond.laysFinal "FlashFiles$Log" "FlashFiles$Log" "device" "LFlashFiles$Device;" : Cond) ∈ TT := tt1 (List.mem_of_getElem? (i := 103) rfl) rfl
theorem q1_105 : (Cond.laysFinal "FlashFiles$Log" "FlashFiles$Log" "table" "LFlashFiles$Table;" : Cond) ∈ TT := tt1 (List.mem_of_getElem? (i := 105) rfl) rfl
theorem q1_107 : (Cond.laysFinal "FlashFiles$Log" "FlashFiles$Log" "use" "[I" : Cond) ∈ TT := tt1 (List.mem_of_getElem? (i := 107) rfl) rfl
theorem q1_109 : (Cond.laysFinal "FlashFiles$Log" "FlashFiles$Log" "nodes" "[I" : Cond) ∈ TT := tt1 (List.mem_of_getElem? (i := 109) rfl) rfl
theorem q1_111 : (Cond.laysFinal "FlashFiles$Log" "FlashFiles$Log" "data" "[I" : Cond) ∈ TT := tt1 (List.mem_of_getElem? (i := 111) rfl) rfl
theorem q1_113 : (Cond.laysFinal "FlashFiles$Log" "FlashFiles$Log" "free" "[Z" : Cond) ∈ TT := tt1 (List.mem_of_getElem? (i := 113) rfl) rfl
theorem q1_115 : (Cond.lays "FlashFiles$Log" "FlashFiles$Log" "segments" "I" : Cond) ∈ TT := tt1 (List.mem_of_getElem? (i := 115) rfl) rfl
theorem q1_117 : (Cond.lays "FlashFiles$Log" "FlashFiles$Log" "freeSegments" "I" : Cond) ∈ TT := tt1 (List.mem_of_getElem? (i := 117) rfl) rfl
theorem q1_119 : (Cond.lays "FlashFiles$Log" "FlashFiles$Log" "nodeEnd" "I" : Cond) ∈ TT := tt1 (List.mem_of_getElem? (i := 119) rfl) rfl
theorem q1_121 : (Cond.lays "FlashFiles$Log" "FlashFiles$Log" "dataEnd" "I" : Cond) ∈ TT := tt1 (List.mem_of_getElem? (i := 121) rfl) rfl
theorem q1_123 : (Cond.lays "FlashFiles$Log" "FlashFiles$Log" "lastOpened" "I" : Cond) ∈ TT := tt1 (List.mem_of_getElem? (i := 123) rfl) rfl
theorem q1_125 : (Cond.lays "FlashFiles$Log" "FlashFiles$Log" "serial" "I" : Cond) ∈ TT := tt1 (List.mem_of_getElem? (i := 125) rfl) rfl
theorem q1_134 : (Cond.fieldLink "FlashFiles$Files" (9) "FlashFiles$Files" "device" "LFlashFiles$Device;" : Cond) ∈ TT := tt1 (List.mem_of_getElem? (i := 134) rfl) rfl
theorem q1_135 : (Cond.fieldLink "FlashFiles$Files" (15) "FlashFiles$Files" "table" "LFlashFiles$Table;" : Cond) ∈ TT := tt1 (List.mem_of_getElem? (i := 135) rfl) rfl
theorem q1_136 : (Cond.fieldLink "FlashFiles$Files" (19) "FlashFiles$Files" "log" "LFlashFiles$Log;" : Cond) ∈ TT := tt1 (List.mem_of_getElem? (i := 136) rfl) rfl
theorem q1_137 : (Cond.fieldLink "FlashFiles$Files" (23) "FlashFiles$Files" "inode" "[I" : Cond) ∈ TT := tt1 (List.mem_of_getElem? (i := 137) rfl) rfl
theorem q1_138 : (Cond.fieldLink "FlashFiles$Files" (27) "FlashFiles$Files" "indirect" "[I" : Cond) ∈ TT := tt1 (List.mem_of_getElem? (i := 138) rfl) rfl
theorem q1_139 : (Cond.fieldLink "FlashFiles$Files" (30) "FlashFiles$Files" "direct" "[I" : Cond) ∈ TT := tt1 (List.mem_of_getElem? (i := 139) rfl) rfl
theorem q1_140 : (Cond.fieldLink "FlashFiles$Files" (33) "FlashFiles$Files" "block" "[I" : Cond) ∈ TT := tt1 (List.mem_of_getElem? (i := 140) rfl) rfl
theorem q1_141 : (Cond.fieldLink "FlashFiles$Files" (140) "FlashFiles$Files" "id" "I" : Cond) ∈ TT := tt1 (List.mem_of_getElem? (i := 141) rfl) rfl
theorem q1_142 : (Cond.fieldLink "FlashFiles$Files" (144) "FlashFiles$Files" "opened" "I" : Cond) ∈ TT := tt1 (List.mem_of_getElem? (i := 142) rfl) rfl
theorem q1_143 : (Cond.fieldLink "FlashFiles$Files" (147) "FlashFiles$Files" "directChanged" "Z" : Cond) ∈ TT := tt1 (List.mem_of_getElem? (i := 143) rfl) rfl
theorem q1_144 : (Cond.fieldLink "FlashFiles$Files" (151) "FlashFiles$Files" "indirectChanged" "Z" : Cond) ∈ TT := tt1 (List.mem_of_getElem? (i := 144) rfl) rfl
theorem q1_145 : (Cond.laysFinal "FlashFiles$Files" "FlashFiles$Files" "device" "LFlashFiles$Device;" : Cond) ∈ TT := tt1 (List.mem_of_getElem? (i := 145) rfl) rfl
theorem q1_147 : (Cond.laysFinal "FlashFiles$Files" "FlashFiles$Files" "table" "LFlashFiles$Table;" : Cond) ∈ TT := tt1 (List.mem_of_getElem? (i := 147) rfl) rfl
theorem q1_149 : (Cond.laysFinal "FlashFiles$Files" "FlashFiles$Files" "log" "LFlashFiles$Log;" : Cond) ∈ TT := tt1 (List.mem_of_getElem? (i := 149) rfl) rfl
theorem q1_151 : (Cond.laysFinal "FlashFiles$Files" "FlashFiles$Files" "inode" "[I" : Cond) ∈ TT := tt1 (List.mem_of_getElem? (i := 151) rfl) rfl
theorem q1_153 : (Cond.laysFinal "FlashFiles$Files" "FlashFiles$Files" "indirect" "[I" : Cond) ∈ TT := tt1 (List.mem_of_getElem? (i := 153) rfl) rfl
theorem q1_155 : (Cond.laysFinal "FlashFiles$Files" "FlashFiles$Files" "direct" "[I" : Cond) ∈ TT := tt1 (List.mem_of_getElem? (i := 155) rfl) rfl
theorem q1_157 : (Cond.laysFinal "FlashFiles$Files" "FlashFiles$Files" "block" "[I" : Cond) ∈ TT := tt1 (List.mem_of_getElem? (i := 157) rfl) rfl
theorem q1_159 : (Cond.lays "FlashFiles$Files" "FlashFiles$Files" "id" "I" : Cond) ∈ TT := tt1 (List.mem_of_getElem? (i := 159) rfl) rfl
theorem q1_161 : (Cond.lays "FlashFiles$Files" "FlashFiles$Files" "opened" "I" : Cond) ∈ TT := tt1 (List.mem_of_getElem? (i := 161) rfl) rfl
theorem q1_163 : (Cond.lays "FlashFiles$Files" "FlashFiles$Files" "directChanged" "Z" : Cond) ∈ TT := tt1 (List.mem_of_getElem? (i := 163) rfl) rfl
theorem q1_165 : (Cond.lays "FlashFiles$Files" "FlashFiles$Files" "indirectChanged" "Z" : Cond) ∈ TT := tt1 (List.mem_of_getElem? (i := 165) rfl) rfl
theorem q1_174 : (Cond.fieldLink "FlashFiles$Tree" (9) "FlashFiles$Tree" "device" "LFlashFiles$Device;" : Cond) ∈ TT := tt1 (List.mem_of_getElem? (i := 174) rfl) rfl
theorem q1_175 : (Cond.fieldLink "FlashFiles$Tree" (15) "FlashFiles$Tree" "table" "LFlashFiles$Table;" : Cond) ∈ TT := tt1 (List.mem_of_getElem? (i := 175) rfl) rfl
theorem q1_176 : (Cond.fieldLink "FlashFiles$Tree" (19) "FlashFiles$Tree" "log" "LFlashFiles$Log;" : Cond) ∈ TT := tt1 (List.mem_of_getElem? (i := 176) rfl) rfl
theorem q1_177 : (Cond.fieldLink "FlashFiles$Tree" (23) "FlashFiles$Tree" "inode" "[I" : Cond) ∈ TT := tt1 (List.mem_of_getElem? (i := 177) rfl) rfl
theorem q1_178 : (Cond.fieldLink "FlashFiles$Tree" (27) "FlashFiles$Tree" "entry" "[I" : Cond) ∈ TT := tt1 (List.mem_of_getElem? (i := 178) rfl) rfl
theorem q1_179 : (Cond.laysFinal "FlashFiles$Tree" "FlashFiles$Tree" "device" "LFlashFiles$Device;" : Cond) ∈ TT := tt1 (List.mem_of_getElem? (i := 179) rfl) rfl
theorem q1_181 : (Cond.laysFinal "FlashFiles$Tree" "FlashFiles$Tree" "table" "LFlashFiles$Table;" : Cond) ∈ TT := tt1 (List.mem_of_getElem? (i := 181) rfl) rfl
theorem q1_183 : (Cond.laysFinal "FlashFiles$Tree" "FlashFiles$Tree" "log" "LFlashFiles$Log;" : Cond) ∈ TT := tt1 (List.mem_of_getElem? (i := 183) rfl) rfl
theorem q1_185 : (Cond.laysFinal "FlashFiles$Tree" "FlashFiles$Tree" "inode" "[I" : Cond) ∈ TT := tt1 (List.mem_of_getElem? (i := 185) rfl) rfl
theorem q1_187 : (Cond.laysFinal "FlashFiles$Tree" "FlashFiles$Tree" "entry" "[I" : Cond) ∈ TT := tt1 (List.mem_of_getElem? (i := 187) rfl) rfl
theorem q1_198 : (Cond.fieldLink "FlashFiles$Cleaner" (9) "FlashFiles$Cleaner" "device" "LFlashFiles$Device;" : Cond) ∈ TT := tt1 (List.mem_of_getElem? (i := 198) rfl) rfl
theorem q1_199 : (Cond.fieldLink "FlashFiles$Cleaner" (15) "FlashFiles$Cleaner" "table" "LFlashFiles$Table;" : Cond) ∈ TT := tt1 (List.mem_of_getElem? (i := 199) rfl) rfl
theorem q1_200 : (Cond.fieldLink "FlashFiles$Cleaner" (19) "FlashFiles$Cleaner" "log" "LFlashFiles$Log;" : Cond) ∈ TT := tt1 (List.mem_of_getElem? (i := 200) rfl) rfl
theorem q1_201 : (Cond.fieldLink "FlashFiles$Cleaner" (23) "FlashFiles$Cleaner" "victims" "[Z" : Cond) ∈ TT := tt1 (List.mem_of_getElem? (i := 201) rfl) rfl
theorem q1_202 : (Cond.fieldLink "FlashFiles$Cleaner" (27) "FlashFiles$Cleaner" "node" "[I" : Cond) ∈ TT := tt1 (List.mem_of_getElem? (i := 202) rfl) rfl
theorem q1_203 : (Cond.fieldLink "FlashFiles$Cleaner" (31) "FlashFiles$Cleaner" "block" "[I" : Cond) ∈ TT := tt1 (List.mem_of_getElem? (i := 203) rfl) rfl
theorem q1_204 : (Cond.laysFinal "FlashFiles$Cleaner" "FlashFiles$Cleaner" "device" "LFlashFiles$Device;" : Cond) ∈ TT := tt1 (List.mem_of_getElem? (i := 204) rfl) rfl
theorem q1_206 : (Cond.laysFinal "FlashFiles$Cleaner" "FlashFiles$Cleaner" "table" "LFlashFiles$Table;" : Cond) ∈ TT := tt1 (List.mem_of_getElem? (i := 206) rfl) rfl
theorem q1_208 : (Cond.laysFinal "FlashFiles$Cleaner" "FlashFiles$Cleaner" "log" "LFlashFiles$Log;" : Cond) ∈ TT := tt1 (List.mem_of_getElem? (i := 208) rfl) rfl
theorem q1_210 : (Cond.laysFinal "FlashFiles$Cleaner" "FlashFiles$Cleaner" "victims" "[Z" : Cond) ∈ TT := tt1 (List.mem_of_getElem? (i := 210) rfl) rfl
theorem q1_212 : (Cond.laysFinal "FlashFiles$Cleaner" "FlashFiles$Cleaner" "node" "[I" : Cond) ∈ TT := tt1 (List.mem_of_getElem? (i := 212) rfl) rfl
theorem q1_214 : (Cond.laysFinal "FlashFiles$Cleaner" "FlashFiles$Cleaner" "block" "[I" : Cond) ∈ TT := tt1 (List.mem_of_getElem? (i := 214) rfl) rfl
theorem q1_221 : (Cond.fieldLink "FlashFiles$Checkpoints" (9) "FlashFiles$Checkpoints" "device" "LFlashFiles$Device;" : Cond) ∈ TT := tt1 (List.mem_of_getElem? (i := 221) rfl) rfl
theorem q1_222 : (Cond.fieldLink "FlashFiles$Checkpoints" (15) "FlashFiles$Checkpoints" "table" "LFlashFiles$Table;" : Cond) ∈ TT := tt1 (List.mem_of_getElem? (i := 222) rfl) rfl
theorem q1_223 : (Cond.fieldLink "FlashFiles$Checkpoints" (19) "FlashFiles$Checkpoints" "log" "LFlashFiles$Log;" : Cond) ∈ TT := tt1 (List.mem_of_getElem? (i := 223) rfl) rfl
theorem q1_224 : (Cond.fieldLink "FlashFiles$Checkpoints" (23) "FlashFiles$Checkpoints" "tree" "LFlashFiles$Tree;" : Cond) ∈ TT := tt1 (List.mem_of_getElem? (i := 224) rfl) rfl
theorem q1_225 : (Cond.fieldLink "FlashFiles$Checkpoints" (27) "FlashFiles$Checkpoints" "cleaner" "LFlashFiles$Cleaner;" : Cond) ∈ TT := tt1 (List.mem_of_getElem? (i := 225) rfl) rfl
theorem q1_226 : (Cond.fieldLink "FlashFiles$Checkpoints" (31) "FlashFiles$Checkpoints" "pack" "[I" : Cond) ∈ TT := tt1 (List.mem_of_getElem? (i := 226) rfl) rfl
theorem q1_227 : (Cond.fieldLink "FlashFiles$Checkpoints" (35) "FlashFiles$Checkpoints" "lastMark" "[I" : Cond) ∈ TT := tt1 (List.mem_of_getElem? (i := 227) rfl) rfl
theorem q1_228 : (Cond.fieldLink "FlashFiles$Checkpoints" (48) "FlashFiles$Checkpoints" "room" "I" : Cond) ∈ TT := tt1 (List.mem_of_getElem? (i := 228) rfl) rfl
theorem q1_229 : (Cond.fieldLink "FlashFiles$Checkpoints" (38) "FlashFiles$Checkpoints" "used" "I" : Cond) ∈ TT := tt1 (List.mem_of_getElem? (i := 229) rfl) rfl
theorem q1_230 : (Cond.fieldLink "FlashFiles$Checkpoints" (42) "FlashFiles$Checkpoints" "fresh" "I" : Cond) ∈ TT := tt1 (List.mem_of_getElem? (i := 230) rfl) rfl
theorem q1_231 : (Cond.fieldLink "FlashFiles$Checkpoints" (45) "FlashFiles$Checkpoints" "taken" "I" : Cond) ∈ TT := tt1 (List.mem_of_getElem? (i := 231) rfl) rfl
theorem q1_232 : (Cond.laysFinal "FlashFiles$Checkpoints" "FlashFiles$Checkpoints" "device" "LFlashFiles$Device;" : Cond) ∈ TT := tt1 (List.mem_of_getElem? (i := 232) rfl) rfl
theorem q1_234 : (Cond.laysFinal "FlashFiles$Checkpoints" "FlashFiles$Checkpoints" "table" "LFlashFiles$Table;" : Cond) ∈ TT := tt1 (List.mem_of_getElem? (i := 234) rfl) rfl
theorem q1_236 : (Cond.laysFinal "FlashFiles$Checkpoints" "FlashFiles$Checkpoints" "log" "LFlashFiles$Log;" : Cond) ∈ TT := tt1 (List.mem_of_getElem? (i := 236) rfl) rfl
theorem q1_238 : (Cond.laysFinal "FlashFiles$Checkpoints" "FlashFiles$Checkpoints" "tree" "LFlashFiles$Tree;" : Cond) ∈ TT := tt1 (List.mem_of_getElem? (i := 238) rfl) rfl
theorem q2_0 : (Cond.laysFinal "FlashFiles$Checkpoints" "FlashFiles$Checkpoints" "cleaner" "LFlashFiles$Cleaner;" : Cond) ∈ TT := tt2 (List.mem_of_getElem? (i := 0) rfl) rfl
theorem q2_2 : (Cond.laysFinal "FlashFiles$Checkpoints" "FlashFiles$Checkpoints" "pack" "[I" : Cond) ∈ TT := tt2 (List.mem_of_getElem? (i := 2) rfl) rfl
theorem q2_4 : (Cond.laysFinal "FlashFiles$Checkpoints" "FlashFiles$Checkpoints" "lastMark" "[I" : Cond) ∈ TT := tt2 (List.mem_of_getElem? (i := 4) rfl) rfl
theorem q2_6 : (Cond.lays "FlashFiles$Checkpoints" "FlashFiles$Checkpoints" "room" "I" : Cond) ∈ TT := tt2 (List.mem_of_getElem? (i := 6) rfl) rfl
theorem q2_8 : (Cond.lays "FlashFiles$Checkpoints" "FlashFiles$Checkpoints" "used" "I" : Cond) ∈ TT := tt2 (List.mem_of_getElem? (i := 8) rfl) rfl
theorem q2_10 : (Cond.lays "FlashFiles$Checkpoints" "FlashFiles$Checkpoints" "fresh" "I" : Cond) ∈ TT := tt2 (List.mem_of_getElem? (i := 10) rfl) rfl
theorem q2_12 : (Cond.lays "FlashFiles$Checkpoints" "FlashFiles$Checkpoints" "taken" "I" : Cond) ∈ TT := tt2 (List.mem_of_getElem? (i := 12) rfl) rfl
theorem q2_21 : (Cond.fieldLink "FlashFiles$Inspector" (9) "FlashFiles$Inspector" "device" "LFlashFiles$Device;" : Cond) ∈ TT := tt2 (List.mem_of_getElem? (i := 21) rfl) rfl
theorem q2_22 : (Cond.fieldLink "FlashFiles$Inspector" (15) "FlashFiles$Inspector" "table" "LFlashFiles$Table;" : Cond) ∈ TT := tt2 (List.mem_of_getElem? (i := 22) rfl) rfl
theorem q2_23 : (Cond.fieldLink "FlashFiles$Inspector" (19) "FlashFiles$Inspector" "log" "LFlashFiles$Log;" : Cond) ∈ TT := tt2 (List.mem_of_getElem? (i := 23) rfl) rfl
theorem q2_24 : (Cond.fieldLink "FlashFiles$Inspector" (23) "FlashFiles$Inspector" "checkpoints" "LFlashFiles$Checkpoints;" : Cond) ∈ TT := tt2 (List.mem_of_getElem? (i := 24) rfl) rfl
theorem q2_25 : (Cond.fieldLink "FlashFiles$Inspector" (27) "FlashFiles$Inspector" "owned" "[I" : Cond) ∈ TT := tt2 (List.mem_of_getElem? (i := 25) rfl) rfl
theorem q2_26 : (Cond.fieldLink "FlashFiles$Inspector" (31) "FlashFiles$Inspector" "led" "[I" : Cond) ∈ TT := tt2 (List.mem_of_getElem? (i := 26) rfl) rfl
theorem q2_27 : (Cond.fieldLink "FlashFiles$Inspector" (34) "FlashFiles$Inspector" "entry" "[I" : Cond) ∈ TT := tt2 (List.mem_of_getElem? (i := 27) rfl) rfl
theorem q2_28 : (Cond.fieldLink "FlashFiles$Inspector" (49) "FlashFiles$Inspector" "found" "I" : Cond) ∈ TT := tt2 (List.mem_of_getElem? (i := 28) rfl) rfl
theorem q2_29 : (Cond.laysFinal "FlashFiles$Inspector" "FlashFiles$Inspector" "device" "LFlashFiles$Device;" : Cond) ∈ TT := tt2 (List.mem_of_getElem? (i := 29) rfl) rfl
theorem q2_31 : (Cond.laysFinal "FlashFiles$Inspector" "FlashFiles$Inspector" "table" "LFlashFiles$Table;" : Cond) ∈ TT := tt2 (List.mem_of_getElem? (i := 31) rfl) rfl
theorem q2_33 : (Cond.laysFinal "FlashFiles$Inspector" "FlashFiles$Inspector" "log" "LFlashFiles$Log;" : Cond) ∈ TT := tt2 (List.mem_of_getElem? (i := 33) rfl) rfl
theorem q2_35 : (Cond.laysFinal "FlashFiles$Inspector" "FlashFiles$Inspector" "checkpoints" "LFlashFiles$Checkpoints;" : Cond) ∈ TT := tt2 (List.mem_of_getElem? (i := 35) rfl) rfl
theorem q2_37 : (Cond.laysFinal "FlashFiles$Inspector" "FlashFiles$Inspector" "owned" "[I" : Cond) ∈ TT := tt2 (List.mem_of_getElem? (i := 37) rfl) rfl
theorem q2_39 : (Cond.laysFinal "FlashFiles$Inspector" "FlashFiles$Inspector" "led" "[I" : Cond) ∈ TT := tt2 (List.mem_of_getElem? (i := 39) rfl) rfl
theorem q2_41 : (Cond.laysFinal "FlashFiles$Inspector" "FlashFiles$Inspector" "entry" "[I" : Cond) ∈ TT := tt2 (List.mem_of_getElem? (i := 41) rfl) rfl
theorem q2_43 : (Cond.lays "FlashFiles$Inspector" "FlashFiles$Inspector" "found" "I" : Cond) ∈ TT := tt2 (List.mem_of_getElem? (i := 43) rfl) rfl
theorem q2_46 : (Cond.fieldLink "FlashFiles" (14) "FlashFiles" "onTape" "LFlashFiles$Row;" : Cond) ∈ TT := tt2 (List.mem_of_getElem? (i := 46) rfl) rfl
theorem q2_47 : (Cond.fieldLink "FlashFiles" (18) "FlashFiles" "told" "LFlashFiles$Row;" : Cond) ∈ TT := tt2 (List.mem_of_getElem? (i := 47) rfl) rfl
theorem q2_48 : (Cond.fieldLink "FlashFiles" (21) "FlashFiles" "first" "[I" : Cond) ∈ TT := tt2 (List.mem_of_getElem? (i := 48) rfl) rfl
theorem q2_49 : (Cond.fieldLink "FlashFiles" (25) "FlashFiles" "second" "[I" : Cond) ∈ TT := tt2 (List.mem_of_getElem? (i := 49) rfl) rfl
theorem q2_50 : (Cond.fieldLink "FlashFiles" (31) "FlashFiles" "device" "LFlashFiles$Device;" : Cond) ∈ TT := tt2 (List.mem_of_getElem? (i := 50) rfl) rfl
theorem q2_51 : (Cond.fieldLink "FlashFiles" (38) "FlashFiles" "table" "LFlashFiles$Table;" : Cond) ∈ TT := tt2 (List.mem_of_getElem? (i := 51) rfl) rfl
theorem q2_52 : (Cond.fieldLink "FlashFiles" (47) "FlashFiles" "log" "LFlashFiles$Log;" : Cond) ∈ TT := tt2 (List.mem_of_getElem? (i := 52) rfl) rfl
theorem q2_53 : (Cond.fieldLink "FlashFiles" (56) "FlashFiles" "files" "LFlashFiles$Files;" : Cond) ∈ TT := tt2 (List.mem_of_getElem? (i := 53) rfl) rfl
theorem q2_54 : (Cond.fieldLink "FlashFiles" (63) "FlashFiles" "tree" "LFlashFiles$Tree;" : Cond) ∈ TT := tt2 (List.mem_of_getElem? (i := 54) rfl) rfl
theorem q2_55 : (Cond.fieldLink "FlashFiles" (75) "FlashFiles" "checkpoints" "LFlashFiles$Checkpoints;" : Cond) ∈ TT := tt2 (List.mem_of_getElem? (i := 55) rfl) rfl
theorem q2_56 : (Cond.fieldLink "FlashFiles" (84) "FlashFiles" "inspector" "LFlashFiles$Inspector;" : Cond) ∈ TT := tt2 (List.mem_of_getElem? (i := 56) rfl) rfl
theorem q2_57 : (Cond.fieldLink "FlashFiles" (88) "FlashFiles" "state" "I" : Cond) ∈ TT := tt2 (List.mem_of_getElem? (i := 57) rfl) rfl
theorem q2_58 : (Cond.fieldLink "FlashFiles" (92) "FlashFiles" "cutAfter" "I" : Cond) ∈ TT := tt2 (List.mem_of_getElem? (i := 58) rfl) rfl
theorem q2_59 : (Cond.fieldLink "FlashFiles" (95) "FlashFiles" "broughtForward" "I" : Cond) ∈ TT := tt2 (List.mem_of_getElem? (i := 59) rfl) rfl
theorem q2_60 : (Cond.laysFinal "FlashFiles" "FlashFiles" "onTape" "LFlashFiles$Row;" : Cond) ∈ TT := tt2 (List.mem_of_getElem? (i := 60) rfl) rfl
theorem q2_62 : (Cond.laysFinal "FlashFiles" "FlashFiles" "told" "LFlashFiles$Row;" : Cond) ∈ TT := tt2 (List.mem_of_getElem? (i := 62) rfl) rfl
theorem q2_64 : (Cond.laysFinal "FlashFiles" "FlashFiles" "first" "[I" : Cond) ∈ TT := tt2 (List.mem_of_getElem? (i := 64) rfl) rfl
theorem q2_66 : (Cond.laysFinal "FlashFiles" "FlashFiles" "second" "[I" : Cond) ∈ TT := tt2 (List.mem_of_getElem? (i := 66) rfl) rfl
theorem q2_68 : (Cond.laysFinal "FlashFiles" "FlashFiles" "device" "LFlashFiles$Device;" : Cond) ∈ TT := tt2 (List.mem_of_getElem? (i := 68) rfl) rfl
theorem q2_70 : (Cond.laysFinal "FlashFiles" "FlashFiles" "table" "LFlashFiles$Table;" : Cond) ∈ TT := tt2 (List.mem_of_getElem? (i := 70) rfl) rfl
theorem q2_72 : (Cond.laysFinal "FlashFiles" "FlashFiles" "log" "LFlashFiles$Log;" : Cond) ∈ TT := tt2 (List.mem_of_getElem? (i := 72) rfl) rfl
theorem q2_74 : (Cond.laysFinal "FlashFiles" "FlashFiles" "files" "LFlashFiles$Files;" : Cond) ∈ TT := tt2 (List.mem_of_getElem? (i := 74) rfl) rfl
theorem q2_76 : (Cond.laysFinal "FlashFiles" "FlashFiles" "tree" "LFlashFiles$Tree;" : Cond) ∈ TT := tt2 (List.mem_of_getElem? (i := 76) rfl) rfl
theorem q2_78 : (Cond.laysFinal "FlashFiles" "FlashFiles" "checkpoints" "LFlashFiles$Checkpoints;" : Cond) ∈ TT := tt2 (List.mem_of_getElem? (i := 78) rfl) rfl
theorem q2_80 : (Cond.laysFinal "FlashFiles" "FlashFiles" "inspector" "LFlashFiles$Inspector;" : Cond) ∈ TT := tt2 (List.mem_of_getElem? (i := 80) rfl) rfl
theorem q2_82 : (Cond.lays "FlashFiles" "FlashFiles" "state" "I" : Cond) ∈ TT := tt2 (List.mem_of_getElem? (i := 82) rfl) rfl
theorem q2_84 : (Cond.lays "FlashFiles" "FlashFiles" "cutAfter" "I" : Cond) ∈ TT := tt2 (List.mem_of_getElem? (i := 84) rfl) rfl
theorem q2_86 : (Cond.lays "FlashFiles" "FlashFiles" "broughtForward" "I" : Cond) ∈ TT := tt2 (List.mem_of_getElem? (i := 86) rfl) rfl
theorem q7_143 : (Cond.fieldLink "FlashFilesModel" (76) "FlashFilesModel" "thrown" "I" : Cond) ∈ TT := tt7 (List.mem_of_getElem? (i := 143) rfl) rfl
theorem q7_144 : (Cond.fieldLink "FlashFilesModel" (152) "FlashFilesModel" "device" "Z" : Cond) ∈ TT := tt7 (List.mem_of_getElem? (i := 144) rfl) rfl
theorem q7_145 : (Cond.fieldLink "FlashFilesModel" (107) "FlashFilesModel" "mounted" "Z" : Cond) ∈ TT := tt7 (List.mem_of_getElem? (i := 145) rfl) rfl
theorem q7_146 : (Cond.fieldLink "FlashFilesModel" (138) "FlashFilesModel" "most" "I" : Cond) ∈ TT := tt7 (List.mem_of_getElem? (i := 146) rfl) rfl
theorem q7_147 : (Cond.fieldLink "FlashFilesModel" (129) "FlashFilesModel" "used" "I" : Cond) ∈ TT := tt7 (List.mem_of_getElem? (i := 147) rfl) rfl
theorem q7_148 : (Cond.fieldLink "FlashFilesModel" (132) "FlashFilesModel" "fresh" "I" : Cond) ∈ TT := tt7 (List.mem_of_getElem? (i := 148) rfl) rfl
theorem q7_149 : (Cond.fieldLink "FlashFilesModel" (135) "FlashFilesModel" "checkpoints" "I" : Cond) ∈ TT := tt7 (List.mem_of_getElem? (i := 149) rfl) rfl
theorem q7_150 : (Cond.fieldLink "FlashFilesModel" (155) "FlashFilesModel" "forward" "I" : Cond) ∈ TT := tt7 (List.mem_of_getElem? (i := 150) rfl) rfl
theorem q7_151 : (Cond.fieldLink "FlashFilesModel" (9) "FlashFilesModel" "cut" "I" : Cond) ∈ TT := tt7 (List.mem_of_getElem? (i := 151) rfl) rfl
theorem q7_152 : (Cond.fieldLink "FlashFilesModel" (13) "FlashFilesModel" "tape" "[B" : Cond) ∈ TT := tt7 (List.mem_of_getElem? (i := 152) rfl) rfl
theorem q7_153 : (Cond.fieldLink "FlashFilesModel" (158) "FlashFilesModel" "taped" "I" : Cond) ∈ TT := tt7 (List.mem_of_getElem? (i := 153) rfl) rfl
theorem q7_154 : (Cond.fieldLink "FlashFilesModel" (17) "FlashFilesModel" "told" "[B" : Cond) ∈ TT := tt7 (List.mem_of_getElem? (i := 154) rfl) rfl
theorem q7_155 : (Cond.fieldLink "FlashFilesModel" (210) "FlashFilesModel" "toldSize" "I" : Cond) ∈ TT := tt7 (List.mem_of_getElem? (i := 155) rfl) rfl
theorem q7_156 : (Cond.fieldLink "FlashFilesModel" (20) "FlashFilesModel" "kind" "[I" : Cond) ∈ TT := tt7 (List.mem_of_getElem? (i := 156) rfl) rfl
theorem q7_157 : (Cond.fieldLink "FlashFilesModel" (24) "FlashFilesModel" "size" "[I" : Cond) ∈ TT := tt7 (List.mem_of_getElem? (i := 157) rfl) rfl
theorem q7_158 : (Cond.fieldLink "FlashFilesModel" (27) "FlashFilesModel" "links" "[I" : Cond) ∈ TT := tt7 (List.mem_of_getElem? (i := 158) rfl) rfl
theorem q7_159 : (Cond.fieldLink "FlashFilesModel" (30) "FlashFilesModel" "small" "[Z" : Cond) ∈ TT := tt7 (List.mem_of_getElem? (i := 159) rfl) rfl
theorem q7_160 : (Cond.fieldLink "FlashFilesModel" (34) "FlashFilesModel" "synced" "[Z" : Cond) ∈ TT := tt7 (List.mem_of_getElem? (i := 160) rfl) rfl
theorem q7_161 : (Cond.fieldLink "FlashFilesModel" (37) "FlashFilesModel" "renamed" "[Z" : Cond) ∈ TT := tt7 (List.mem_of_getElem? (i := 161) rfl) rfl
theorem q7_162 : (Cond.fieldLink "FlashFilesModel" (41) "FlashFilesModel" "piece" "[I" : Cond) ∈ TT := tt7 (List.mem_of_getElem? (i := 162) rfl) rfl
theorem q7_163 : (Cond.fieldLink "FlashFilesModel" (45) "FlashFilesModel" "pool" "[B" : Cond) ∈ TT := tt7 (List.mem_of_getElem? (i := 163) rfl) rfl
theorem q7_164 : (Cond.fieldLink "FlashFilesModel" (48) "FlashFilesModel" "owners" "[I" : Cond) ∈ TT := tt7 (List.mem_of_getElem? (i := 164) rfl) rfl
theorem q7_165 : (Cond.fieldLink "FlashFilesModel" (79) "FlashFilesModel" "search" "I" : Cond) ∈ TT := tt7 (List.mem_of_getElem? (i := 165) rfl) rfl
theorem q7_166 : (Cond.fieldLink "FlashFilesModel" (94) "FlashFilesModel" "entries" "I" : Cond) ∈ TT := tt7 (List.mem_of_getElem? (i := 166) rfl) rfl
theorem q7_167 : (Cond.fieldLink "FlashFilesModel" (51) "FlashFilesModel" "entryDirectory" "[I" : Cond) ∈ TT := tt7 (List.mem_of_getElem? (i := 167) rfl) rfl
theorem q7_168 : (Cond.fieldLink "FlashFilesModel" (54) "FlashFilesModel" "entryId" "[I" : Cond) ∈ TT := tt7 (List.mem_of_getElem? (i := 168) rfl) rfl
theorem q7_169 : (Cond.fieldLink "FlashFilesModel" (57) "FlashFilesModel" "entryLength" "[I" : Cond) ∈ TT := tt7 (List.mem_of_getElem? (i := 169) rfl) rfl
theorem q7_170 : (Cond.fieldLink "FlashFilesModel" (61) "FlashFilesModel" "entryName" "[B" : Cond) ∈ TT := tt7 (List.mem_of_getElem? (i := 170) rfl) rfl
theorem q7_171 : (Cond.fieldLink "FlashFilesModel" (123) "FlashFilesModel" "oldEntries" "I" : Cond) ∈ TT := tt7 (List.mem_of_getElem? (i := 171) rfl) rfl
theorem q7_172 : (Cond.fieldLink "FlashFilesModel" (64) "FlashFilesModel" "oldDirectory" "[I" : Cond) ∈ TT := tt7 (List.mem_of_getElem? (i := 172) rfl) rfl
theorem q7_173 : (Cond.fieldLink "FlashFilesModel" (67) "FlashFilesModel" "oldId" "[I" : Cond) ∈ TT := tt7 (List.mem_of_getElem? (i := 173) rfl) rfl
theorem q7_174 : (Cond.fieldLink "FlashFilesModel" (70) "FlashFilesModel" "oldLength" "[I" : Cond) ∈ TT := tt7 (List.mem_of_getElem? (i := 174) rfl) rfl
theorem q7_175 : (Cond.fieldLink "FlashFilesModel" (73) "FlashFilesModel" "oldName" "[B" : Cond) ∈ TT := tt7 (List.mem_of_getElem? (i := 175) rfl) rfl
theorem q7_176 : (Cond.lays "FlashFilesModel" "FlashFilesModel" "thrown" "I" : Cond) ∈ TT := tt7 (List.mem_of_getElem? (i := 176) rfl) rfl
theorem q7_178 : (Cond.lays "FlashFilesModel" "FlashFilesModel" "device" "Z" : Cond) ∈ TT := tt7 (List.mem_of_getElem? (i := 178) rfl) rfl
theorem q7_180 : (Cond.lays "FlashFilesModel" "FlashFilesModel" "mounted" "Z" : Cond) ∈ TT := tt7 (List.mem_of_getElem? (i := 180) rfl) rfl
theorem q7_182 : (Cond.lays "FlashFilesModel" "FlashFilesModel" "most" "I" : Cond) ∈ TT := tt7 (List.mem_of_getElem? (i := 182) rfl) rfl
theorem q7_184 : (Cond.lays "FlashFilesModel" "FlashFilesModel" "used" "I" : Cond) ∈ TT := tt7 (List.mem_of_getElem? (i := 184) rfl) rfl
theorem q7_186 : (Cond.lays "FlashFilesModel" "FlashFilesModel" "fresh" "I" : Cond) ∈ TT := tt7 (List.mem_of_getElem? (i := 186) rfl) rfl
theorem q7_188 : (Cond.lays "FlashFilesModel" "FlashFilesModel" "checkpoints" "I" : Cond) ∈ TT := tt7 (List.mem_of_getElem? (i := 188) rfl) rfl
theorem q7_190 : (Cond.lays "FlashFilesModel" "FlashFilesModel" "forward" "I" : Cond) ∈ TT := tt7 (List.mem_of_getElem? (i := 190) rfl) rfl
theorem q7_192 : (Cond.lays "FlashFilesModel" "FlashFilesModel" "cut" "I" : Cond) ∈ TT := tt7 (List.mem_of_getElem? (i := 192) rfl) rfl
theorem q7_194 : (Cond.laysFinal "FlashFilesModel" "FlashFilesModel" "tape" "[B" : Cond) ∈ TT := tt7 (List.mem_of_getElem? (i := 194) rfl) rfl
theorem q7_196 : (Cond.lays "FlashFilesModel" "FlashFilesModel" "taped" "I" : Cond) ∈ TT := tt7 (List.mem_of_getElem? (i := 196) rfl) rfl
theorem q7_198 : (Cond.laysFinal "FlashFilesModel" "FlashFilesModel" "told" "[B" : Cond) ∈ TT := tt7 (List.mem_of_getElem? (i := 198) rfl) rfl
theorem q7_200 : (Cond.lays "FlashFilesModel" "FlashFilesModel" "toldSize" "I" : Cond) ∈ TT := tt7 (List.mem_of_getElem? (i := 200) rfl) rfl
theorem q7_202 : (Cond.laysFinal "FlashFilesModel" "FlashFilesModel" "kind" "[I" : Cond) ∈ TT := tt7 (List.mem_of_getElem? (i := 202) rfl) rfl
theorem q7_204 : (Cond.laysFinal "FlashFilesModel" "FlashFilesModel" "size" "[I" : Cond) ∈ TT := tt7 (List.mem_of_getElem? (i := 204) rfl) rfl
theorem q7_206 : (Cond.laysFinal "FlashFilesModel" "FlashFilesModel" "links" "[I" : Cond) ∈ TT := tt7 (List.mem_of_getElem? (i := 206) rfl) rfl
theorem q7_208 : (Cond.laysFinal "FlashFilesModel" "FlashFilesModel" "small" "[Z" : Cond) ∈ TT := tt7 (List.mem_of_getElem? (i := 208) rfl) rfl
theorem q7_210 : (Cond.laysFinal "FlashFilesModel" "FlashFilesModel" "synced" "[Z" : Cond) ∈ TT := tt7 (List.mem_of_getElem? (i := 210) rfl) rfl
theorem q7_212 : (Cond.laysFinal "FlashFilesModel" "FlashFilesModel" "renamed" "[Z" : Cond) ∈ TT := tt7 (List.mem_of_getElem? (i := 212) rfl) rfl
theorem q7_214 : (Cond.laysFinal "FlashFilesModel" "FlashFilesModel" "piece" "[I" : Cond) ∈ TT := tt7 (List.mem_of_getElem? (i := 214) rfl) rfl
theorem q7_216 : (Cond.laysFinal "FlashFilesModel" "FlashFilesModel" "pool" "[B" : Cond) ∈ TT := tt7 (List.mem_of_getElem? (i := 216) rfl) rfl
theorem q7_218 : (Cond.laysFinal "FlashFilesModel" "FlashFilesModel" "owners" "[I" : Cond) ∈ TT := tt7 (List.mem_of_getElem? (i := 218) rfl) rfl
theorem q7_220 : (Cond.lays "FlashFilesModel" "FlashFilesModel" "search" "I" : Cond) ∈ TT := tt7 (List.mem_of_getElem? (i := 220) rfl) rfl
theorem q7_222 : (Cond.lays "FlashFilesModel" "FlashFilesModel" "entries" "I" : Cond) ∈ TT := tt7 (List.mem_of_getElem? (i := 222) rfl) rfl
theorem q7_224 : (Cond.laysFinal "FlashFilesModel" "FlashFilesModel" "entryDirectory" "[I" : Cond) ∈ TT := tt7 (List.mem_of_getElem? (i := 224) rfl) rfl
theorem q7_226 : (Cond.laysFinal "FlashFilesModel" "FlashFilesModel" "entryId" "[I" : Cond) ∈ TT := tt7 (List.mem_of_getElem? (i := 226) rfl) rfl
theorem q7_228 : (Cond.laysFinal "FlashFilesModel" "FlashFilesModel" "entryLength" "[I" : Cond) ∈ TT := tt7 (List.mem_of_getElem? (i := 228) rfl) rfl
theorem q7_230 : (Cond.laysFinal "FlashFilesModel" "FlashFilesModel" "entryName" "[B" : Cond) ∈ TT := tt7 (List.mem_of_getElem? (i := 230) rfl) rfl
theorem q7_232 : (Cond.lays "FlashFilesModel" "FlashFilesModel" "oldEntries" "I" : Cond) ∈ TT := tt7 (List.mem_of_getElem? (i := 232) rfl) rfl
theorem q7_234 : (Cond.laysFinal "FlashFilesModel" "FlashFilesModel" "oldDirectory" "[I" : Cond) ∈ TT := tt7 (List.mem_of_getElem? (i := 234) rfl) rfl
theorem q7_236 : (Cond.laysFinal "FlashFilesModel" "FlashFilesModel" "oldId" "[I" : Cond) ∈ TT := tt7 (List.mem_of_getElem? (i := 236) rfl) rfl
theorem q7_238 : (Cond.laysFinal "FlashFilesModel" "FlashFilesModel" "oldLength" "[I" : Cond) ∈ TT := tt7 (List.mem_of_getElem? (i := 238) rfl) rfl
theorem q8_0 : (Cond.laysFinal "FlashFilesModel" "FlashFilesModel" "oldName" "[B" : Cond) ∈ TT := tt8 (List.mem_of_getElem? (i := 0) rfl) rfl
abbrev R_FF : String := "FlashFiles"
def F_FF : u_T := fun k => match k with
  | 0 => ("FlashFiles", "onTape", "LFlashFiles$Row;", true)
  | 1 => ("FlashFiles", "told", "LFlashFiles$Row;", true)
  | 2 => ("FlashFiles", "first", "[I", true)
  | 3 => ("FlashFiles", "second", "[I", true)
  | 4 => ("FlashFiles", "device", "LFlashFiles$Device;", true)
  | 5 => ("FlashFiles", "table", "LFlashFiles$Table;", true)
  | 6 => ("FlashFiles", "log", "LFlashFiles$Log;", true)
  | 7 => ("FlashFiles", "files", "LFlashFiles$Files;", true)
  | 8 => ("FlashFiles", "tree", "LFlashFiles$Tree;", true)
  | 9 => ("FlashFiles", "checkpoints", "LFlashFiles$Checkpoints;", true)
  | 10 => ("FlashFiles", "inspector", "LFlashFiles$Inspector;", true)
  | 11 => ("FlashFiles", "state", "I", false)
  | 12 => ("FlashFiles", "cutAfter", "I", false)
  | _ => ("FlashFiles", "broughtForward", "I", false)
def ft_FF : Nat → FieldType := fun k => match k with
  | 0 => .object "FlashFiles$Row"
  | 1 => .object "FlashFiles$Row"
  | 2 => .array .int
  | 3 => .array .int
  | 4 => .object "FlashFiles$Device"
  | 5 => .object "FlashFiles$Table"
  | 6 => .object "FlashFiles$Log"
  | 7 => .object "FlashFiles$Files"
  | 8 => .object "FlashFiles$Tree"
  | 9 => .object "FlashFiles$Checkpoints"
  | 10 => .object "FlashFiles$Inspector"
  | 11 => .int
  | 12 => .int
  | _ => .int
theorem n_FF : ∀ a, a < 14 → ∀ b, b < 14 → a ≠ b → (F_FF a).2.1 ≠ (F_FF b).2.1 := by decide +kernel
theorem ft_FF_ok : ∀ k, k < 14 → parseFieldDescriptor (F_FF k).2.2.1 = some (ft_FF k) := by decide +kernel
theorem in_FF : ∀ w ∈ u_ws R_FF F_FF 14, w ∈ TT := List.forall_mem_cons.mpr ⟨q2_60, List.forall_mem_cons.mpr ⟨q2_62, List.forall_mem_cons.mpr ⟨q2_64, List.forall_mem_cons.mpr ⟨q2_66, List.forall_mem_cons.mpr ⟨q2_68, List.forall_mem_cons.mpr ⟨q2_70, List.forall_mem_cons.mpr ⟨q2_72, List.forall_mem_cons.mpr ⟨q2_74, List.forall_mem_cons.mpr ⟨q2_76, List.forall_mem_cons.mpr ⟨q2_78, List.forall_mem_cons.mpr ⟨q2_80, List.forall_mem_cons.mpr ⟨q2_82, List.forall_mem_cons.mpr ⟨q2_84, List.forall_mem_cons.mpr ⟨q2_86, fun _ h => absurd h List.not_mem_nil⟩⟩⟩⟩⟩⟩⟩⟩⟩⟩⟩⟩⟩⟩
abbrev R_Row : String := "FlashFiles$Row"
def F_Row : u_T := fun k => match k with
  | 0 => ("FlashFiles$Row", "bytes", "[I", true)
  | _ => ("FlashFiles$Row", "length", "I", false)
def ft_Row : Nat → FieldType := fun k => match k with
  | 0 => .array .int
  | _ => .int
theorem n_Row : ∀ a, a < 2 → ∀ b, b < 2 → a ≠ b → (F_Row a).2.1 ≠ (F_Row b).2.1 := by decide +kernel
theorem ft_Row_ok : ∀ k, k < 2 → parseFieldDescriptor (F_Row k).2.2.1 = some (ft_Row k) := by decide +kernel
theorem in_Row : ∀ w ∈ u_ws R_Row F_Row 2, w ∈ TT := List.forall_mem_cons.mpr ⟨q1_45, List.forall_mem_cons.mpr ⟨q1_47, fun _ h => absurd h List.not_mem_nil⟩⟩
abbrev R_Dev : String := "FlashFiles$Device"
def F_Dev : u_T := fun k => match k with
  | 0 => ("FlashFiles$Device", "words", "[I", true)
  | 1 => ("FlashFiles$Device", "written", "[Z", true)
  | _ => ("FlashFiles$Device", "spoiled", "I", false)
def ft_Dev : Nat → FieldType := fun k => match k with
  | 0 => .array .int
  | 1 => .array .boolean
  | _ => .int
theorem n_Dev : ∀ a, a < 3 → ∀ b, b < 3 → a ≠ b → (F_Dev a).2.1 ≠ (F_Dev b).2.1 := by decide +kernel
theorem ft_Dev_ok : ∀ k, k < 3 → parseFieldDescriptor (F_Dev k).2.2.1 = some (ft_Dev k) := by decide +kernel
theorem in_Dev : ∀ w ∈ u_ws R_Dev F_Dev 3, w ∈ TT := List.forall_mem_cons.mpr ⟨q1_61, List.forall_mem_cons.mpr ⟨q1_63, List.forall_mem_cons.mpr ⟨q1_65, fun _ h => absurd h List.not_mem_nil⟩⟩⟩
abbrev R_Tab : String := "FlashFiles$Table"
def F_Tab : u_T := fun k => match k with
  | 0 => ("FlashFiles$Table", "places", "[I", true)
  | 1 => ("FlashFiles$Table", "kept", "[I", true)
  | _ => ("FlashFiles$Table", "stirred", "[Z", true)
def ft_Tab : Nat → FieldType := fun k => match k with
  | 0 => .array .int
  | 1 => .array .int
  | _ => .array .boolean
theorem n_Tab : ∀ a, a < 3 → ∀ b, b < 3 → a ≠ b → (F_Tab a).2.1 ≠ (F_Tab b).2.1 := by decide +kernel
theorem ft_Tab_ok : ∀ k, k < 3 → parseFieldDescriptor (F_Tab k).2.2.1 = some (ft_Tab k) := by decide +kernel
theorem in_Tab : ∀ w ∈ u_ws R_Tab F_Tab 3, w ∈ TT := List.forall_mem_cons.mpr ⟨q1_78, List.forall_mem_cons.mpr ⟨q1_80, List.forall_mem_cons.mpr ⟨q1_82, fun _ h => absurd h List.not_mem_nil⟩⟩⟩
abbrev R_Log : String := "FlashFiles$Log"
def F_Log : u_T := fun k => match k with
  | 0 => ("FlashFiles$Log", "device", "LFlashFiles$Device;", true)
  | 1 => ("FlashFiles$Log", "table", "LFlashFiles$Table;", true)
  | 2 => ("FlashFiles$Log", "use", "[I", true)
  | 3 => ("FlashFiles$Log", "nodes", "[I", true)
  | 4 => ("FlashFiles$Log", "data", "[I", true)
  | 5 => ("FlashFiles$Log", "free", "[Z", true)
  | 6 => ("FlashFiles$Log", "segments", "I", false)
  | 7 => ("FlashFiles$Log", "freeSegments", "I", false)
  | 8 => ("FlashFiles$Log", "nodeEnd", "I", false)
  | 9 => ("FlashFiles$Log", "dataEnd", "I", false)
  | 10 => ("FlashFiles$Log", "lastOpened", "I", false)
  | _ => ("FlashFiles$Log", "serial", "I", false)
def ft_Log : Nat → FieldType := fun k => match k with
  | 0 => .object "FlashFiles$Device"
  | 1 => .object "FlashFiles$Table"
  | 2 => .array .int
  | 3 => .array .int
  | 4 => .array .int
  | 5 => .array .boolean
  | 6 => .int
  | 7 => .int
  | 8 => .int
  | 9 => .int
  | 10 => .int
  | _ => .int
theorem n_Log : ∀ a, a < 12 → ∀ b, b < 12 → a ≠ b → (F_Log a).2.1 ≠ (F_Log b).2.1 := by decide +kernel
theorem ft_Log_ok : ∀ k, k < 12 → parseFieldDescriptor (F_Log k).2.2.1 = some (ft_Log k) := by decide +kernel
theorem in_Log : ∀ w ∈ u_ws R_Log F_Log 12, w ∈ TT := List.forall_mem_cons.mpr ⟨q1_103, List.forall_mem_cons.mpr ⟨q1_105, List.forall_mem_cons.mpr ⟨q1_107, List.forall_mem_cons.mpr ⟨q1_109, List.forall_mem_cons.mpr ⟨q1_111, List.forall_mem_cons.mpr ⟨q1_113, List.forall_mem_cons.mpr ⟨q1_115, List.forall_mem_cons.mpr ⟨q1_117, List.forall_mem_cons.mpr ⟨q1_119, List.forall_mem_cons.mpr ⟨q1_121, List.forall_mem_cons.mpr ⟨q1_123, List.forall_mem_cons.mpr ⟨q1_125, fun _ h => absurd h List.not_mem_nil⟩⟩⟩⟩⟩⟩⟩⟩⟩⟩⟩⟩
abbrev R_Fil : String := "FlashFiles$Files"
def F_Fil : u_T := fun k => match k with
  | 0 => ("FlashFiles$Files", "device", "LFlashFiles$Device;", true)
  | 1 => ("FlashFiles$Files", "table", "LFlashFiles$Table;", true)
  | 2 => ("FlashFiles$Files", "log", "LFlashFiles$Log;", true)
  | 3 => ("FlashFiles$Files", "inode", "[I", true)
  | 4 => ("FlashFiles$Files", "indirect", "[I", true)
  | 5 => ("FlashFiles$Files", "direct", "[I", true)
  | 6 => ("FlashFiles$Files", "block", "[I", true)
  | 7 => ("FlashFiles$Files", "id", "I", false)
  | 8 => ("FlashFiles$Files", "opened", "I", false)
  | 9 => ("FlashFiles$Files", "directChanged", "Z", false)
  | _ => ("FlashFiles$Files", "indirectChanged", "Z", false)
def ft_Fil : Nat → FieldType := fun k => match k with
  | 0 => .object "FlashFiles$Device"
  | 1 => .object "FlashFiles$Table"
  | 2 => .object "FlashFiles$Log"
  | 3 => .array .int
  | 4 => .array .int
  | 5 => .array .int
  | 6 => .array .int
  | 7 => .int
  | 8 => .int
  | 9 => .boolean
  | _ => .boolean
theorem n_Fil : ∀ a, a < 11 → ∀ b, b < 11 → a ≠ b → (F_Fil a).2.1 ≠ (F_Fil b).2.1 := by decide +kernel
theorem ft_Fil_ok : ∀ k, k < 11 → parseFieldDescriptor (F_Fil k).2.2.1 = some (ft_Fil k) := by decide +kernel
theorem in_Fil : ∀ w ∈ u_ws R_Fil F_Fil 11, w ∈ TT := List.forall_mem_cons.mpr ⟨q1_145, List.forall_mem_cons.mpr ⟨q1_147, List.forall_mem_cons.mpr ⟨q1_149, List.forall_mem_cons.mpr ⟨q1_151, List.forall_mem_cons.mpr ⟨q1_153, List.forall_mem_cons.mpr ⟨q1_155, List.forall_mem_cons.mpr ⟨q1_157, List.forall_mem_cons.mpr ⟨q1_159, List.forall_mem_cons.mpr ⟨q1_161, List.forall_mem_cons.mpr ⟨q1_163, List.forall_mem_cons.mpr ⟨q1_165, fun _ h => absurd h List.not_mem_nil⟩⟩⟩⟩⟩⟩⟩⟩⟩⟩⟩
abbrev R_Tre : String := "FlashFiles$Tree"
def F_Tre : u_T := fun k => match k with
  | 0 => ("FlashFiles$Tree", "device", "LFlashFiles$Device;", true)
  | 1 => ("FlashFiles$Tree", "table", "LFlashFiles$Table;", true)
  | 2 => ("FlashFiles$Tree", "log", "LFlashFiles$Log;", true)
  | 3 => ("FlashFiles$Tree", "inode", "[I", true)
  | _ => ("FlashFiles$Tree", "entry", "[I", true)
def ft_Tre : Nat → FieldType := fun k => match k with
  | 0 => .object "FlashFiles$Device"
  | 1 => .object "FlashFiles$Table"
  | 2 => .object "FlashFiles$Log"
  | 3 => .array .int
  | _ => .array .int
theorem n_Tre : ∀ a, a < 5 → ∀ b, b < 5 → a ≠ b → (F_Tre a).2.1 ≠ (F_Tre b).2.1 := by decide +kernel
theorem ft_Tre_ok : ∀ k, k < 5 → parseFieldDescriptor (F_Tre k).2.2.1 = some (ft_Tre k) := by decide +kernel
theorem in_Tre : ∀ w ∈ u_ws R_Tre F_Tre 5, w ∈ TT := List.forall_mem_cons.mpr ⟨q1_179, List.forall_mem_cons.mpr ⟨q1_181, List.forall_mem_cons.mpr ⟨q1_183, List.forall_mem_cons.mpr ⟨q1_185, List.forall_mem_cons.mpr ⟨q1_187, fun _ h => absurd h List.not_mem_nil⟩⟩⟩⟩⟩
abbrev R_Cle : String := "FlashFiles$Cleaner"
def F_Cle : u_T := fun k => match k with
  | 0 => ("FlashFiles$Cleaner", "device", "LFlashFiles$Device;", true)
  | 1 => ("FlashFiles$Cleaner", "table", "LFlashFiles$Table;", true)
  | 2 => ("FlashFiles$Cleaner", "log", "LFlashFiles$Log;", true)
  | 3 => ("FlashFiles$Cleaner", "victims", "[Z", true)
  | 4 => ("FlashFiles$Cleaner", "node", "[I", true)
  | _ => ("FlashFiles$Cleaner", "block", "[I", true)
def ft_Cle : Nat → FieldType := fun k => match k with
  | 0 => .object "FlashFiles$Device"
  | 1 => .object "FlashFiles$Table"
  | 2 => .object "FlashFiles$Log"
  | 3 => .array .boolean
  | 4 => .array .int
  | _ => .array .int
theorem n_Cle : ∀ a, a < 6 → ∀ b, b < 6 → a ≠ b → (F_Cle a).2.1 ≠ (F_Cle b).2.1 := by decide +kernel
theorem ft_Cle_ok : ∀ k, k < 6 → parseFieldDescriptor (F_Cle k).2.2.1 = some (ft_Cle k) := by decide +kernel
theorem in_Cle : ∀ w ∈ u_ws R_Cle F_Cle 6, w ∈ TT := List.forall_mem_cons.mpr ⟨q1_204, List.forall_mem_cons.mpr ⟨q1_206, List.forall_mem_cons.mpr ⟨q1_208, List.forall_mem_cons.mpr ⟨q1_210, List.forall_mem_cons.mpr ⟨q1_212, List.forall_mem_cons.mpr ⟨q1_214, fun _ h => absurd h List.not_mem_nil⟩⟩⟩⟩⟩⟩
abbrev R_Chk : String := "FlashFiles$Checkpoints"
def F_Chk : u_T := fun k => match k with
  | 0 => ("FlashFiles$Checkpoints", "device", "LFlashFiles$Device;", true)
  | 1 => ("FlashFiles$Checkpoints", "table", "LFlashFiles$Table;", true)
  | 2 => ("FlashFiles$Checkpoints", "log", "LFlashFiles$Log;", true)
  | 3 => ("FlashFiles$Checkpoints", "tree", "LFlashFiles$Tree;", true)
  | 4 => ("FlashFiles$Checkpoints", "cleaner", "LFlashFiles$Cleaner;", true)
  | 5 => ("FlashFiles$Checkpoints", "pack", "[I", true)
  | 6 => ("FlashFiles$Checkpoints", "lastMark", "[I", true)
  | 7 => ("FlashFiles$Checkpoints", "room", "I", false)
  | 8 => ("FlashFiles$Checkpoints", "used", "I", false)
  | 9 => ("FlashFiles$Checkpoints", "fresh", "I", false)
  | _ => ("FlashFiles$Checkpoints", "taken", "I", false)
def ft_Chk : Nat → FieldType := fun k => match k with
  | 0 => .object "FlashFiles$Device"
  | 1 => .object "FlashFiles$Table"
  | 2 => .object "FlashFiles$Log"
  | 3 => .object "FlashFiles$Tree"
  | 4 => .object "FlashFiles$Cleaner"
  | 5 => .array .int
  | 6 => .array .int
  | 7 => .int
  | 8 => .int
  | 9 => .int
  | _ => .int
theorem n_Chk : ∀ a, a < 11 → ∀ b, b < 11 → a ≠ b → (F_Chk a).2.1 ≠ (F_Chk b).2.1 := by decide +kernel
theorem ft_Chk_ok : ∀ k, k < 11 → parseFieldDescriptor (F_Chk k).2.2.1 = some (ft_Chk k) := by decide +kernel
theorem in_Chk : ∀ w ∈ u_ws R_Chk F_Chk 11, w ∈ TT := List.forall_mem_cons.mpr ⟨q1_232, List.forall_mem_cons.mpr ⟨q1_234, List.forall_mem_cons.mpr ⟨q1_236, List.forall_mem_cons.mpr ⟨q1_238, List.forall_mem_cons.mpr ⟨q2_0, List.forall_mem_cons.mpr ⟨q2_2, List.forall_mem_cons.mpr ⟨q2_4, List.forall_mem_cons.mpr ⟨q2_6, List.forall_mem_cons.mpr ⟨q2_8, List.forall_mem_cons.mpr ⟨q2_10, List.forall_mem_cons.mpr ⟨q2_12, fun _ h => absurd h List.not_mem_nil⟩⟩⟩⟩⟩⟩⟩⟩⟩⟩⟩
abbrev R_Ins : String := "FlashFiles$Inspector"
def F_Ins : u_T := fun k => match k with
  | 0 => ("FlashFiles$Inspector", "device", "LFlashFiles$Device;", true)
  | 1 => ("FlashFiles$Inspector", "table", "LFlashFiles$Table;", true)
  | 2 => ("FlashFiles$Inspector", "log", "LFlashFiles$Log;", true)
  | 3 => ("FlashFiles$Inspector", "checkpoints", "LFlashFiles$Checkpoints;", true)
  | 4 => ("FlashFiles$Inspector", "owned", "[I", true)
  | 5 => ("FlashFiles$Inspector", "led", "[I", true)
  | 6 => ("FlashFiles$Inspector", "entry", "[I", true)
  | _ => ("FlashFiles$Inspector", "found", "I", false)
def ft_Ins : Nat → FieldType := fun k => match k with
  | 0 => .object "FlashFiles$Device"
  | 1 => .object "FlashFiles$Table"
  | 2 => .object "FlashFiles$Log"
  | 3 => .object "FlashFiles$Checkpoints"
  | 4 => .array .int
  | 5 => .array .int
  | 6 => .array .int
  | _ => .int
theorem n_Ins : ∀ a, a < 8 → ∀ b, b < 8 → a ≠ b → (F_Ins a).2.1 ≠ (F_Ins b).2.1 := by decide +kernel
theorem ft_Ins_ok : ∀ k, k < 8 → parseFieldDescriptor (F_Ins k).2.2.1 = some (ft_Ins k) := by decide +kernel
theorem in_Ins : ∀ w ∈ u_ws R_Ins F_Ins 8, w ∈ TT := List.forall_mem_cons.mpr ⟨q2_29, List.forall_mem_cons.mpr ⟨q2_31, List.forall_mem_cons.mpr ⟨q2_33, List.forall_mem_cons.mpr ⟨q2_35, List.forall_mem_cons.mpr ⟨q2_37, List.forall_mem_cons.mpr ⟨q2_39, List.forall_mem_cons.mpr ⟨q2_41, List.forall_mem_cons.mpr ⟨q2_43, fun _ h => absurd h List.not_mem_nil⟩⟩⟩⟩⟩⟩⟩⟩
abbrev R_Mod : String := "FlashFilesModel"
def F_Mod : u_T := fun k => match k with
  | 0 => ("FlashFilesModel", "thrown", "I", false)
  | 1 => ("FlashFilesModel", "device", "Z", false)
  | 2 => ("FlashFilesModel", "mounted", "Z", false)
  | 3 => ("FlashFilesModel", "most", "I", false)
  | 4 => ("FlashFilesModel", "used", "I", false)
  | 5 => ("FlashFilesModel", "fresh", "I", false)
  | 6 => ("FlashFilesModel", "checkpoints", "I", false)
  | 7 => ("FlashFilesModel", "forward", "I", false)
  | 8 => ("FlashFilesModel", "cut", "I", false)
  | 9 => ("FlashFilesModel", "tape", "[B", true)
  | 10 => ("FlashFilesModel", "taped", "I", false)
  | 11 => ("FlashFilesModel", "told", "[B", true)
  | 12 => ("FlashFilesModel", "toldSize", "I", false)
  | 13 => ("FlashFilesModel", "kind", "[I", true)
  | 14 => ("FlashFilesModel", "size", "[I", true)
  | 15 => ("FlashFilesModel", "links", "[I", true)
  | 16 => ("FlashFilesModel", "small", "[Z", true)
  | 17 => ("FlashFilesModel", "synced", "[Z", true)
  | 18 => ("FlashFilesModel", "renamed", "[Z", true)
  | 19 => ("FlashFilesModel", "piece", "[I", true)
  | 20 => ("FlashFilesModel", "pool", "[B", true)
  | 21 => ("FlashFilesModel", "owners", "[I", true)
  | 22 => ("FlashFilesModel", "search", "I", false)
  | 23 => ("FlashFilesModel", "entries", "I", false)
  | 24 => ("FlashFilesModel", "entryDirectory", "[I", true)
  | 25 => ("FlashFilesModel", "entryId", "[I", true)
  | 26 => ("FlashFilesModel", "entryLength", "[I", true)
  | 27 => ("FlashFilesModel", "entryName", "[B", true)
  | 28 => ("FlashFilesModel", "oldEntries", "I", false)
  | 29 => ("FlashFilesModel", "oldDirectory", "[I", true)
  | 30 => ("FlashFilesModel", "oldId", "[I", true)
  | 31 => ("FlashFilesModel", "oldLength", "[I", true)
  | _ => ("FlashFilesModel", "oldName", "[B", true)
def ft_Mod : Nat → FieldType := fun k => match k with
  | 0 => .int
  | 1 => .boolean
  | 2 => .boolean
  | 3 => .int
  | 4 => .int
  | 5 => .int
  | 6 => .int
  | 7 => .int
  | 8 => .int
  | 9 => .array .byte
  | 10 => .int
  | 11 => .array .byte
  | 12 => .int
  | 13 => .array .int
  | 14 => .array .int
  | 15 => .array .int
  | 16 => .array .boolean
  | 17 => .array .boolean
  | 18 => .array .boolean
  | 19 => .array .int
  | 20 => .array .byte
  | 21 => .array .int
  | 22 => .int
  | 23 => .int
  | 24 => .array .int
  | 25 => .array .int
  | 26 => .array .int
  | 27 => .array .byte
  | 28 => .int
  | 29 => .array .int
  | 30 => .array .int
  | 31 => .array .int
  | _ => .array .byte
theorem n_Mod : ∀ a, a < 33 → ∀ b, b < 33 → a ≠ b → (F_Mod a).2.1 ≠ (F_Mod b).2.1 := by decide +kernel
theorem ft_Mod_ok : ∀ k, k < 33 → parseFieldDescriptor (F_Mod k).2.2.1 = some (ft_Mod k) := by decide +kernel
theorem in_Mod : ∀ w ∈ u_ws R_Mod F_Mod 33, w ∈ TT := List.forall_mem_cons.mpr ⟨q7_176, List.forall_mem_cons.mpr ⟨q7_178, List.forall_mem_cons.mpr ⟨q7_180, List.forall_mem_cons.mpr ⟨q7_182, List.forall_mem_cons.mpr ⟨q7_184, List.forall_mem_cons.mpr ⟨q7_186, List.forall_mem_cons.mpr ⟨q7_188, List.forall_mem_cons.mpr ⟨q7_190, List.forall_mem_cons.mpr ⟨q7_192, List.forall_mem_cons.mpr ⟨q7_194, List.forall_mem_cons.mpr ⟨q7_196, List.forall_mem_cons.mpr ⟨q7_198, List.forall_mem_cons.mpr ⟨q7_200, List.forall_mem_cons.mpr ⟨q7_202, List.forall_mem_cons.mpr ⟨q7_204, List.forall_mem_cons.mpr ⟨q7_206, List.forall_mem_cons.mpr ⟨q7_208, List.forall_mem_cons.mpr ⟨q7_210, List.forall_mem_cons.mpr ⟨q7_212, List.forall_mem_cons.mpr ⟨q7_214, List.forall_mem_cons.mpr ⟨q7_216, List.forall_mem_cons.mpr ⟨q7_218, List.forall_mem_cons.mpr ⟨q7_220, List.forall_mem_cons.mpr ⟨q7_222, List.forall_mem_cons.mpr ⟨q7_224, List.forall_mem_cons.mpr ⟨q7_226, List.forall_mem_cons.mpr ⟨q7_228, List.forall_mem_cons.mpr ⟨q7_230, List.forall_mem_cons.mpr ⟨q7_232, List.forall_mem_cons.mpr ⟨q7_234, List.forall_mem_cons.mpr ⟨q7_236, List.forall_mem_cons.mpr ⟨q7_238, List.forall_mem_cons.mpr ⟨q8_0, fun _ h => absurd h List.not_mem_nil⟩⟩⟩⟩⟩⟩⟩⟩⟩⟩⟩⟩⟩⟩⟩⟩⟩⟩⟩⟩⟩⟩⟩⟩⟩⟩⟩⟩⟩⟩⟩⟩⟩
abbrev cls : List vw_C := [(R_FF, F_FF, 14), (R_Row, F_Row, 2), (R_Dev, F_Dev, 3), (R_Tab, F_Tab, 3), (R_Log, F_Log, 12), (R_Fil, F_Fil, 11), (R_Tre, F_Tre, 5), (R_Cle, F_Cle, 6), (R_Chk, F_Chk, 11), (R_Ins, F_Ins, 8), (R_Mod, F_Mod, 33)]
def lenF : Nat → Nat
  | 0 => 2060
  | 1 => 2000
  | 2 => 6
  | 3 => 6
  | 4 => 135488
  | 5 => 2117
  | 6 => 2048
  | 7 => 2048
  | 8 => 251
  | 9 => 2117
  | 10 => 128
  | 11 => 128
  | 12 => 128
  | 13 => 64
  | 14 => 64
  | 15 => 64
  | 16 => 64
  | 17 => 64
  | 18 => 64
  | 19 => 128
  | 20 => 64
  | 21 => 64
  | 22 => 2176
  | 23 => 251
  | 24 => 2117
  | 25 => 2048
  | _ => 64
def wF (ad : Nat → Nat) (ca : Nat → ClassId) (s : St) : va_W := [
  (ad 0, .inr (0, [.ref (ad 1), .ref (ad 2), .ref (ad 13), .ref (ad 14), .ref (ad 3), .ref (ad 4), .ref (ad 5), .ref (ad 6), .ref (ad 7), .ref (ad 9), .ref (ad 10), .int (s.1 2), .int (s.1 3), .int (s.1 4)])),
  (ad 1, .inr (1, [.ref (ad 11), .int (s.1 0)])),
  (ad 2, .inr (1, [.ref (ad 12), .int (s.1 1)])),
  (ad 3, .inr (2, [.ref (ad 15), .ref (ad 16), .int (s.1 5)])),
  (ad 4, .inr (3, [.ref (ad 17), .ref (ad 18), .ref (ad 19)])),
  (ad 5, .inr (4, [.ref (ad 3), .ref (ad 4), .ref (ad 20), .ref (ad 21), .ref (ad 22), .ref (ad 23), .int (s.1 6), .int (s.1 7), .int (s.1 8), .int (s.1 9), .int (s.1 10), .int (s.1 11)])),
  (ad 6, .inr (5, [.ref (ad 3), .ref (ad 4), .ref (ad 5), .ref (ad 24), .ref (ad 25), .ref (ad 26), .ref (ad 27), .int (s.1 12), .int (s.1 13), .int (s.1 14), .int (s.1 15)])),
  (ad 7, .inr (6, [.ref (ad 3), .ref (ad 4), .ref (ad 5), .ref (ad 28), .ref (ad 29)])),
  (ad 8, .inr (7, [.ref (ad 3), .ref (ad 4), .ref (ad 5), .ref (ad 30), .ref (ad 31), .ref (ad 32)])),
  (ad 9, .inr (8, [.ref (ad 3), .ref (ad 4), .ref (ad 5), .ref (ad 7), .ref (ad 8), .ref (ad 33), .ref (ad 34), .int (s.1 16), .int (s.1 17), .int (s.1 18), .int (s.1 19)])),
  (ad 10, .inr (9, [.ref (ad 3), .ref (ad 4), .ref (ad 5), .ref (ad 9), .ref (ad 35), .ref (ad 36), .ref (ad 37), .int (s.1 20)])),
  (ad 11, .inl (ca 0, (2060, .inl (s.2 0)))),
  (ad 12, .inl (ca 1, (2000, .inl (s.2 1)))),
  (ad 13, .inl (ca 2, (6, .inl (s.2 2)))),
  (ad 14, .inl (ca 3, (6, .inl (s.2 3)))),
  (ad 15, .inl (ca 4, (135488, .inl (s.2 4)))),
  (ad 16, .inl (ca 5, (2117, .inl (s.2 5)))),
  (ad 17, .inl (ca 6, (2048, .inl (s.2 6)))),
  (ad 18, .inl (ca 7, (2048, .inl (s.2 7)))),
  (ad 19, .inl (ca 8, (251, .inl (s.2 8)))),
  (ad 20, .inl (ca 9, (2117, .inl (s.2 9)))),
  (ad 21, .inl (ca 10, (128, .inl (s.2 10)))),
  (ad 22, .inl (ca 11, (128, .inl (s.2 11)))),
  (ad 23, .inl (ca 12, (128, .inl (s.2 12)))),
  (ad 24, .inl (ca 13, (64, .inl (s.2 13)))),
  (ad 25, .inl (ca 14, (64, .inl (s.2 14)))),
  (ad 26, .inl (ca 15, (64, .inl (s.2 15)))),
  (ad 27, .inl (ca 16, (64, .inl (s.2 16)))),
  (ad 28, .inl (ca 17, (64, .inl (s.2 17)))),
  (ad 29, .inl (ca 18, (64, .inl (s.2 18)))),
  (ad 30, .inl (ca 19, (128, .inl (s.2 19)))),
  (ad 31, .inl (ca 20, (64, .inl (s.2 20)))),
  (ad 32, .inl (ca 21, (64, .inl (s.2 21)))),
  (ad 33, .inl (ca 22, (2176, .inl (s.2 22)))),
  (ad 34, .inl (ca 23, (251, .inl (s.2 23)))),
  (ad 35, .inl (ca 24, (2117, .inl (s.2 24)))),
  (ad 36, .inl (ca 25, (2048, .inl (s.2 25)))),
  (ad 37, .inl (ca 26, (64, .inl (s.2 26))))]
def tyF (ca : Nat → ClassId) : List (ClassId × FieldType) := [(ca 0, .int), (ca 1, .int), (ca 2, .int), (ca 3, .int), (ca 4, .int), (ca 5, .boolean), (ca 6, .int), (ca 7, .int), (ca 8, .boolean), (ca 9, .int), (ca 10, .int), (ca 11, .int), (ca 12, .boolean), (ca 13, .int), (ca 14, .int), (ca 15, .int), (ca 16, .int), (ca 17, .int), (ca 18, .int), (ca 19, .boolean), (ca 20, .int), (ca 21, .int), (ca 22, .int), (ca 23, .int), (ca 24, .int), (ca 25, .int), (ca 26, .int)]
def wM (ad : Nat → Nat) (ca : Nat → ClassId) (s : St) : va_W := [
  (ad 0, .inr (10, [.int (s.1 0), .int (s.1 1), .int (s.1 2), .int (s.1 3), .int (s.1 4), .int (s.1 5), .int (s.1 6), .int (s.1 7), .int (s.1 8), .ref (ad 1), .int (s.1 9), .ref (ad 2), .int (s.1 10), .ref (ad 3), .ref (ad 4), .ref (ad 5), .ref (ad 6), .ref (ad 7), .ref (ad 8), .ref (ad 9), .ref (ad 10), .ref (ad 11), .int (s.1 11), .int (s.1 12), .ref (ad 12), .ref (ad 13), .ref (ad 14), .ref (ad 15), .int (s.1 13), .ref (ad 16), .ref (ad 17), .ref (ad 18), .ref (ad 19)])),
  (ad 1, .inl (ca 0, (2060, .inl (s.2 0)))),
  (ad 2, .inl (ca 1, (2000, .inl (s.2 1)))),
  (ad 3, .inl (ca 2, (753, .inl (s.2 2)))),
  (ad 4, .inl (ca 3, (753, .inl (s.2 3)))),
  (ad 5, .inl (ca 4, (753, .inl (s.2 4)))),
  (ad 6, .inl (ca 5, (753, .inl (s.2 5)))),
  (ad 7, .inl (ca 6, (251, .inl (s.2 6)))),
  (ad 8, .inl (ca 7, (251, .inl (s.2 7)))),
  (ad 9, .inl (ca 8, (294423, .inl (s.2 8)))),
  (ad 10, .inl (ca 9, (1689600, .inl (s.2 9)))),
  (ad 11, .inl (ca 10, (6600, .inl (s.2 10)))),
  (ad 12, .inl (ca 11, (2400, .inl (s.2 11)))),
  (ad 13, .inl (ca 12, (2400, .inl (s.2 12)))),
  (ad 14, .inl (ca 13, (2400, .inl (s.2 13)))),
  (ad 15, .inl (ca 14, (48000, .inl (s.2 14)))),
  (ad 16, .inl (ca 15, (2400, .inl (s.2 15)))),
  (ad 17, .inl (ca 16, (2400, .inl (s.2 16)))),
  (ad 18, .inl (ca 17, (2400, .inl (s.2 17)))),
  (ad 19, .inl (ca 18, (48000, .inl (s.2 18))))]
def tyM (ca : Nat → ClassId) : List (ClassId × FieldType) := [(ca 0, .byte), (ca 1, .byte), (ca 2, .int), (ca 3, .int), (ca 4, .int), (ca 5, .boolean), (ca 6, .boolean), (ca 7, .boolean), (ca 8, .int), (ca 9, .byte), (ca 10, .int), (ca 11, .int), (ca 12, .int), (ca 13, .int), (ca 14, .byte), (ca 15, .int), (ca 16, .int), (ca 17, .int), (ca 18, .byte)]
