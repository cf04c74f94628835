/-! words of the tables, methods, what a call asks of them -/
theorem q_in {w : Cond} (h : w ∈ tables_1) (hg : goodWord w = true) : w ∈ zW0 := List.mem_filter.mpr ⟨(show w ∈ k2_sels lw_privs ++ tables_1 from List.mem_append_right _ h), hg⟩
theorem q_is {w : Cond} (h : w ∈ k2_sels lw_privs) (hg : goodWord w = true) : w ∈ zW0 := List.mem_filter.mpr ⟨(show w ∈ k2_sels lw_privs ++ tables_1 from List.mem_append_left _ h), hg⟩
theorem q_1 : (Jvm.Cond.initialized "BakedBefore") ∈ zW0 := q_in (List.mem_of_getElem? (i := 1) (by decide +kernel)) (by decide +kernel)
theorem q_2 : (Jvm.Cond.initialized "BakedBefore$Stand") ∈ zW0 := q_in (List.mem_of_getElem? (i := 2) (by decide +kernel)) (by decide +kernel)
theorem q_3 : (Jvm.Cond.initialized "BakedBefore$Oven") ∈ zW0 := q_in (List.mem_of_getElem? (i := 3) (by decide +kernel)) (by decide +kernel)
theorem q_4 : (Jvm.Cond.initialized "BakedBefore$Book") ∈ zW0 := q_in (List.mem_of_getElem? (i := 4) (by decide +kernel)) (by decide +kernel)
theorem q_5 : (Jvm.Cond.initialized "BakedBefore$Loaf") ∈ zW0 := q_in (List.mem_of_getElem? (i := 5) (by decide +kernel)) (by decide +kernel)
theorem q_6 : (Jvm.Cond.initialized "BakedBefore$Reade\x72") ∈ zW0 := q_in (List.mem_of_getElem? (i := 6) (by decide +kernel)) (by decide +kernel)
theorem q_7 : (Jvm.Cond.initialized "BakedBefore$Kiln") ∈ zW0 := q_in (List.mem_of_getElem? (i := 7) (by decide +kernel)) (by decide +kernel)
theorem q_8 : (Jvm.Cond.initialized "BakedBefore$Bake\x72") ∈ zW0 := q_in (List.mem_of_getElem? (i := 8) (by decide +kernel)) (by decide +kernel)
theorem q_9 : (Jvm.Cond.initialized "BakedBefore$Aske\x72") ∈ zW0 := q_in (List.mem_of_getElem? (i := 9) (by decide +kernel)) (by decide +kernel)
theorem q_10 : (Jvm.Cond.initialized "BakedBefore$Search") ∈ zW0 := q_in (List.mem_of_getElem? (i := 10) (by decide +kernel)) (by decide +kernel)
theorem q_11 : (Jvm.Cond.initialized "BakedBefore$Acts") ∈ zW0 := q_in (List.mem_of_getElem? (i := 11) (by decide +kernel)) (by decide +kernel)
theorem q_12 : (Jvm.Cond.initialized "BakedBefore$Tapes") ∈ zW0 := q_in (List.mem_of_getElem? (i := 12) (by decide +kernel)) (by decide +kernel)
theorem q_13 : (Jvm.Cond.initialized "BakedBeforeModel") ∈ zW0 := q_in (List.mem_of_getElem? (i := 13) (by decide +kernel)) (by decide +kernel)
theorem q_14 : (Jvm.Cond.initialized "java/lang/Math") ∈ zW0 := q_in (List.mem_of_getElem? (i := 14) (by decide +kernel)) (by decide +kernel)
theorem q_19 : (Jvm.Cond.initialized "java/lang/Intege\x72") ∈ zW0 := q_in (List.mem_of_getElem? (i := 19) (by decide +kernel)) (by decide +kernel)
theorem q_43 : (Jvm.Cond.fieldLink "BakedBefore$Oven" (9 : Nat) "BakedBefore$Oven" "held" "[I") ∈ zW0 := q_in (List.mem_of_getElem? (i := 43) (by decide +kernel)) (by decide +kernel)
theorem q_44 : (Jvm.Cond.fieldLink "BakedBefore$Bake\x72" (50 : Nat) "BakedBefore$Oven" "held" "[I") ∈ zW0 := q_in (List.mem_of_getElem? (i := 44) (by decide +kernel)) (by decide +kernel)
theorem q_45 : (Jvm.Cond.fieldLink "BakedBefore" (144 : Nat) "BakedBefore$Oven" "held" "[I") ∈ zW0 := q_in (List.mem_of_getElem? (i := 45) (by decide +kernel)) (by decide +kernel)
theorem q_46 : (Jvm.Cond.fieldLink "BakedBefore$Tapes" (35 : Nat) "BakedBefore$Oven" "held" "[I") ∈ zW0 := q_in (List.mem_of_getElem? (i := 46) (by decide +kernel)) (by decide +kernel)
theorem q_47 : (Jvm.Cond.fieldLink "BakedBefore$Aske\x72" (105 : Nat) "BakedBefore$Oven" "held" "[I") ∈ zW0 := q_in (List.mem_of_getElem? (i := 47) (by decide +kernel)) (by decide +kernel)
theorem q_48 : (Jvm.Cond.fieldLink "BakedBefore$Oven" (15 : Nat) "BakedBefore$Oven" "hou\x72" "I") ∈ zW0 := q_in (List.mem_of_getElem? (i := 48) (by decide +kernel)) (by decide +kernel)
theorem q_49 : (Jvm.Cond.fieldLink "BakedBefore$Bake\x72" (55 : Nat) "BakedBefore$Oven" "hou\x72" "I") ∈ zW0 := q_in (List.mem_of_getElem? (i := 49) (by decide +kernel)) (by decide +kernel)
theorem q_50 : (Jvm.Cond.fieldLink "BakedBefore" (116 : Nat) "BakedBefore$Oven" "hou\x72" "I") ∈ zW0 := q_in (List.mem_of_getElem? (i := 50) (by decide +kernel)) (by decide +kernel)
theorem q_51 : (Jvm.Cond.fieldLink "BakedBefore$Aske\x72" (80 : Nat) "BakedBefore$Oven" "hou\x72" "I") ∈ zW0 := q_in (List.mem_of_getElem? (i := 51) (by decide +kernel)) (by decide +kernel)
theorem q_64 : (Jvm.Cond.fieldLink "BakedBefore$Book" (11 : Nat) "BakedBefore$Book" "loaves" "[I") ∈ zW0 := q_in (List.mem_of_getElem? (i := 64) (by decide +kernel)) (by decide +kernel)
theorem q_65 : (Jvm.Cond.fieldLink "BakedBefore$Aske\x72" (121 : Nat) "BakedBefore$Book" "loaves" "[I") ∈ zW0 := q_in (List.mem_of_getElem? (i := 65) (by decide +kernel)) (by decide +kernel)
theorem q_66 : (Jvm.Cond.fieldLink "BakedBefore$Book" (15 : Nat) "BakedBefore$Book" "spoiled" "[Z") ∈ zW0 := q_in (List.mem_of_getElem? (i := 66) (by decide +kernel)) (by decide +kernel)
theorem q_67 : (Jvm.Cond.fieldLink "BakedBefore$Aske\x72" (123 : Nat) "BakedBefore$Book" "spoiled" "[Z") ∈ zW0 := q_in (List.mem_of_getElem? (i := 67) (by decide +kernel)) (by decide +kernel)
theorem q_68 : (Jvm.Cond.fieldLink "BakedBefore$Book" (19 : Nat) "BakedBefore$Book" "rows" "I") ∈ zW0 := q_in (List.mem_of_getElem? (i := 68) (by decide +kernel)) (by decide +kernel)
theorem q_69 : (Jvm.Cond.fieldLink "BakedBefore$Aske\x72" (116 : Nat) "BakedBefore$Book" "rows" "I") ∈ zW0 := q_in (List.mem_of_getElem? (i := 69) (by decide +kernel)) (by decide +kernel)
theorem q_70 : (Jvm.Cond.fieldLink "BakedBefore" (241 : Nat) "BakedBefore$Book" "rows" "I") ∈ zW0 := q_in (List.mem_of_getElem? (i := 70) (by decide +kernel)) (by decide +kernel)
theorem q_85 : (Jvm.Cond.fieldLink "BakedBefore$Acts" (44 : Nat) "BakedBefore$Loaf" "numbe\x72" "I") ∈ zW0 := q_in (List.mem_of_getElem? (i := 85) (by decide +kernel)) (by decide +kernel)
theorem q_86 : (Jvm.Cond.fieldLink "BakedBefore$Kiln" (42 : Nat) "BakedBefore$Loaf" "numbe\x72" "I") ∈ zW0 := q_in (List.mem_of_getElem? (i := 86) (by decide +kernel)) (by decide +kernel)
theorem q_87 : (Jvm.Cond.fieldLink "BakedBefore$Loaf" (9 : Nat) "BakedBefore$Loaf" "gives" "[I") ∈ zW0 := q_in (List.mem_of_getElem? (i := 87) (by decide +kernel)) (by decide +kernel)
theorem q_88 : (Jvm.Cond.fieldLink "BakedBefore" (99 : Nat) "BakedBefore$Loaf" "gives" "[I") ∈ zW0 := q_in (List.mem_of_getElem? (i := 88) (by decide +kernel)) (by decide +kernel)
theorem q_89 : (Jvm.Cond.fieldLink "BakedBefore$Bake\x72" (69 : Nat) "BakedBefore$Loaf" "gives" "[I") ∈ zW0 := q_in (List.mem_of_getElem? (i := 89) (by decide +kernel)) (by decide +kernel)
theorem q_90 : (Jvm.Cond.fieldLink "BakedBefore$Loaf" (15 : Nat) "BakedBefore$Loaf" "bears" "[I") ∈ zW0 := q_in (List.mem_of_getElem? (i := 90) (by decide +kernel)) (by decide +kernel)
theorem q_91 : (Jvm.Cond.fieldLink "BakedBefore" (103 : Nat) "BakedBefore$Loaf" "bears" "[I") ∈ zW0 := q_in (List.mem_of_getElem? (i := 91) (by decide +kernel)) (by decide +kernel)
theorem q_92 : (Jvm.Cond.fieldLink "BakedBefore$Bake\x72" (34 : Nat) "BakedBefore$Loaf" "bears" "[I") ∈ zW0 := q_in (List.mem_of_getElem? (i := 92) (by decide +kernel)) (by decide +kernel)
theorem q_93 : (Jvm.Cond.fieldLink "BakedBefore$Loaf" (22 : Nat) "BakedBefore$Loaf" "kind" "I") ∈ zW0 := q_in (List.mem_of_getElem? (i := 93) (by decide +kernel)) (by decide +kernel)
theorem q_94 : (Jvm.Cond.fieldLink "BakedBefore$Acts" (19 : Nat) "BakedBefore$Loaf" "kind" "I") ∈ zW0 := q_in (List.mem_of_getElem? (i := 94) (by decide +kernel)) (by decide +kernel)
theorem q_95 : (Jvm.Cond.fieldLink "BakedBefore$Bake\x72" (29 : Nat) "BakedBefore$Loaf" "kind" "I") ∈ zW0 := q_in (List.mem_of_getElem? (i := 95) (by decide +kernel)) (by decide +kernel)
theorem q_96 : (Jvm.Cond.fieldLink "BakedBefore" (106 : Nat) "BakedBefore$Loaf" "kind" "I") ∈ zW0 := q_in (List.mem_of_getElem? (i := 96) (by decide +kernel)) (by decide +kernel)
theorem q_97 : (Jvm.Cond.fieldLink "BakedBefore$Kiln" (47 : Nat) "BakedBefore$Loaf" "kind" "I") ∈ zW0 := q_in (List.mem_of_getElem? (i := 97) (by decide +kernel)) (by decide +kernel)
theorem q_98 : (Jvm.Cond.fieldLink "BakedBefore$Loaf" (25 : Nat) "BakedBefore$Loaf" "v" "I") ∈ zW0 := q_in (List.mem_of_getElem? (i := 98) (by decide +kernel)) (by decide +kernel)
theorem q_99 : (Jvm.Cond.fieldLink "BakedBefore$Bake\x72" (44 : Nat) "BakedBefore$Loaf" "v" "I") ∈ zW0 := q_in (List.mem_of_getElem? (i := 99) (by decide +kernel)) (by decide +kernel)
theorem q_100 : (Jvm.Cond.fieldLink "BakedBefore$Acts" (47 : Nat) "BakedBefore$Loaf" "v" "I") ∈ zW0 := q_in (List.mem_of_getElem? (i := 100) (by decide +kernel)) (by decide +kernel)
theorem q_101 : (Jvm.Cond.fieldLink "BakedBefore" (109 : Nat) "BakedBefore$Loaf" "v" "I") ∈ zW0 := q_in (List.mem_of_getElem? (i := 101) (by decide +kernel)) (by decide +kernel)
theorem q_102 : (Jvm.Cond.fieldLink "BakedBefore$Kiln" (50 : Nat) "BakedBefore$Loaf" "v" "I") ∈ zW0 := q_in (List.mem_of_getElem? (i := 102) (by decide +kernel)) (by decide +kernel)
theorem q_114 : (Jvm.Cond.fieldLink "BakedBefore$Stand" (11 : Nat) "BakedBefore$Stand" "loaves" "[LBakedBefore$Loaf;") ∈ zW0 := q_in (List.mem_of_getElem? (i := 114) (by decide +kernel)) (by decide +kernel)
theorem q_115 : (Jvm.Cond.fieldLink "BakedBefore$Aske\x72" (39 : Nat) "BakedBefore$Stand" "loaves" "[LBakedBefore$Loaf;") ∈ zW0 := q_in (List.mem_of_getElem? (i := 115) (by decide +kernel)) (by decide +kernel)
theorem q_116 : (Jvm.Cond.fieldLink "BakedBefore" (82 : Nat) "BakedBefore$Stand" "loaves" "[LBakedBefore$Loaf;") ∈ zW0 := q_in (List.mem_of_getElem? (i := 116) (by decide +kernel)) (by decide +kernel)
theorem q_117 : (Jvm.Cond.fieldLink "BakedBefore$Search" (67 : Nat) "BakedBefore$Stand" "loaves" "[LBakedBefore$Loaf;") ∈ zW0 := q_in (List.mem_of_getElem? (i := 117) (by decide +kernel)) (by decide +kernel)
theorem q_118 : (Jvm.Cond.fieldLink "BakedBefore$Stand" (20 : Nat) "BakedBefore$Stand" "oven" "LBakedBefore$Oven;") ∈ zW0 := q_in (List.mem_of_getElem? (i := 118) (by decide +kernel)) (by decide +kernel)
theorem q_119 : (Jvm.Cond.fieldLink "BakedBefore$Aske\x72" (30 : Nat) "BakedBefore$Stand" "oven" "LBakedBefore$Oven;") ∈ zW0 := q_in (List.mem_of_getElem? (i := 119) (by decide +kernel)) (by decide +kernel)
theorem q_120 : (Jvm.Cond.fieldLink "BakedBefore$Search" (46 : Nat) "BakedBefore$Stand" "oven" "LBakedBefore$Oven;") ∈ zW0 := q_in (List.mem_of_getElem? (i := 120) (by decide +kernel)) (by decide +kernel)
theorem q_121 : (Jvm.Cond.fieldLink "BakedBefore" (112 : Nat) "BakedBefore$Stand" "oven" "LBakedBefore$Oven;") ∈ zW0 := q_in (List.mem_of_getElem? (i := 121) (by decide +kernel)) (by decide +kernel)
theorem q_122 : (Jvm.Cond.fieldLink "BakedBefore$Stand" (27 : Nat) "BakedBefore$Stand" "book" "LBakedBefore$Book;") ∈ zW0 := q_in (List.mem_of_getElem? (i := 122) (by decide +kernel)) (by decide +kernel)
theorem q_123 : (Jvm.Cond.fieldLink "BakedBefore$Aske\x72" (112 : Nat) "BakedBefore$Stand" "book" "LBakedBefore$Book;") ∈ zW0 := q_in (List.mem_of_getElem? (i := 123) (by decide +kernel)) (by decide +kernel)
theorem q_124 : (Jvm.Cond.fieldLink "BakedBefore" (237 : Nat) "BakedBefore$Stand" "book" "LBakedBefore$Book;") ∈ zW0 := q_in (List.mem_of_getElem? (i := 124) (by decide +kernel)) (by decide +kernel)
theorem q_125 : (Jvm.Cond.fieldLink "BakedBefore$Stand" (38 : Nat) "BakedBefore$Stand" "many" "I") ∈ zW0 := q_in (List.mem_of_getElem? (i := 125) (by decide +kernel)) (by decide +kernel)
theorem q_126 : (Jvm.Cond.fieldLink "BakedBefore" (78 : Nat) "BakedBefore$Stand" "many" "I") ∈ zW0 := q_in (List.mem_of_getElem? (i := 126) (by decide +kernel)) (by decide +kernel)
theorem q_127 : (Jvm.Cond.fieldLink "BakedBefore$Search" (64 : Nat) "BakedBefore$Stand" "many" "I") ∈ zW0 := q_in (List.mem_of_getElem? (i := 127) (by decide +kernel)) (by decide +kernel)
theorem q_128 : (Jvm.Cond.fieldLink "BakedBefore$Aske\x72" (65 : Nat) "BakedBefore$Stand" "many" "I") ∈ zW0 := q_in (List.mem_of_getElem? (i := 128) (by decide +kernel)) (by decide +kernel)
theorem q_129 : (Jvm.Cond.fieldLink "BakedBefore$Stand" (31 : Nat) "BakedBefore$Stand" "holding" "I") ∈ zW0 := q_in (List.mem_of_getElem? (i := 129) (by decide +kernel)) (by decide +kernel)
theorem q_130 : (Jvm.Cond.fieldLink "BakedBefore" (158 : Nat) "BakedBefore$Stand" "holding" "I") ∈ zW0 := q_in (List.mem_of_getElem? (i := 130) (by decide +kernel)) (by decide +kernel)
theorem q_148 : (Jvm.Cond.fieldLink "BakedBefore$Reade\x72" (11 : Nat) "BakedBefore$Reade\x72" "text" "[I") ∈ zW0 := q_in (List.mem_of_getElem? (i := 148) (by decide +kernel)) (by decide +kernel)
theorem q_149 : (Jvm.Cond.fieldLink "BakedBefore$Reade\x72" (15 : Nat) "BakedBefore$Reade\x72" "length" "I") ∈ zW0 := q_in (List.mem_of_getElem? (i := 149) (by decide +kernel)) (by decide +kernel)
theorem q_150 : (Jvm.Cond.fieldLink "BakedBefore" (279 : Nat) "BakedBefore$Reade\x72" "length" "I") ∈ zW0 := q_in (List.mem_of_getElem? (i := 150) (by decide +kernel)) (by decide +kernel)
theorem q_151 : (Jvm.Cond.fieldLink "BakedBefore$Reade\x72" (28 : Nat) "BakedBefore$Reade\x72" "at" "I") ∈ zW0 := q_in (List.mem_of_getElem? (i := 151) (by decide +kernel)) (by decide +kernel)
theorem q_152 : (Jvm.Cond.fieldLink "BakedBefore$Reade\x72" (58 : Nat) "BakedBefore$Reade\x72" "numbe\x72" "I") ∈ zW0 := q_in (List.mem_of_getElem? (i := 152) (by decide +kernel)) (by decide +kernel)
theorem q_153 : (Jvm.Cond.fieldLink "BakedBefore$Reade\x72" (19 : Nat) "BakedBefore$Reade\x72" "kiln" "LBakedBefore$Kiln;") ∈ zW0 := q_in (List.mem_of_getElem? (i := 153) (by decide +kernel)) (by decide +kernel)
theorem q_172 : (Jvm.Cond.fieldLink "BakedBefore$Kiln" (11 : Nat) "BakedBefore$Kiln" "words" "[I") ∈ zW0 := q_in (List.mem_of_getElem? (i := 172) (by decide +kernel)) (by decide +kernel)
theorem q_173 : (Jvm.Cond.fieldLink "BakedBefore$Kiln" (15 : Nat) "BakedBefore$Kiln" "numbers" "[I") ∈ zW0 := q_in (List.mem_of_getElem? (i := 173) (by decide +kernel)) (by decide +kernel)
theorem q_174 : (Jvm.Cond.fieldLink "BakedBefore$Kiln" (18 : Nat) "BakedBefore$Kiln" "ends" "[I") ∈ zW0 := q_in (List.mem_of_getElem? (i := 174) (by decide +kernel)) (by decide +kernel)
theorem q_175 : (Jvm.Cond.fieldLink "BakedBefore$Kiln" (23 : Nat) "BakedBefore$Kiln" "steps" "[I") ∈ zW0 := q_in (List.mem_of_getElem? (i := 175) (by decide +kernel)) (by decide +kernel)
theorem q_176 : (Jvm.Cond.fieldLink "BakedBefore$Kiln" (26 : Nat) "BakedBefore$Kiln" "letters" "[I") ∈ zW0 := q_in (List.mem_of_getElem? (i := 176) (by decide +kernel)) (by decide +kernel)
theorem q_177 : (Jvm.Cond.fieldLink "BakedBefore$Kiln" (33 : Nat) "BakedBefore$Kiln" "clauses" "I") ∈ zW0 := q_in (List.mem_of_getElem? (i := 177) (by decide +kernel)) (by decide +kernel)
theorem q_178 : (Jvm.Cond.fieldLink "BakedBefore$Kiln" (36 : Nat) "BakedBefore$Kiln" "stepCount" "I") ∈ zW0 := q_in (List.mem_of_getElem? (i := 178) (by decide +kernel)) (by decide +kernel)
theorem q_179 : (Jvm.Cond.fieldLink "BakedBefore$Bake\x72" (15 : Nat) "BakedBefore$Kiln" "takeClauses" "I") ∈ zW0 := q_in (List.mem_of_getElem? (i := 179) (by decide +kernel)) (by decide +kernel)
theorem q_180 : (Jvm.Cond.fieldLink "BakedBefore$Kiln" (39 : Nat) "BakedBefore$Kiln" "takeClauses" "I") ∈ zW0 := q_in (List.mem_of_getElem? (i := 180) (by decide +kernel)) (by decide +kernel)
theorem q_181 : (Jvm.Cond.fieldLink "BakedBefore$Kiln" (29 : Nat) "BakedBefore$Kiln" "coldPart" "I") ∈ zW0 := q_in (List.mem_of_getElem? (i := 181) (by decide +kernel)) (by decide +kernel)
theorem q_182 : (Jvm.Cond.fieldLink "BakedBefore$Bake\x72" (78 : Nat) "BakedBefore$Kiln" "coldPart" "I") ∈ zW0 := q_in (List.mem_of_getElem? (i := 182) (by decide +kernel)) (by decide +kernel)
theorem q_183 : (Jvm.Cond.fieldLink "BakedBefore" (164 : Nat) "BakedBefore$Kiln" "coldPart" "I") ∈ zW0 := q_in (List.mem_of_getElem? (i := 183) (by decide +kernel)) (by decide +kernel)
theorem q_209 : (Jvm.Cond.fieldLink "BakedBefore$Bake\x72" (9 : Nat) "BakedBefore$Bake\x72" "kiln" "LBakedBefore$Kiln;") ∈ zW0 := q_in (List.mem_of_getElem? (i := 209) (by decide +kernel)) (by decide +kernel)
theorem q_210 : (Jvm.Cond.fieldLink "BakedBefore" (161 : Nat) "BakedBefore$Bake\x72" "kiln" "LBakedBefore$Kiln;") ∈ zW0 := q_in (List.mem_of_getElem? (i := 210) (by decide +kernel)) (by decide +kernel)
theorem q_222 : (Jvm.Cond.fieldLink "BakedBefore$Aske\x72" (22 : Nat) "BakedBefore$Aske\x72" "now" "LBakedBefore$Stand;") ∈ zW0 := q_in (List.mem_of_getElem? (i := 222) (by decide +kernel)) (by decide +kernel)
theorem q_223 : (Jvm.Cond.fieldLink "BakedBefore$Aske\x72" (26 : Nat) "BakedBefore$Aske\x72" "bake\x72" "LBakedBefore$Baker;") ∈ zW0 := q_in (List.mem_of_getElem? (i := 223) (by decide +kernel)) (by decide +kernel)
theorem q_224 : (Jvm.Cond.fieldLink "BakedBefore$Aske\x72" (12 : Nat) "BakedBefore$Aske\x72" "trial" "LBakedBefore$Oven;") ∈ zW0 := q_in (List.mem_of_getElem? (i := 224) (by decide +kernel)) (by decide +kernel)
theorem q_225 : (Jvm.Cond.fieldLink "BakedBefore$Aske\x72" (18 : Nat) "BakedBefore$Aske\x72" "spoiledOf" "[I") ∈ zW0 := q_in (List.mem_of_getElem? (i := 225) (by decide +kernel)) (by decide +kernel)
theorem q_244 : (Jvm.Cond.fieldLink "BakedBefore$Search" (24 : Nat) "BakedBefore$Search" "now" "LBakedBefore$Stand;") ∈ zW0 := q_in (List.mem_of_getElem? (i := 244) (by decide +kernel)) (by decide +kernel)
theorem q_245 : (Jvm.Cond.fieldLink "BakedBefore$Search" (28 : Nat) "BakedBefore$Search" "bake\x72" "LBakedBefore$Baker;") ∈ zW0 := q_in (List.mem_of_getElem? (i := 245) (by decide +kernel)) (by decide +kernel)
theorem q_246 : (Jvm.Cond.fieldLink "BakedBefore$Search" (13 : Nat) "BakedBefore$Search" "ovens" "[LBakedBefore$Oven;") ∈ zW0 := q_in (List.mem_of_getElem? (i := 246) (by decide +kernel)) (by decide +kernel)
theorem q_247 : (Jvm.Cond.fieldLink "BakedBefore$Search" (17 : Nat) "BakedBefore$Search" "row" "[I") ∈ zW0 := q_in (List.mem_of_getElem? (i := 247) (by decide +kernel)) (by decide +kernel)
theorem q_248 : (Jvm.Cond.fieldLink "BakedBefore$Search" (21 : Nat) "BakedBefore$Search" "best" "[I") ∈ zW0 := q_in (List.mem_of_getElem? (i := 248) (by decide +kernel)) (by decide +kernel)
theorem q_249 : (Jvm.Cond.fieldLink "BakedBefore" (193 : Nat) "BakedBefore$Search" "best" "[I") ∈ zW0 := q_in (List.mem_of_getElem? (i := 249) (by decide +kernel)) (by decide +kernel)
theorem q_250 : (Jvm.Cond.fieldLink "BakedBefore$Search" (39 : Nat) "BakedBefore$Search" "length" "I") ∈ zW0 := q_in (List.mem_of_getElem? (i := 250) (by decide +kernel)) (by decide +kernel)
theorem q_251 : (Jvm.Cond.fieldLink "BakedBefore" (190 : Nat) "BakedBefore$Search" "length" "I") ∈ zW0 := q_in (List.mem_of_getElem? (i := 251) (by decide +kernel)) (by decide +kernel)
theorem q_252 : (Jvm.Cond.fieldLink "BakedBefore$Search" (43 : Nat) "BakedBefore$Search" "fewest" "I") ∈ zW0 := q_in (List.mem_of_getElem? (i := 252) (by decide +kernel)) (by decide +kernel)
theorem q_253 : (Jvm.Cond.fieldLink "BakedBefore" (187 : Nat) "BakedBefore$Search" "fewest" "I") ∈ zW0 := q_in (List.mem_of_getElem? (i := 253) (by decide +kernel)) (by decide +kernel)
theorem q_275 : (Jvm.Cond.fieldLink "BakedBefore$Acts" (11 : Nat) "BakedBefore$Acts" "bodies" "[I") ∈ zW0 := q_in (List.mem_of_getElem? (i := 275) (by decide +kernel)) (by decide +kernel)
theorem q_276 : (Jvm.Cond.fieldLink "BakedBefore" (273 : Nat) "BakedBefore$Acts" "bodies" "[I") ∈ zW0 := q_in (List.mem_of_getElem? (i := 276) (by decide +kernel)) (by decide +kernel)
theorem q_277 : (Jvm.Cond.fieldLink "BakedBefore$Acts" (15 : Nat) "BakedBefore$Acts" "ran" "I") ∈ zW0 := q_in (List.mem_of_getElem? (i := 277) (by decide +kernel)) (by decide +kernel)
theorem q_278 : (Jvm.Cond.fieldLink "BakedBefore" (267 : Nat) "BakedBefore$Acts" "ran" "I") ∈ zW0 := q_in (List.mem_of_getElem? (i := 278) (by decide +kernel)) (by decide +kernel)
theorem q_292 : (Jvm.Cond.fieldLink "BakedBefore$Tapes" (13 : Nat) "BakedBefore$Tapes" "rows" "[[J") ∈ zW0 := q_in (List.mem_of_getElem? (i := 292) (by decide +kernel)) (by decide +kernel)
theorem q_293 : (Jvm.Cond.fieldLink "BakedBefore$Tapes" (16 : Nat) "BakedBefore$Tapes" "sorts" "[I") ∈ zW0 := q_in (List.mem_of_getElem? (i := 293) (by decide +kernel)) (by decide +kernel)
theorem q_294 : (Jvm.Cond.fieldLink "BakedBefore$Tapes" (20 : Nat) "BakedBefore$Tapes" "lengths" "[I") ∈ zW0 := q_in (List.mem_of_getElem? (i := 294) (by decide +kernel)) (by decide +kernel)
theorem q_303 : (Jvm.Cond.fieldLink "BakedBefore" (12 : Nat) "BakedBefore" "now" "LBakedBefore$Stand;") ∈ zW0 := q_in (List.mem_of_getElem? (i := 303) (by decide +kernel)) (by decide +kernel)
theorem q_304 : (Jvm.Cond.fieldLink "BakedBefore" (18 : Nat) "BakedBefore" "kept" "LBakedBefore$Stand;") ∈ zW0 := q_in (List.mem_of_getElem? (i := 304) (by decide +kernel)) (by decide +kernel)
theorem q_305 : (Jvm.Cond.fieldLink "BakedBefore" (24 : Nat) "BakedBefore" "reade\x72" "LBakedBefore$Reader;") ∈ zW0 := q_in (List.mem_of_getElem? (i := 305) (by decide +kernel)) (by decide +kernel)
theorem q_306 : (Jvm.Cond.fieldLink "BakedBefore" (30 : Nat) "BakedBefore" "kilns" "[LBakedBefore$Kiln;") ∈ zW0 := q_in (List.mem_of_getElem? (i := 306) (by decide +kernel)) (by decide +kernel)
theorem q_307 : (Jvm.Cond.fieldLink "BakedBefore" (35 : Nat) "BakedBefore" "blank" "LBakedBefore$Kiln;") ∈ zW0 := q_in (List.mem_of_getElem? (i := 307) (by decide +kernel)) (by decide +kernel)
theorem q_308 : (Jvm.Cond.fieldLink "BakedBefore" (44 : Nat) "BakedBefore" "bake\x72" "LBakedBefore$Baker;") ∈ zW0 := q_in (List.mem_of_getElem? (i := 308) (by decide +kernel)) (by decide +kernel)
theorem q_309 : (Jvm.Cond.fieldLink "BakedBefore" (53 : Nat) "BakedBefore" "aske\x72" "LBakedBefore$Asker;") ∈ zW0 := q_in (List.mem_of_getElem? (i := 309) (by decide +kernel)) (by decide +kernel)
theorem q_310 : (Jvm.Cond.fieldLink "BakedBefore" (60 : Nat) "BakedBefore" "search" "LBakedBefore$Search;") ∈ zW0 := q_in (List.mem_of_getElem? (i := 310) (by decide +kernel)) (by decide +kernel)
theorem q_311 : (Jvm.Cond.fieldLink "BakedBefore" (67 : Nat) "BakedBefore" "acts" "LBakedBefore$Acts;") ∈ zW0 := q_in (List.mem_of_getElem? (i := 311) (by decide +kernel)) (by decide +kernel)
theorem q_312 : (Jvm.Cond.fieldLink "BakedBefore" (74 : Nat) "BakedBefore" "tapes" "LBakedBefore$Tapes;") ∈ zW0 := q_in (List.mem_of_getElem? (i := 312) (by decide +kernel)) (by decide +kernel)
theorem q_313 : (Jvm.Cond.fieldLink "BakedBefore" (151 : Nat) "BakedBefore" "kilnCount" "I") ∈ zW0 := q_in (List.mem_of_getElem? (i := 313) (by decide +kernel)) (by decide +kernel)
theorem q_314 : (Jvm.Cond.fieldLink "BakedBefore" (263 : Nat) "BakedBefore" "imaged" "Z") ∈ zW0 := q_in (List.mem_of_getElem? (i := 314) (by decide +kernel)) (by decide +kernel)
theorem q_341 : (Jvm.Cond.instanceMethod ({ cls := "BakedBefore", name := "loaf", desc := "(II)I" } : Jvm.MethodName)) ∈ zW0 := q_in (List.mem_of_getElem? (i := 341) (by decide +kernel)) (by decide +kernel)
theorem q_342 : (Jvm.Cond.selects "BakedBefore" ({ cls := "BakedBefore", name := "loaf", desc := "(II)I" } : Jvm.MethodName) ({ cls := "BakedBefore", name := "loaf", desc := "(II)I" } : Jvm.MethodName)) ∈ zW0 := q_in (List.mem_of_getElem? (i := 342) (by decide +kernel)) (by decide +kernel)
theorem q_343 : (Jvm.Cond.code ({ cls := "BakedBefore", name := "loaf", desc := "(II)I" } : Jvm.MethodName) prog_1_method_2_code (3 : Nat) (Option.some Jvm.ClassFile.FieldType.int)) ∈ zW0 := q_in (List.mem_of_getElem? (i := 343) (by decide +kernel)) (by decide +kernel)
theorem q_344 : (Jvm.Cond.methodLink "BakedBefore" (86 : Nat) ({ cls := "BakedBefore$Loaf", name := "begin", desc := "(II)V" } : Jvm.MethodName)) ∈ zW0 := q_in (List.mem_of_getElem? (i := 344) (by decide +kernel)) (by decide +kernel)
theorem q_345 : (Jvm.Cond.instanceMethod ({ cls := "BakedBefore$Loaf", name := "begin", desc := "(II)V" } : Jvm.MethodName)) ∈ zW0 := q_in (List.mem_of_getElem? (i := 345) (by decide +kernel)) (by decide +kernel)
theorem q_346 : (Jvm.Cond.selects "BakedBefore$Loaf" ({ cls := "BakedBefore$Loaf", name := "begin", desc := "(II)V" } : Jvm.MethodName) ({ cls := "BakedBefore$Loaf", name := "begin", desc := "(II)V" } : Jvm.MethodName)) ∈ zW0 := q_in (List.mem_of_getElem? (i := 346) (by decide +kernel)) (by decide +kernel)
theorem q_347 : (Jvm.Cond.code ({ cls := "BakedBefore$Loaf", name := "begin", desc := "(II)V" } : Jvm.MethodName) prog_7_method_2_code (4 : Nat) (Option.none : Option Jvm.ClassFile.FieldType)) ∈ zW0 := q_in (List.mem_of_getElem? (i := 347) (by decide +kernel)) (by decide +kernel)
theorem q_349 : (Jvm.Cond.instanceMethod ({ cls := "BakedBefore", name := "set", desc := "(IIII)I" } : Jvm.MethodName)) ∈ zW0 := q_in (List.mem_of_getElem? (i := 349) (by decide +kernel)) (by decide +kernel)
theorem q_350 : (Jvm.Cond.selects "BakedBefore" ({ cls := "BakedBefore", name := "set", desc := "(IIII)I" } : Jvm.MethodName) ({ cls := "BakedBefore", name := "set", desc := "(IIII)I" } : Jvm.MethodName)) ∈ zW0 := q_in (List.mem_of_getElem? (i := 350) (by decide +kernel)) (by decide +kernel)
theorem q_351 : (Jvm.Cond.code ({ cls := "BakedBefore", name := "set", desc := "(IIII)I" } : Jvm.MethodName) prog_1_method_3_code (7 : Nat) (Option.some Jvm.ClassFile.FieldType.int)) ∈ zW0 := q_in (List.mem_of_getElem? (i := 351) (by decide +kernel)) (by decide +kernel)
theorem q_352 : (Jvm.Cond.methodLink "BakedBefore" (92 : Nat) ({ cls := "BakedBefore", name := "isLoaf", desc := "(I)Z" } : Jvm.MethodName)) ∈ zW0 := q_in (List.mem_of_getElem? (i := 352) (by decide +kernel)) (by decide +kernel)
theorem q_354 : (Jvm.Cond.instanceMethod ({ cls := "BakedBefore", name := "isLoaf", desc := "(I)Z" } : Jvm.MethodName)) ∈ zW0 := q_in (List.mem_of_getElem? (i := 354) (by decide +kernel)) (by decide +kernel)
theorem q_355 : (Jvm.Cond.code ({ cls := "BakedBefore", name := "isLoaf", desc := "(I)Z" } : Jvm.MethodName) prog_1_method_37_code (2 : Nat) (Option.some Jvm.ClassFile.FieldType.boolean)) ∈ zW0 := q_in (List.mem_of_getElem? (i := 355) (by decide +kernel)) (by decide +kernel)
theorem q_356 : (Jvm.Cond.methodLink "BakedBefore" (96 : Nat) ({ cls := "BakedBefore", name := "isTaste", desc := "(I)Z" } : Jvm.MethodName)) ∈ zW0 := q_in (List.mem_of_getElem? (i := 356) (by decide +kernel)) (by decide +kernel)
theorem q_357 : (Jvm.Cond.static ({ cls := "BakedBefore", name := "isTaste", desc := "(I)Z" } : Jvm.MethodName)) ∈ zW0 := q_in (List.mem_of_getElem? (i := 357) (by decide +kernel)) (by decide +kernel)
theorem q_358 : (Jvm.Cond.code ({ cls := "BakedBefore", name := "isTaste", desc := "(I)Z" } : Jvm.MethodName) prog_1_method_39_code (1 : Nat) (Option.some Jvm.ClassFile.FieldType.boolean)) ∈ zW0 := q_in (List.mem_of_getElem? (i := 358) (by decide +kernel)) (by decide +kernel)
theorem q_360 : (Jvm.Cond.instanceMethod ({ cls := "BakedBefore", name := "of", desc := "(II)I" } : Jvm.MethodName)) ∈ zW0 := q_in (List.mem_of_getElem? (i := 360) (by decide +kernel)) (by decide +kernel)
theorem q_361 : (Jvm.Cond.selects "BakedBefore" ({ cls := "BakedBefore", name := "of", desc := "(II)I" } : Jvm.MethodName) ({ cls := "BakedBefore", name := "of", desc := "(II)I" } : Jvm.MethodName)) ∈ zW0 := q_in (List.mem_of_getElem? (i := 361) (by decide +kernel)) (by decide +kernel)
theorem q_362 : (Jvm.Cond.code ({ cls := "BakedBefore", name := "of", desc := "(II)I" } : Jvm.MethodName) prog_1_method_4_code (4 : Nat) (Option.some Jvm.ClassFile.FieldType.int)) ∈ zW0 := q_in (List.mem_of_getElem? (i := 362) (by decide +kernel)) (by decide +kernel)
theorem q_363 : (Jvm.Cond.methodLink "BakedBefore" (121 : Nat) ({ cls := "BakedBefore$Bake\x72", name := "feeOf", desc := "(LBakedBefore$Loaf;I)I" } : Jvm.MethodName)) ∈ zW0 := q_in (List.mem_of_getElem? (i := 363) (by decide +kernel)) (by decide +kernel)
theorem q_364 : (Jvm.Cond.instanceMethod ({ cls := "BakedBefore$Bake\x72", name := "feeOf", desc := "(LBakedBefore$Loaf;I)I" } : Jvm.MethodName)) ∈ zW0 := q_in (List.mem_of_getElem? (i := 364) (by decide +kernel)) (by decide +kernel)
theorem q_365 : (Jvm.Cond.selects "BakedBefore$Bake\x72" ({ cls := "BakedBefore$Bake\x72", name := "feeOf", desc := "(LBakedBefore$Loaf;I)I" } : Jvm.MethodName) ({ cls := "BakedBefore$Bake\x72", name := "feeOf", desc := "(LBakedBefore$Loaf;I)I" } : Jvm.MethodName)) ∈ zW0 := q_in (List.mem_of_getElem? (i := 365) (by decide +kernel)) (by decide +kernel)
theorem q_366 : (Jvm.Cond.code ({ cls := "BakedBefore$Bake\x72", name := "feeOf", desc := "(LBakedBefore$Loaf;I)I" } : Jvm.MethodName) prog_4_method_10_code (3 : Nat) (Option.some Jvm.ClassFile.FieldType.int)) ∈ zW0 := q_in (List.mem_of_getElem? (i := 366) (by decide +kernel)) (by decide +kernel)
theorem q_367 : (Jvm.Cond.methodLink "BakedBefore$Bake\x72" (21 : Nat) ({ cls := "BakedBefore$Kiln", name := "lookAt", desc := "(LBakedBefore$Loaf;III)V" } : Jvm.MethodName)) ∈ zW0 := q_in (List.mem_of_getElem? (i := 367) (by decide +kernel)) (by decide +kernel)
theorem q_368 : (Jvm.Cond.instanceMethod ({ cls := "BakedBefore$Kiln", name := "lookAt", desc := "(LBakedBefore$Loaf;III)V" } : Jvm.MethodName)) ∈ zW0 := q_in (List.mem_of_getElem? (i := 368) (by decide +kernel)) (by decide +kernel)
theorem q_369 : (Jvm.Cond.selects "BakedBefore$Kiln" ({ cls := "BakedBefore$Kiln", name := "lookAt", desc := "(LBakedBefore$Loaf;III)V" } : Jvm.MethodName) ({ cls := "BakedBefore$Kiln", name := "lookAt", desc := "(LBakedBefore$Loaf;III)V" } : Jvm.MethodName)) ∈ zW0 := q_in (List.mem_of_getElem? (i := 369) (by decide +kernel)) (by decide +kernel)
theorem q_370 : (Jvm.Cond.code ({ cls := "BakedBefore$Kiln", name := "lookAt", desc := "(LBakedBefore$Loaf;III)V" } : Jvm.MethodName) prog_6_method_5_code (5 : Nat) (Option.none : Option Jvm.ClassFile.FieldType)) ∈ zW0 := q_in (List.mem_of_getElem? (i := 370) (by decide +kernel)) (by decide +kernel)
theorem q_371 : (Jvm.Cond.methodLink "BakedBefore$Bake\x72" (25 : Nat) ({ cls := "BakedBefore$Kiln", name := "sum", desc := "(I)I" } : Jvm.MethodName)) ∈ zW0 := q_in (List.mem_of_getElem? (i := 371) (by decide +kernel)) (by decide +kernel)
theorem q_372 : (Jvm.Cond.instanceMethod ({ cls := "BakedBefore$Kiln", name := "sum", desc := "(I)I" } : Jvm.MethodName)) ∈ zW0 := q_in (List.mem_of_getElem? (i := 372) (by decide +kernel)) (by decide +kernel)
theorem q_373 : (Jvm.Cond.selects "BakedBefore$Kiln" ({ cls := "BakedBefore$Kiln", name := "sum", desc := "(I)I" } : Jvm.MethodName) ({ cls := "BakedBefore$Kiln", name := "sum", desc := "(I)I" } : Jvm.MethodName)) ∈ zW0 := q_in (List.mem_of_getElem? (i := 373) (by decide +kernel)) (by decide +kernel)
theorem q_374 : (Jvm.Cond.code ({ cls := "BakedBefore$Kiln", name := "sum", desc := "(I)I" } : Jvm.MethodName) prog_6_method_6_code (5 : Nat) (Option.some Jvm.ClassFile.FieldType.int)) ∈ zW0 := q_in (List.mem_of_getElem? (i := 374) (by decide +kernel)) (by decide +kernel)
theorem q_375 : (Jvm.Cond.methodLink "BakedBefore$Kiln" (53 : Nat) ({ cls := "BakedBefore$Kiln", name := "holds", desc := "(II)Z" } : Jvm.MethodName)) ∈ zW0 := q_in (List.mem_of_getElem? (i := 375) (by decide +kernel)) (by decide +kernel)
theorem q_377 : (Jvm.Cond.instanceMethod ({ cls := "BakedBefore$Kiln", name := "holds", desc := "(II)Z" } : Jvm.MethodName)) ∈ zW0 := q_in (List.mem_of_getElem? (i := 377) (by decide +kernel)) (by decide +kernel)
theorem q_378 : (Jvm.Cond.code ({ cls := "BakedBefore$Kiln", name := "holds", desc := "(II)Z" } : Jvm.MethodName) prog_6_method_7_code (13 : Nat) (Option.some Jvm.ClassFile.FieldType.boolean)) ∈ zW0 := q_in (List.mem_of_getElem? (i := 378) (by decide +kernel)) (by decide +kernel)
theorem q_379 : (Jvm.Cond.constantLong "BakedBefore$Kiln" (57 : Nat) (-2 : Int64)) ∈ zW0 := q_in (List.mem_of_getElem? (i := 379) (by decide +kernel)) (by decide +kernel)
theorem q_380 : (Jvm.Cond.methodLink "BakedBefore" (125 : Nat) ({ cls := "BakedBefore$Bake\x72", name := "spoils", desc := "(LBakedBefore$Loaf;LBakedBefore$Oven;)Z" } : Jvm.MethodName)) ∈ zW0 := q_in (List.mem_of_getElem? (i := 380) (by decide +kernel)) (by decide +kernel)
theorem q_381 : (Jvm.Cond.instanceMethod ({ cls := "BakedBefore$Bake\x72", name := "spoils", desc := "(LBakedBefore$Loaf;LBakedBefore$Oven;)Z" } : Jvm.MethodName)) ∈ zW0 := q_in (List.mem_of_getElem? (i := 381) (by decide +kernel)) (by decide +kernel)
theorem q_382 : (Jvm.Cond.selects "BakedBefore$Bake\x72" ({ cls := "BakedBefore$Bake\x72", name := "spoils", desc := "(LBakedBefore$Loaf;LBakedBefore$Oven;)Z" } : Jvm.MethodName) ({ cls := "BakedBefore$Bake\x72", name := "spoils", desc := "(LBakedBefore$Loaf;LBakedBefore$Oven;)Z" } : Jvm.MethodName)) ∈ zW0 := q_in (List.mem_of_getElem? (i := 382) (by decide +kernel)) (by decide +kernel)
theorem q_383 : (Jvm.Cond.code ({ cls := "BakedBefore$Bake\x72", name := "spoils", desc := "(LBakedBefore$Loaf;LBakedBefore$Oven;)Z" } : Jvm.MethodName) prog_4_method_7_code (4 : Nat) (Option.some Jvm.ClassFile.FieldType.boolean)) ∈ zW0 := q_in (List.mem_of_getElem? (i := 383) (by decide +kernel)) (by decide +kernel)
theorem q_384 : (Jvm.Cond.methodLink "BakedBefore$Bake\x72" (65 : Nat) ({ cls := "BakedBefore$Bake\x72", name := "takes", desc := "(LBakedBefore$Loaf;ILBakedBefore$Oven;)I" } : Jvm.MethodName)) ∈ zW0 := q_in (List.mem_of_getElem? (i := 384) (by decide +kernel)) (by decide +kernel)
theorem q_385 : (Jvm.Cond.instanceMethod ({ cls := "BakedBefore$Bake\x72", name := "takes", desc := "(LBakedBefore$Loaf;ILBakedBefore$Oven;)I" } : Jvm.MethodName)) ∈ zW0 := q_in (List.mem_of_getElem? (i := 385) (by decide +kernel)) (by decide +kernel)
theorem q_386 : (Jvm.Cond.selects "BakedBefore$Bake\x72" ({ cls := "BakedBefore$Bake\x72", name := "takes", desc := "(LBakedBefore$Loaf;ILBakedBefore$Oven;)I" } : Jvm.MethodName) ({ cls := "BakedBefore$Bake\x72", name := "takes", desc := "(LBakedBefore$Loaf;ILBakedBefore$Oven;)I" } : Jvm.MethodName)) ∈ zW0 := q_in (List.mem_of_getElem? (i := 386) (by decide +kernel)) (by decide +kernel)
theorem q_387 : (Jvm.Cond.code ({ cls := "BakedBefore$Bake\x72", name := "takes", desc := "(LBakedBefore$Loaf;ILBakedBefore$Oven;)I" } : Jvm.MethodName) prog_4_method_4_code (5 : Nat) (Option.some Jvm.ClassFile.FieldType.int)) ∈ zW0 := q_in (List.mem_of_getElem? (i := 387) (by decide +kernel)) (by decide +kernel)
theorem q_388 : (Jvm.Cond.methodLink "BakedBefore$Bake\x72" (58 : Nat) ({ cls := "BakedBefore$Bake\x72", name := "partOf", desc := "(LBakedBefore$Loaf;III)I" } : Jvm.MethodName)) ∈ zW0 := q_in (List.mem_of_getElem? (i := 388) (by decide +kernel)) (by decide +kernel)
theorem q_389 : (Jvm.Cond.instanceMethod ({ cls := "BakedBefore$Bake\x72", name := "partOf", desc := "(LBakedBefore$Loaf;III)I" } : Jvm.MethodName)) ∈ zW0 := q_in (List.mem_of_getElem? (i := 389) (by decide +kernel)) (by decide +kernel)
theorem q_390 : (Jvm.Cond.selects "BakedBefore$Bake\x72" ({ cls := "BakedBefore$Bake\x72", name := "partOf", desc := "(LBakedBefore$Loaf;III)I" } : Jvm.MethodName) ({ cls := "BakedBefore$Bake\x72", name := "partOf", desc := "(LBakedBefore$Loaf;III)I" } : Jvm.MethodName)) ∈ zW0 := q_in (List.mem_of_getElem? (i := 390) (by decide +kernel)) (by decide +kernel)
theorem q_391 : (Jvm.Cond.code ({ cls := "BakedBefore$Bake\x72", name := "partOf", desc := "(LBakedBefore$Loaf;III)I" } : Jvm.MethodName) prog_4_method_2_code (5 : Nat) (Option.some Jvm.ClassFile.FieldType.int)) ∈ zW0 := q_in (List.mem_of_getElem? (i := 391) (by decide +kernel)) (by decide +kernel)
theorem q_392 : (Jvm.Cond.methodLink "BakedBefore$Bake\x72" (62 : Nat) ({ cls := "BakedBefore$Bake\x72", name := "amount", desc := "(LBakedBefore$Loaf;III)I" } : Jvm.MethodName)) ∈ zW0 := q_in (List.mem_of_getElem? (i := 392) (by decide +kernel)) (by decide +kernel)
theorem q_393 : (Jvm.Cond.static ({ cls := "BakedBefore$Bake\x72", name := "amount", desc := "(LBakedBefore$Loaf;III)I" } : Jvm.MethodName)) ∈ zW0 := q_in (List.mem_of_getElem? (i := 393) (by decide +kernel)) (by decide +kernel)
theorem q_394 : (Jvm.Cond.code ({ cls := "BakedBefore$Bake\x72", name := "amount", desc := "(LBakedBefore$Loaf;III)I" } : Jvm.MethodName) prog_4_method_3_code (6 : Nat) (Option.some Jvm.ClassFile.FieldType.int)) ∈ zW0 := q_in (List.mem_of_getElem? (i := 394) (by decide +kernel)) (by decide +kernel)
theorem q_395 : (Jvm.Cond.methodLink "BakedBefore$Bake\x72" (38 : Nat) ({ cls := "java/lang/Math", name := "min", desc := "(II)I" } : Jvm.MethodName)) ∈ zW0 := q_in (List.mem_of_getElem? (i := 395) (by decide +kernel)) (by decide +kernel)
theorem q_396 : (Jvm.Cond.static ({ cls := "java/lang/Math", name := "min", desc := "(II)I" } : Jvm.MethodName)) ∈ zW0 := q_in (List.mem_of_getElem? (i := 396) (by decide +kernel)) (by decide +kernel)
theorem q_397 : (Jvm.Cond.code ({ cls := "java/lang/Math", name := "min", desc := "(II)I" } : Jvm.MethodName) prog_16_method_69_code (2 : Nat) (Option.some Jvm.ClassFile.FieldType.int)) ∈ zW0 := q_in (List.mem_of_getElem? (i := 397) (by decide +kernel)) (by decide +kernel)
theorem q_398 : (Jvm.Cond.methodLink "BakedBefore$Bake\x72" (47 : Nat) ({ cls := "java/lang/Math", name := "max", desc := "(II)I" } : Jvm.MethodName)) ∈ zW0 := q_in (List.mem_of_getElem? (i := 398) (by decide +kernel)) (by decide +kernel)
theorem q_399 : (Jvm.Cond.static ({ cls := "java/lang/Math", name := "max", desc := "(II)I" } : Jvm.MethodName)) ∈ zW0 := q_in (List.mem_of_getElem? (i := 399) (by decide +kernel)) (by decide +kernel)
theorem q_400 : (Jvm.Cond.code ({ cls := "java/lang/Math", name := "max", desc := "(II)I" } : Jvm.MethodName) prog_16_method_65_code (2 : Nat) (Option.some Jvm.ClassFile.FieldType.int)) ∈ zW0 := q_in (List.mem_of_getElem? (i := 400) (by decide +kernel)) (by decide +kernel)
theorem q_401 : (Jvm.Cond.methodLink "BakedBefore" (129 : Nat) ({ cls := "BakedBefore", name := "flag", desc := "(Z)I" } : Jvm.MethodName)) ∈ zW0 := q_in (List.mem_of_getElem? (i := 401) (by decide +kernel)) (by decide +kernel)
theorem q_402 : (Jvm.Cond.static ({ cls := "BakedBefore", name := "flag", desc := "(Z)I" } : Jvm.MethodName)) ∈ zW0 := q_in (List.mem_of_getElem? (i := 402) (by decide +kernel)) (by decide +kernel)
theorem q_403 : (Jvm.Cond.code ({ cls := "BakedBefore", name := "flag", desc := "(Z)I" } : Jvm.MethodName) prog_1_method_40_code (1 : Nat) (Option.some Jvm.ClassFile.FieldType.int)) ∈ zW0 := q_in (List.mem_of_getElem? (i := 403) (by decide +kernel)) (by decide +kernel)
theorem q_404 : (Jvm.Cond.methodLink "BakedBefore" (133 : Nat) ({ cls := "BakedBefore", name := "ofTaste", desc := "(LBakedBefore$Loaf;II)I" } : Jvm.MethodName)) ∈ zW0 := q_in (List.mem_of_getElem? (i := 404) (by decide +kernel)) (by decide +kernel)
theorem q_406 : (Jvm.Cond.instanceMethod ({ cls := "BakedBefore", name := "ofTaste", desc := "(LBakedBefore$Loaf;II)I" } : Jvm.MethodName)) ∈ zW0 := q_in (List.mem_of_getElem? (i := 406) (by decide +kernel)) (by decide +kernel)
theorem q_407 : (Jvm.Cond.code ({ cls := "BakedBefore", name := "ofTaste", desc := "(LBakedBefore$Loaf;II)I" } : Jvm.MethodName) prog_1_method_5_code (4 : Nat) (Option.some Jvm.ClassFile.FieldType.int)) ∈ zW0 := q_in (List.mem_of_getElem? (i := 407) (by decide +kernel)) (by decide +kernel)
theorem q_408 : (Jvm.Cond.methodLink "BakedBefore" (137 : Nat) ({ cls := "BakedBefore$Bake\x72", name := "takes", desc := "(LBakedBefore$Loaf;ILBakedBefore$Oven;)I" } : Jvm.MethodName)) ∈ zW0 := q_in (List.mem_of_getElem? (i := 408) (by decide +kernel)) (by decide +kernel)
theorem q_409 : (Jvm.Cond.methodLink "BakedBefore" (141 : Nat) ({ cls := "BakedBefore$Bake\x72", name := "leaves", desc := "(LBakedBefore$Loaf;ILBakedBefore$Oven;)I" } : Jvm.MethodName)) ∈ zW0 := q_in (List.mem_of_getElem? (i := 409) (by decide +kernel)) (by decide +kernel)
theorem q_410 : (Jvm.Cond.instanceMethod ({ cls := "BakedBefore$Bake\x72", name := "leaves", desc := "(LBakedBefore$Loaf;ILBakedBefore$Oven;)I" } : Jvm.MethodName)) ∈ zW0 := q_in (List.mem_of_getElem? (i := 410) (by decide +kernel)) (by decide +kernel)
theorem q_411 : (Jvm.Cond.selects "BakedBefore$Bake\x72" ({ cls := "BakedBefore$Bake\x72", name := "leaves", desc := "(LBakedBefore$Loaf;ILBakedBefore$Oven;)I" } : Jvm.MethodName) ({ cls := "BakedBefore$Bake\x72", name := "leaves", desc := "(LBakedBefore$Loaf;ILBakedBefore$Oven;)I" } : Jvm.MethodName)) ∈ zW0 := q_in (List.mem_of_getElem? (i := 411) (by decide +kernel)) (by decide +kernel)
theorem q_412 : (Jvm.Cond.code ({ cls := "BakedBefore$Bake\x72", name := "leaves", desc := "(LBakedBefore$Loaf;ILBakedBefore$Oven;)I" } : Jvm.MethodName) prog_4_method_6_code (5 : Nat) (Option.some Jvm.ClassFile.FieldType.int)) ∈ zW0 := q_in (List.mem_of_getElem? (i := 412) (by decide +kernel)) (by decide +kernel)
theorem q_414 : (Jvm.Cond.instanceMethod ({ cls := "BakedBefore", name := "oven", desc := "(II)I" } : Jvm.MethodName)) ∈ zW0 := q_in (List.mem_of_getElem? (i := 414) (by decide +kernel)) (by decide +kernel)
theorem q_415 : (Jvm.Cond.selects "BakedBefore" ({ cls := "BakedBefore", name := "oven", desc := "(II)I" } : Jvm.MethodName) ({ cls := "BakedBefore", name := "oven", desc := "(II)I" } : Jvm.MethodName)) ∈ zW0 := q_in (List.mem_of_getElem? (i := 415) (by decide +kernel)) (by decide +kernel)
theorem q_416 : (Jvm.Cond.code ({ cls := "BakedBefore", name := "oven", desc := "(II)I" } : Jvm.MethodName) prog_1_method_6_code (4 : Nat) (Option.some Jvm.ClassFile.FieldType.int)) ∈ zW0 := q_in (List.mem_of_getElem? (i := 416) (by decide +kernel)) (by decide +kernel)
theorem q_418 : (Jvm.Cond.instanceMethod ({ cls := "BakedBefore", name := "feed", desc := "(I)I" } : Jvm.MethodName)) ∈ zW0 := q_in (List.mem_of_getElem? (i := 418) (by decide +kernel)) (by decide +kernel)
theorem q_419 : (Jvm.Cond.selects "BakedBefore" ({ cls := "BakedBefore", name := "feed", desc := "(I)I" } : Jvm.MethodName) ({ cls := "BakedBefore", name := "feed", desc := "(I)I" } : Jvm.MethodName)) ∈ zW0 := q_in (List.mem_of_getElem? (i := 419) (by decide +kernel)) (by decide +kernel)
theorem q_420 : (Jvm.Cond.code ({ cls := "BakedBefore", name := "feed", desc := "(I)I" } : Jvm.MethodName) prog_1_method_7_code (2 : Nat) (Option.some Jvm.ClassFile.FieldType.int)) ∈ zW0 := q_in (List.mem_of_getElem? (i := 420) (by decide +kernel)) (by decide +kernel)
theorem q_421 : (Jvm.Cond.methodLink "BakedBefore" (147 : Nat) ({ cls := "BakedBefore$Reade\x72", name := "append", desc := "(I)I" } : Jvm.MethodName)) ∈ zW0 := q_in (List.mem_of_getElem? (i := 421) (by decide +kernel)) (by decide +kernel)
theorem q_422 : (Jvm.Cond.instanceMethod ({ cls := "BakedBefore$Reade\x72", name := "append", desc := "(I)I" } : Jvm.MethodName)) ∈ zW0 := q_in (List.mem_of_getElem? (i := 422) (by decide +kernel)) (by decide +kernel)
theorem q_423 : (Jvm.Cond.selects "BakedBefore$Reade\x72" ({ cls := "BakedBefore$Reade\x72", name := "append", desc := "(I)I" } : Jvm.MethodName) ({ cls := "BakedBefore$Reade\x72", name := "append", desc := "(I)I" } : Jvm.MethodName)) ∈ zW0 := q_in (List.mem_of_getElem? (i := 423) (by decide +kernel)) (by decide +kernel)
theorem q_424 : (Jvm.Cond.code ({ cls := "BakedBefore$Reade\x72", name := "append", desc := "(I)I" } : Jvm.MethodName) prog_9_method_2_code (2 : Nat) (Option.some Jvm.ClassFile.FieldType.int)) ∈ zW0 := q_in (List.mem_of_getElem? (i := 424) (by decide +kernel)) (by decide +kernel)
theorem q_426 : (Jvm.Cond.instanceMethod ({ cls := "BakedBefore", name := "kiln", desc := "()I" } : Jvm.MethodName)) ∈ zW0 := q_in (List.mem_of_getElem? (i := 426) (by decide +kernel)) (by decide +kernel)
theorem q_427 : (Jvm.Cond.selects "BakedBefore" ({ cls := "BakedBefore", name := "kiln", desc := "()I" } : Jvm.MethodName) ({ cls := "BakedBefore", name := "kiln", desc := "()I" } : Jvm.MethodName)) ∈ zW0 := q_in (List.mem_of_getElem? (i := 427) (by decide +kernel)) (by decide +kernel)
theorem q_428 : (Jvm.Cond.code ({ cls := "BakedBefore", name := "kiln", desc := "()I" } : Jvm.MethodName) prog_1_method_8_code (2 : Nat) (Option.some Jvm.ClassFile.FieldType.int)) ∈ zW0 := q_in (List.mem_of_getElem? (i := 428) (by decide +kernel)) (by decide +kernel)
theorem q_429 : (Jvm.Cond.methodLink "BakedBefore" (154 : Nat) ({ cls := "BakedBefore$Reade\x72", name := "readInto", desc := "(LBakedBefore$Kiln;)I" } : Jvm.MethodName)) ∈ zW0 := q_in (List.mem_of_getElem? (i := 429) (by decide +kernel)) (by decide +kernel)
theorem q_430 : (Jvm.Cond.instanceMethod ({ cls := "BakedBefore$Reade\x72", name := "readInto", desc := "(LBakedBefore$Kiln;)I" } : Jvm.MethodName)) ∈ zW0 := q_in (List.mem_of_getElem? (i := 430) (by decide +kernel)) (by decide +kernel)
theorem q_431 : (Jvm.Cond.selects "BakedBefore$Reade\x72" ({ cls := "BakedBefore$Reade\x72", name := "readInto", desc := "(LBakedBefore$Kiln;)I" } : Jvm.MethodName) ({ cls := "BakedBefore$Reade\x72", name := "readInto", desc := "(LBakedBefore$Kiln;)I" } : Jvm.MethodName)) ∈ zW0 := q_in (List.mem_of_getElem? (i := 431) (by decide +kernel)) (by decide +kernel)
theorem q_432 : (Jvm.Cond.code ({ cls := "BakedBefore$Reade\x72", name := "readInto", desc := "(LBakedBefore$Kiln;)I" } : Jvm.MethodName) prog_9_method_3_code (4 : Nat) (Option.some Jvm.ClassFile.FieldType.int)) ∈ zW0 := q_in (List.mem_of_getElem? (i := 432) (by decide +kernel)) (by decide +kernel)
theorem q_433 : (Jvm.Cond.methodLink "BakedBefore$Reade\x72" (23 : Nat) ({ cls := "BakedBefore$Kiln", name := "empty", desc := "()V" } : Jvm.MethodName)) ∈ zW0 := q_in (List.mem_of_getElem? (i := 433) (by decide +kernel)) (by decide +kernel)
theorem q_434 : (Jvm.Cond.instanceMethod ({ cls := "BakedBefore$Kiln", name := "empty", desc := "()V" } : Jvm.MethodName)) ∈ zW0 := q_in (List.mem_of_getElem? (i := 434) (by decide +kernel)) (by decide +kernel)
theorem q_435 : (Jvm.Cond.selects "BakedBefore$Kiln" ({ cls := "BakedBefore$Kiln", name := "empty", desc := "()V" } : Jvm.MethodName) ({ cls := "BakedBefore$Kiln", name := "empty", desc := "()V" } : Jvm.MethodName)) ∈ zW0 := q_in (List.mem_of_getElem? (i := 435) (by decide +kernel)) (by decide +kernel)
theorem q_436 : (Jvm.Cond.code ({ cls := "BakedBefore$Kiln", name := "empty", desc := "()V" } : Jvm.MethodName) prog_6_method_2_code (1 : Nat) (Option.none : Option Jvm.ClassFile.FieldType)) ∈ zW0 := q_in (List.mem_of_getElem? (i := 436) (by decide +kernel)) (by decide +kernel)
theorem q_437 : (Jvm.Cond.methodLink "BakedBefore$Reade\x72" (31 : Nat) ({ cls := "BakedBefore$Reade\x72", name := "readClause", desc := "()Z" } : Jvm.MethodName)) ∈ zW0 := q_in (List.mem_of_getElem? (i := 437) (by decide +kernel)) (by decide +kernel)
theorem q_439 : (Jvm.Cond.instanceMethod ({ cls := "BakedBefore$Reade\x72", name := "readClause", desc := "()Z" } : Jvm.MethodName)) ∈ zW0 := q_in (List.mem_of_getElem? (i := 439) (by decide +kernel)) (by decide +kernel)
theorem q_440 : (Jvm.Cond.code ({ cls := "BakedBefore$Reade\x72", name := "readClause", desc := "()Z" } : Jvm.MethodName) prog_9_method_4_code (2 : Nat) (Option.some Jvm.ClassFile.FieldType.boolean)) ∈ zW0 := q_in (List.mem_of_getElem? (i := 440) (by decide +kernel)) (by decide +kernel)
theorem q_441 : (Jvm.Cond.methodLink "BakedBefore$Reade\x72" (39 : Nat) ({ cls := "BakedBefore$Reade\x72", name := "here", desc := "()I" } : Jvm.MethodName)) ∈ zW0 := q_in (List.mem_of_getElem? (i := 441) (by decide +kernel)) (by decide +kernel)
theorem q_443 : (Jvm.Cond.instanceMethod ({ cls := "BakedBefore$Reade\x72", name := "here", desc := "()I" } : Jvm.MethodName)) ∈ zW0 := q_in (List.mem_of_getElem? (i := 443) (by decide +kernel)) (by decide +kernel)
theorem q_444 : (Jvm.Cond.code ({ cls := "BakedBefore$Reade\x72", name := "here", desc := "()I" } : Jvm.MethodName) prog_9_method_11_code (1 : Nat) (Option.some Jvm.ClassFile.FieldType.int)) ∈ zW0 := q_in (List.mem_of_getElem? (i := 444) (by decide +kernel)) (by decide +kernel)
theorem q_445 : (Jvm.Cond.methodLink "BakedBefore$Reade\x72" (43 : Nat) ({ cls := "BakedBefore$Reade\x72", name := "wordFrom", desc := "(I)I" } : Jvm.MethodName)) ∈ zW0 := q_in (List.mem_of_getElem? (i := 445) (by decide +kernel)) (by decide +kernel)
theorem q_446 : (Jvm.Cond.static ({ cls := "BakedBefore$Reade\x72", name := "wordFrom", desc := "(I)I" } : Jvm.MethodName)) ∈ zW0 := q_in (List.mem_of_getElem? (i := 446) (by decide +kernel)) (by decide +kernel)
theorem q_447 : (Jvm.Cond.code ({ cls := "BakedBefore$Reade\x72", name := "wordFrom", desc := "(I)I" } : Jvm.MethodName) prog_9_method_14_code (1 : Nat) (Option.some Jvm.ClassFile.FieldType.int)) ∈ zW0 := q_in (List.mem_of_getElem? (i := 447) (by decide +kernel)) (by decide +kernel)
theorem q_448 : (Jvm.Cond.methodLink "BakedBefore$Reade\x72" (47 : Nat) ({ cls := "BakedBefore$Reade\x72", name := "spelling", desc := "(I)Ljava/lang/String;" } : Jvm.MethodName)) ∈ zW0 := q_in (List.mem_of_getElem? (i := 448) (by decide +kernel)) (by decide +kernel)
theorem q_449 : (Jvm.Cond.static ({ cls := "BakedBefore$Reade\x72", name := "spelling", desc := "(I)Ljava/lang/String;" } : Jvm.MethodName)) ∈ zW0 := q_in (List.mem_of_getElem? (i := 449) (by decide +kernel)) (by decide +kernel)
theorem q_450 : (Jvm.Cond.code ({ cls := "BakedBefore$Reade\x72", name := "spelling", desc := "(I)Ljava/lang/String;" } : Jvm.MethodName) prog_9_method_15_code (1 : Nat) (Option.some (Jvm.ClassFile.FieldType.object "java/lang/String"))) ∈ zW0 := q_in (List.mem_of_getElem? (i := 450) (by decide +kernel)) (by decide +kernel)
theorem q_455 : (Jvm.Cond.methodLink "BakedBefore$Reade\x72" (51 : Nat) ({ cls := "BakedBefore$Reade\x72", name := "readWord", desc := "(Ljava/lang/String;)Z" } : Jvm.MethodName)) ∈ zW0 := q_in (List.mem_of_getElem? (i := 455) (by decide +kernel)) (by decide +kernel)
theorem q_457 : (Jvm.Cond.instanceMethod ({ cls := "BakedBefore$Reade\x72", name := "readWord", desc := "(Ljava/lang/String;)Z" } : Jvm.MethodName)) ∈ zW0 := q_in (List.mem_of_getElem? (i := 457) (by decide +kernel)) (by decide +kernel)
theorem q_458 : (Jvm.Cond.code ({ cls := "BakedBefore$Reade\x72", name := "readWord", desc := "(Ljava/lang/String;)Z" } : Jvm.MethodName) prog_9_method_5_code (3 : Nat) (Option.some Jvm.ClassFile.FieldType.boolean)) ∈ zW0 := q_in (List.mem_of_getElem? (i := 458) (by decide +kernel)) (by decide +kernel)
theorem q_459 : (Jvm.Cond.methodLink "BakedBefore$Reade\x72" (69 : Nat) ({ cls := "java/lang/String", name := "length", desc := "()I" } : Jvm.MethodName)) ∈ zW0 := q_in (List.mem_of_getElem? (i := 459) (by decide +kernel)) (by decide +kernel)
theorem q_469 : (Jvm.Cond.methodLink "BakedBefore$Reade\x72" (73 : Nat) ({ cls := "java/lang/String", name := "charAt", desc := "(I)C" } : Jvm.MethodName)) ∈ zW0 := q_in (List.mem_of_getElem? (i := 469) (by decide +kernel)) (by decide +kernel)
theorem q_507 : (Jvm.Cond.methodLink "BakedBefore$Reade\x72" (35 : Nat) ({ cls := "BakedBefore$Reade\x72", name := "skip", desc := "(C)Z" } : Jvm.MethodName)) ∈ zW0 := q_in (List.mem_of_getElem? (i := 507) (by decide +kernel)) (by decide +kernel)
theorem q_509 : (Jvm.Cond.instanceMethod ({ cls := "BakedBefore$Reade\x72", name := "skip", desc := "(C)Z" } : Jvm.MethodName)) ∈ zW0 := q_in (List.mem_of_getElem? (i := 509) (by decide +kernel)) (by decide +kernel)
theorem q_510 : (Jvm.Cond.code ({ cls := "BakedBefore$Reade\x72", name := "skip", desc := "(C)Z" } : Jvm.MethodName) prog_9_method_12_code (2 : Nat) (Option.some Jvm.ClassFile.FieldType.boolean)) ∈ zW0 := q_in (List.mem_of_getElem? (i := 510) (by decide +kernel)) (by decide +kernel)
theorem q_511 : (Jvm.Cond.methodLink "BakedBefore$Reade\x72" (55 : Nat) ({ cls := "BakedBefore$Reade\x72", name := "readNumbe\x72", desc := "()Z" } : Jvm.MethodName)) ∈ zW0 := q_in (List.mem_of_getElem? (i := 511) (by decide +kernel)) (by decide +kernel)
theorem q_513 : (Jvm.Cond.instanceMethod ({ cls := "BakedBefore$Reade\x72", name := "readNumbe\x72", desc := "()Z" } : Jvm.MethodName)) ∈ zW0 := q_in (List.mem_of_getElem? (i := 513) (by decide +kernel)) (by decide +kernel)
theorem q_514 : (Jvm.Cond.code ({ cls := "BakedBefore$Reade\x72", name := "readNumbe\x72", desc := "()Z" } : Jvm.MethodName) prog_9_method_6_code (1 : Nat) (Option.some Jvm.ClassFile.FieldType.boolean)) ∈ zW0 := q_in (List.mem_of_getElem? (i := 514) (by decide +kernel)) (by decide +kernel)
theorem q_515 : (Jvm.Cond.methodLink "BakedBefore$Reade\x72" (77 : Nat) ({ cls := "BakedBefore$Reade\x72", name := "isDigit", desc := "(I)Z" } : Jvm.MethodName)) ∈ zW0 := q_in (List.mem_of_getElem? (i := 515) (by decide +kernel)) (by decide +kernel)
theorem q_516 : (Jvm.Cond.static ({ cls := "BakedBefore$Reade\x72", name := "isDigit", desc := "(I)Z" } : Jvm.MethodName)) ∈ zW0 := q_in (List.mem_of_getElem? (i := 516) (by decide +kernel)) (by decide +kernel)
theorem q_517 : (Jvm.Cond.code ({ cls := "BakedBefore$Reade\x72", name := "isDigit", desc := "(I)Z" } : Jvm.MethodName) prog_9_method_13_code (1 : Nat) (Option.some Jvm.ClassFile.FieldType.boolean)) ∈ zW0 := q_in (List.mem_of_getElem? (i := 517) (by decide +kernel)) (by decide +kernel)
theorem q_518 : (Jvm.Cond.methodLink "BakedBefore$Reade\x72" (61 : Nat) ({ cls := "BakedBefore$Kiln", name := "begin", desc := "(II)V" } : Jvm.MethodName)) ∈ zW0 := q_in (List.mem_of_getElem? (i := 518) (by decide +kernel)) (by decide +kernel)
theorem q_519 : (Jvm.Cond.instanceMethod ({ cls := "BakedBefore$Kiln", name := "begin", desc := "(II)V" } : Jvm.MethodName)) ∈ zW0 := q_in (List.mem_of_getElem? (i := 519) (by decide +kernel)) (by decide +kernel)
theorem q_520 : (Jvm.Cond.selects "BakedBefore$Kiln" ({ cls := "BakedBefore$Kiln", name := "begin", desc := "(II)V" } : Jvm.MethodName) ({ cls := "BakedBefore$Kiln", name := "begin", desc := "(II)V" } : Jvm.MethodName)) ∈ zW0 := q_in (List.mem_of_getElem? (i := 520) (by decide +kernel)) (by decide +kernel)
theorem q_521 : (Jvm.Cond.code ({ cls := "BakedBefore$Kiln", name := "begin", desc := "(II)V" } : Jvm.MethodName) prog_6_method_3_code (3 : Nat) (Option.none : Option Jvm.ClassFile.FieldType)) ∈ zW0 := q_in (List.mem_of_getElem? (i := 521) (by decide +kernel)) (by decide +kernel)
theorem q_522 : (Jvm.Cond.methodLink "BakedBefore$Reade\x72" (65 : Nat) ({ cls := "BakedBefore$Reade\x72", name := "readEithe\x72", desc := "(I)Z" } : Jvm.MethodName)) ∈ zW0 := q_in (List.mem_of_getElem? (i := 522) (by decide +kernel)) (by decide +kernel)
theorem q_524 : (Jvm.Cond.instanceMethod ({ cls := "BakedBefore$Reade\x72", name := "readEithe\x72", desc := "(I)Z" } : Jvm.MethodName)) ∈ zW0 := q_in (List.mem_of_getElem? (i := 524) (by decide +kernel)) (by decide +kernel)
theorem q_525 : (Jvm.Cond.code ({ cls := "BakedBefore$Reade\x72", name := "readEithe\x72", desc := "(I)Z" } : Jvm.MethodName) prog_9_method_7_code (3 : Nat) (Option.some Jvm.ClassFile.FieldType.boolean)) ∈ zW0 := q_in (List.mem_of_getElem? (i := 525) (by decide +kernel)) (by decide +kernel)
theorem q_526 : (Jvm.Cond.methodLink "BakedBefore$Reade\x72" (80 : Nat) ({ cls := "BakedBefore$Reade\x72", name := "readBoth", desc := "(I)Z" } : Jvm.MethodName)) ∈ zW0 := q_in (List.mem_of_getElem? (i := 526) (by decide +kernel)) (by decide +kernel)
theorem q_528 : (Jvm.Cond.instanceMethod ({ cls := "BakedBefore$Reade\x72", name := "readBoth", desc := "(I)Z" } : Jvm.MethodName)) ∈ zW0 := q_in (List.mem_of_getElem? (i := 528) (by decide +kernel)) (by decide +kernel)
theorem q_529 : (Jvm.Cond.code ({ cls := "BakedBefore$Reade\x72", name := "readBoth", desc := "(I)Z" } : Jvm.MethodName) prog_9_method_8_code (3 : Nat) (Option.some Jvm.ClassFile.FieldType.boolean)) ∈ zW0 := q_in (List.mem_of_getElem? (i := 529) (by decide +kernel)) (by decide +kernel)
theorem q_530 : (Jvm.Cond.methodLink "BakedBefore$Reade\x72" (87 : Nat) ({ cls := "BakedBefore$Reade\x72", name := "readPart", desc := "(I)Z" } : Jvm.MethodName)) ∈ zW0 := q_in (List.mem_of_getElem? (i := 530) (by decide +kernel)) (by decide +kernel)
theorem q_532 : (Jvm.Cond.instanceMethod ({ cls := "BakedBefore$Reade\x72", name := "readPart", desc := "(I)Z" } : Jvm.MethodName)) ∈ zW0 := q_in (List.mem_of_getElem? (i := 532) (by decide +kernel)) (by decide +kernel)
theorem q_533 : (Jvm.Cond.code ({ cls := "BakedBefore$Reade\x72", name := "readPart", desc := "(I)Z" } : Jvm.MethodName) prog_9_method_9_code (6 : Nat) (Option.some Jvm.ClassFile.FieldType.boolean)) ∈ zW0 := q_in (List.mem_of_getElem? (i := 533) (by decide +kernel)) (by decide +kernel)
theorem q_534 : (Jvm.Cond.methodLink "BakedBefore$Reade\x72" (90 : Nat) ({ cls := "BakedBefore$Reade\x72", name := "readTest", desc := "()Z" } : Jvm.MethodName)) ∈ zW0 := q_in (List.mem_of_getElem? (i := 534) (by decide +kernel)) (by decide +kernel)
theorem q_536 : (Jvm.Cond.instanceMethod ({ cls := "BakedBefore$Reade\x72", name := "readTest", desc := "()Z" } : Jvm.MethodName)) ∈ zW0 := q_in (List.mem_of_getElem? (i := 536) (by decide +kernel)) (by decide +kernel)
theorem q_537 : (Jvm.Cond.code ({ cls := "BakedBefore$Reade\x72", name := "readTest", desc := "()Z" } : Jvm.MethodName) prog_9_method_10_code (3 : Nat) (Option.some Jvm.ClassFile.FieldType.boolean)) ∈ zW0 := q_in (List.mem_of_getElem? (i := 537) (by decide +kernel)) (by decide +kernel)
theorem q_538 : (Jvm.Cond.methodLink "BakedBefore$Reade\x72" (93 : Nat) ({ cls := "BakedBefore$Reade\x72", name := "letterOf", desc := "(I)I" } : Jvm.MethodName)) ∈ zW0 := q_in (List.mem_of_getElem? (i := 538) (by decide +kernel)) (by decide +kernel)
theorem q_539 : (Jvm.Cond.static ({ cls := "BakedBefore$Reade\x72", name := "letterOf", desc := "(I)I" } : Jvm.MethodName)) ∈ zW0 := q_in (List.mem_of_getElem? (i := 539) (by decide +kernel)) (by decide +kernel)
theorem q_540 : (Jvm.Cond.code ({ cls := "BakedBefore$Reade\x72", name := "letterOf", desc := "(I)I" } : Jvm.MethodName) prog_9_method_16_code (1 : Nat) (Option.some Jvm.ClassFile.FieldType.int)) ∈ zW0 := q_in (List.mem_of_getElem? (i := 540) (by decide +kernel)) (by decide +kernel)
theorem q_541 : (Jvm.Cond.methodLink "BakedBefore$Reade\x72" (83 : Nat) ({ cls := "BakedBefore$Kiln", name := "append", desc := "(I)V" } : Jvm.MethodName)) ∈ zW0 := q_in (List.mem_of_getElem? (i := 541) (by decide +kernel)) (by decide +kernel)
theorem q_542 : (Jvm.Cond.instanceMethod ({ cls := "BakedBefore$Kiln", name := "append", desc := "(I)V" } : Jvm.MethodName)) ∈ zW0 := q_in (List.mem_of_getElem? (i := 542) (by decide +kernel)) (by decide +kernel)
theorem q_543 : (Jvm.Cond.selects "BakedBefore$Kiln" ({ cls := "BakedBefore$Kiln", name := "append", desc := "(I)V" } : Jvm.MethodName) ({ cls := "BakedBefore$Kiln", name := "append", desc := "(I)V" } : Jvm.MethodName)) ∈ zW0 := q_in (List.mem_of_getElem? (i := 543) (by decide +kernel)) (by decide +kernel)
theorem q_544 : (Jvm.Cond.code ({ cls := "BakedBefore$Kiln", name := "append", desc := "(I)V" } : Jvm.MethodName) prog_6_method_4_code (2 : Nat) (Option.none : Option Jvm.ClassFile.FieldType)) ∈ zW0 := q_in (List.mem_of_getElem? (i := 544) (by decide +kernel)) (by decide +kernel)
theorem q_547 : (Jvm.Cond.instanceMethod ({ cls := "BakedBefore", name := "told", desc := "(I)I" } : Jvm.MethodName)) ∈ zW0 := q_in (List.mem_of_getElem? (i := 547) (by decide +kernel)) (by decide +kernel)
theorem q_548 : (Jvm.Cond.selects "BakedBefore" ({ cls := "BakedBefore", name := "told", desc := "(I)I" } : Jvm.MethodName) ({ cls := "BakedBefore", name := "told", desc := "(I)I" } : Jvm.MethodName)) ∈ zW0 := q_in (List.mem_of_getElem? (i := 548) (by decide +kernel)) (by decide +kernel)
theorem q_549 : (Jvm.Cond.code ({ cls := "BakedBefore", name := "told", desc := "(I)I" } : Jvm.MethodName) prog_1_method_9_code (2 : Nat) (Option.some Jvm.ClassFile.FieldType.int)) ∈ zW0 := q_in (List.mem_of_getElem? (i := 549) (by decide +kernel)) (by decide +kernel)
theorem q_551 : (Jvm.Cond.instanceMethod ({ cls := "BakedBefore", name := "bake", desc := "(I)I" } : Jvm.MethodName)) ∈ zW0 := q_in (List.mem_of_getElem? (i := 551) (by decide +kernel)) (by decide +kernel)
theorem q_552 : (Jvm.Cond.selects "BakedBefore" ({ cls := "BakedBefore", name := "bake", desc := "(I)I" } : Jvm.MethodName) ({ cls := "BakedBefore", name := "bake", desc := "(I)I" } : Jvm.MethodName)) ∈ zW0 := q_in (List.mem_of_getElem? (i := 552) (by decide +kernel)) (by decide +kernel)
theorem q_553 : (Jvm.Cond.code ({ cls := "BakedBefore", name := "bake", desc := "(I)I" } : Jvm.MethodName) prog_1_method_10_code (2 : Nat) (Option.some Jvm.ClassFile.FieldType.int)) ∈ zW0 := q_in (List.mem_of_getElem? (i := 553) (by decide +kernel)) (by decide +kernel)
theorem q_554 : (Jvm.Cond.methodLink "BakedBefore" (167 : Nat) ({ cls := "BakedBefore$Bake\x72", name := "bakeIn", desc := "(LBakedBefore$Oven;LBakedBefore$Loaf;)Z" } : Jvm.MethodName)) ∈ zW0 := q_in (List.mem_of_getElem? (i := 554) (by decide +kernel)) (by decide +kernel)
theorem q_555 : (Jvm.Cond.instanceMethod ({ cls := "BakedBefore$Bake\x72", name := "bakeIn", desc := "(LBakedBefore$Oven;LBakedBefore$Loaf;)Z" } : Jvm.MethodName)) ∈ zW0 := q_in (List.mem_of_getElem? (i := 555) (by decide +kernel)) (by decide +kernel)
theorem q_556 : (Jvm.Cond.selects "BakedBefore$Bake\x72" ({ cls := "BakedBefore$Bake\x72", name := "bakeIn", desc := "(LBakedBefore$Oven;LBakedBefore$Loaf;)Z" } : Jvm.MethodName) ({ cls := "BakedBefore$Bake\x72", name := "bakeIn", desc := "(LBakedBefore$Oven;LBakedBefore$Loaf;)Z" } : Jvm.MethodName)) ∈ zW0 := q_in (List.mem_of_getElem? (i := 556) (by decide +kernel)) (by decide +kernel)
theorem q_557 : (Jvm.Cond.code ({ cls := "BakedBefore$Bake\x72", name := "bakeIn", desc := "(LBakedBefore$Oven;LBakedBefore$Loaf;)Z" } : Jvm.MethodName) prog_4_method_8_code (7 : Nat) (Option.some Jvm.ClassFile.FieldType.boolean)) ∈ zW0 := q_in (List.mem_of_getElem? (i := 557) (by decide +kernel)) (by decide +kernel)
theorem q_558 : (Jvm.Cond.methodLink "BakedBefore$Bake\x72" (72 : Nat) ({ cls := "BakedBefore$Bake\x72", name := "leaves", desc := "(LBakedBefore$Loaf;ILBakedBefore$Oven;)I" } : Jvm.MethodName)) ∈ zW0 := q_in (List.mem_of_getElem? (i := 558) (by decide +kernel)) (by decide +kernel)
theorem q_559 : (Jvm.Cond.methodLink "BakedBefore$Bake\x72" (75 : Nat) ({ cls := "BakedBefore$Oven", name := "strike", desc := "()V" } : Jvm.MethodName)) ∈ zW0 := q_in (List.mem_of_getElem? (i := 559) (by decide +kernel)) (by decide +kernel)
theorem q_560 : (Jvm.Cond.instanceMethod ({ cls := "BakedBefore$Oven", name := "strike", desc := "()V" } : Jvm.MethodName)) ∈ zW0 := q_in (List.mem_of_getElem? (i := 560) (by decide +kernel)) (by decide +kernel)
theorem q_561 : (Jvm.Cond.selects "BakedBefore$Oven" ({ cls := "BakedBefore$Oven", name := "strike", desc := "()V" } : Jvm.MethodName) ({ cls := "BakedBefore$Oven", name := "strike", desc := "()V" } : Jvm.MethodName)) ∈ zW0 := q_in (List.mem_of_getElem? (i := 561) (by decide +kernel)) (by decide +kernel)
theorem q_562 : (Jvm.Cond.code ({ cls := "BakedBefore$Oven", name := "strike", desc := "()V" } : Jvm.MethodName) prog_8_method_3_code (1 : Nat) (Option.none : Option Jvm.ClassFile.FieldType)) ∈ zW0 := q_in (List.mem_of_getElem? (i := 562) (by decide +kernel)) (by decide +kernel)
theorem q_563 : (Jvm.Cond.methodLink "BakedBefore$Oven" (19 : Nat) ({ cls := "java/lang/Math", name := "min", desc := "(II)I" } : Jvm.MethodName)) ∈ zW0 := q_in (List.mem_of_getElem? (i := 563) (by decide +kernel)) (by decide +kernel)
theorem q_565 : (Jvm.Cond.instanceMethod ({ cls := "BakedBefore", name := "cold", desc := "()I" } : Jvm.MethodName)) ∈ zW0 := q_in (List.mem_of_getElem? (i := 565) (by decide +kernel)) (by decide +kernel)
theorem q_566 : (Jvm.Cond.selects "BakedBefore" ({ cls := "BakedBefore", name := "cold", desc := "()I" } : Jvm.MethodName) ({ cls := "BakedBefore", name := "cold", desc := "()I" } : Jvm.MethodName)) ∈ zW0 := q_in (List.mem_of_getElem? (i := 566) (by decide +kernel)) (by decide +kernel)
theorem q_567 : (Jvm.Cond.code ({ cls := "BakedBefore", name := "cold", desc := "()I" } : Jvm.MethodName) prog_1_method_11_code (1 : Nat) (Option.some Jvm.ClassFile.FieldType.int)) ∈ zW0 := q_in (List.mem_of_getElem? (i := 567) (by decide +kernel)) (by decide +kernel)
theorem q_568 : (Jvm.Cond.methodLink "BakedBefore" (171 : Nat) ({ cls := "BakedBefore$Bake\x72", name := "chill", desc := "(LBakedBefore$Oven;)V" } : Jvm.MethodName)) ∈ zW0 := q_in (List.mem_of_getElem? (i := 568) (by decide +kernel)) (by decide +kernel)
theorem q_569 : (Jvm.Cond.instanceMethod ({ cls := "BakedBefore$Bake\x72", name := "chill", desc := "(LBakedBefore$Oven;)V" } : Jvm.MethodName)) ∈ zW0 := q_in (List.mem_of_getElem? (i := 569) (by decide +kernel)) (by decide +kernel)
theorem q_570 : (Jvm.Cond.selects "BakedBefore$Bake\x72" ({ cls := "BakedBefore$Bake\x72", name := "chill", desc := "(LBakedBefore$Oven;)V" } : Jvm.MethodName) ({ cls := "BakedBefore$Bake\x72", name := "chill", desc := "(LBakedBefore$Oven;)V" } : Jvm.MethodName)) ∈ zW0 := q_in (List.mem_of_getElem? (i := 570) (by decide +kernel)) (by decide +kernel)
theorem q_571 : (Jvm.Cond.code ({ cls := "BakedBefore$Bake\x72", name := "chill", desc := "(LBakedBefore$Oven;)V" } : Jvm.MethodName) prog_4_method_9_code (3 : Nat) (Option.none : Option Jvm.ClassFile.FieldType)) ∈ zW0 := q_in (List.mem_of_getElem? (i := 571) (by decide +kernel)) (by decide +kernel)
theorem q_573 : (Jvm.Cond.instanceMethod ({ cls := "BakedBefore", name := "would", desc := "(III)I" } : Jvm.MethodName)) ∈ zW0 := q_in (List.mem_of_getElem? (i := 573) (by decide +kernel)) (by decide +kernel)
theorem q_574 : (Jvm.Cond.selects "BakedBefore" ({ cls := "BakedBefore", name := "would", desc := "(III)I" } : Jvm.MethodName) ({ cls := "BakedBefore", name := "would", desc := "(III)I" } : Jvm.MethodName)) ∈ zW0 := q_in (List.mem_of_getElem? (i := 574) (by decide +kernel)) (by decide +kernel)
theorem q_575 : (Jvm.Cond.code ({ cls := "BakedBefore", name := "would", desc := "(III)I" } : Jvm.MethodName) prog_1_method_12_code (4 : Nat) (Option.some Jvm.ClassFile.FieldType.int)) ∈ zW0 := q_in (List.mem_of_getElem? (i := 575) (by decide +kernel)) (by decide +kernel)
theorem q_576 : (Jvm.Cond.methodLink "BakedBefore" (175 : Nat) ({ cls := "BakedBefore$Aske\x72", name := "behind", desc := "(III)I" } : Jvm.MethodName)) ∈ zW0 := q_in (List.mem_of_getElem? (i := 576) (by decide +kernel)) (by decide +kernel)
theorem q_577 : (Jvm.Cond.instanceMethod ({ cls := "BakedBefore$Aske\x72", name := "behind", desc := "(III)I" } : Jvm.MethodName)) ∈ zW0 := q_in (List.mem_of_getElem? (i := 577) (by decide +kernel)) (by decide +kernel)
theorem q_578 : (Jvm.Cond.selects "BakedBefore$Aske\x72" ({ cls := "BakedBefore$Aske\x72", name := "behind", desc := "(III)I" } : Jvm.MethodName) ({ cls := "BakedBefore$Aske\x72", name := "behind", desc := "(III)I" } : Jvm.MethodName)) ∈ zW0 := q_in (List.mem_of_getElem? (i := 578) (by decide +kernel)) (by decide +kernel)
theorem q_579 : (Jvm.Cond.code ({ cls := "BakedBefore$Aske\x72", name := "behind", desc := "(III)I" } : Jvm.MethodName) prog_3_method_2_code (4 : Nat) (Option.some Jvm.ClassFile.FieldType.int)) ∈ zW0 := q_in (List.mem_of_getElem? (i := 579) (by decide +kernel)) (by decide +kernel)
theorem q_580 : (Jvm.Cond.methodLink "BakedBefore$Aske\x72" (35 : Nat) ({ cls := "BakedBefore$Oven", name := "become", desc := "(LBakedBefore$Oven;)V" } : Jvm.MethodName)) ∈ zW0 := q_in (List.mem_of_getElem? (i := 580) (by decide +kernel)) (by decide +kernel)
theorem q_581 : (Jvm.Cond.instanceMethod ({ cls := "BakedBefore$Oven", name := "become", desc := "(LBakedBefore$Oven;)V" } : Jvm.MethodName)) ∈ zW0 := q_in (List.mem_of_getElem? (i := 581) (by decide +kernel)) (by decide +kernel)
theorem q_582 : (Jvm.Cond.selects "BakedBefore$Oven" ({ cls := "BakedBefore$Oven", name := "become", desc := "(LBakedBefore$Oven;)V" } : Jvm.MethodName) ({ cls := "BakedBefore$Oven", name := "become", desc := "(LBakedBefore$Oven;)V" } : Jvm.MethodName)) ∈ zW0 := q_in (List.mem_of_getElem? (i := 582) (by decide +kernel)) (by decide +kernel)
theorem q_583 : (Jvm.Cond.code ({ cls := "BakedBefore$Oven", name := "become", desc := "(LBakedBefore$Oven;)V" } : Jvm.MethodName) prog_8_method_2_code (3 : Nat) (Option.none : Option Jvm.ClassFile.FieldType)) ∈ zW0 := q_in (List.mem_of_getElem? (i := 583) (by decide +kernel)) (by decide +kernel)
theorem q_584 : (Jvm.Cond.methodLink "BakedBefore$Aske\x72" (43 : Nat) ({ cls := "BakedBefore$Bake\x72", name := "bakeIn", desc := "(LBakedBefore$Oven;LBakedBefore$Loaf;)Z" } : Jvm.MethodName)) ∈ zW0 := q_in (List.mem_of_getElem? (i := 584) (by decide +kernel)) (by decide +kernel)
theorem q_585 : (Jvm.Cond.methodLink "BakedBefore$Aske\x72" (49 : Nat) ({ cls := "BakedBefore$Bake\x72", name := "takes", desc := "(LBakedBefore$Loaf;ILBakedBefore$Oven;)I" } : Jvm.MethodName)) ∈ zW0 := q_in (List.mem_of_getElem? (i := 585) (by decide +kernel)) (by decide +kernel)
theorem q_586 : (Jvm.Cond.methodLink "BakedBefore$Aske\x72" (53 : Nat) ({ cls := "BakedBefore$Bake\x72", name := "spoils", desc := "(LBakedBefore$Loaf;LBakedBefore$Oven;)Z" } : Jvm.MethodName)) ∈ zW0 := q_in (List.mem_of_getElem? (i := 586) (by decide +kernel)) (by decide +kernel)
theorem q_589 : (Jvm.Cond.instanceMethod ({ cls := "BakedBefore", name := "orde\x72", desc := "(II)I" } : Jvm.MethodName)) ∈ zW0 := q_in (List.mem_of_getElem? (i := 589) (by decide +kernel)) (by decide +kernel)
theorem q_590 : (Jvm.Cond.selects "BakedBefore" ({ cls := "BakedBefore", name := "orde\x72", desc := "(II)I" } : Jvm.MethodName) ({ cls := "BakedBefore", name := "orde\x72", desc := "(II)I" } : Jvm.MethodName)) ∈ zW0 := q_in (List.mem_of_getElem? (i := 590) (by decide +kernel)) (by decide +kernel)
theorem q_591 : (Jvm.Cond.code ({ cls := "BakedBefore", name := "orde\x72", desc := "(II)I" } : Jvm.MethodName) prog_1_method_13_code (3 : Nat) (Option.some Jvm.ClassFile.FieldType.int)) ∈ zW0 := q_in (List.mem_of_getElem? (i := 591) (by decide +kernel)) (by decide +kernel)
theorem q_592 : (Jvm.Cond.methodLink "BakedBefore" (179 : Nat) ({ cls := "BakedBefore", name := "isSet", desc := "(II)Z" } : Jvm.MethodName)) ∈ zW0 := q_in (List.mem_of_getElem? (i := 592) (by decide +kernel)) (by decide +kernel)
theorem q_594 : (Jvm.Cond.instanceMethod ({ cls := "BakedBefore", name := "isSet", desc := "(II)Z" } : Jvm.MethodName)) ∈ zW0 := q_in (List.mem_of_getElem? (i := 594) (by decide +kernel)) (by decide +kernel)
theorem q_595 : (Jvm.Cond.code ({ cls := "BakedBefore", name := "isSet", desc := "(II)Z" } : Jvm.MethodName) prog_1_method_38_code (3 : Nat) (Option.some Jvm.ClassFile.FieldType.boolean)) ∈ zW0 := q_in (List.mem_of_getElem? (i := 595) (by decide +kernel)) (by decide +kernel)
theorem q_596 : (Jvm.Cond.methodLink "BakedBefore" (294 : Nat) ({ cls := "java/lang/Intege\x72", name := "bitCount", desc := "(I)I" } : Jvm.MethodName)) ∈ zW0 := q_in (List.mem_of_getElem? (i := 596) (by decide +kernel)) (by decide +kernel)
theorem q_597 : (Jvm.Cond.static ({ cls := "java/lang/Intege\x72", name := "bitCount", desc := "(I)I" } : Jvm.MethodName)) ∈ zW0 := q_in (List.mem_of_getElem? (i := 597) (by decide +kernel)) (by decide +kernel)
theorem q_598 : (Jvm.Cond.code ({ cls := "java/lang/Intege\x72", name := "bitCount", desc := "(I)I" } : Jvm.MethodName) prog_15_method_49_code (1 : Nat) (Option.some Jvm.ClassFile.FieldType.int)) ∈ zW0 := q_in (List.mem_of_getElem? (i := 598) (by decide +kernel)) (by decide +kernel)
theorem q_599 : (Jvm.Cond.constant "java/lang/Intege\x72" (265 : Nat) (1431655765 : Int32)) ∈ zW0 := q_in (List.mem_of_getElem? (i := 599) (by decide +kernel)) (by decide +kernel)
theorem q_600 : (Jvm.Cond.constant "java/lang/Intege\x72" (266 : Nat) (858993459 : Int32)) ∈ zW0 := q_in (List.mem_of_getElem? (i := 600) (by decide +kernel)) (by decide +kernel)
theorem q_601 : (Jvm.Cond.constant "java/lang/Intege\x72" (267 : Nat) (252645135 : Int32)) ∈ zW0 := q_in (List.mem_of_getElem? (i := 601) (by decide +kernel)) (by decide +kernel)
theorem q_602 : (Jvm.Cond.methodLink "BakedBefore" (183 : Nat) ({ cls := "BakedBefore$Search", name := "seekOrde\x72", desc := "(I)V" } : Jvm.MethodName)) ∈ zW0 := q_in (List.mem_of_getElem? (i := 602) (by decide +kernel)) (by decide +kernel)
theorem q_603 : (Jvm.Cond.instanceMethod ({ cls := "BakedBefore$Search", name := "seekOrde\x72", desc := "(I)V" } : Jvm.MethodName)) ∈ zW0 := q_in (List.mem_of_getElem? (i := 603) (by decide +kernel)) (by decide +kernel)
theorem q_604 : (Jvm.Cond.selects "BakedBefore$Search" ({ cls := "BakedBefore$Search", name := "seekOrde\x72", desc := "(I)V" } : Jvm.MethodName) ({ cls := "BakedBefore$Search", name := "seekOrde\x72", desc := "(I)V" } : Jvm.MethodName)) ∈ zW0 := q_in (List.mem_of_getElem? (i := 604) (by decide +kernel)) (by decide +kernel)
theorem q_605 : (Jvm.Cond.code ({ cls := "BakedBefore$Search", name := "seekOrde\x72", desc := "(I)V" } : Jvm.MethodName) prog_10_method_2_code (2 : Nat) (Option.none : Option Jvm.ClassFile.FieldType)) ∈ zW0 := q_in (List.mem_of_getElem? (i := 605) (by decide +kernel)) (by decide +kernel)
theorem q_606 : (Jvm.Cond.methodLink "BakedBefore$Search" (33 : Nat) ({ cls := "java/lang/Intege\x72", name := "bitCount", desc := "(I)I" } : Jvm.MethodName)) ∈ zW0 := q_in (List.mem_of_getElem? (i := 606) (by decide +kernel)) (by decide +kernel)
theorem q_607 : (Jvm.Cond.methodLink "BakedBefore$Search" (52 : Nat) ({ cls := "BakedBefore$Oven", name := "become", desc := "(LBakedBefore$Oven;)V" } : Jvm.MethodName)) ∈ zW0 := q_in (List.mem_of_getElem? (i := 607) (by decide +kernel)) (by decide +kernel)
theorem q_608 : (Jvm.Cond.methodLink "BakedBefore$Search" (56 : Nat) ({ cls := "BakedBefore$Search", name := "goOnOrde\x72", desc := "(LBakedBefore$Search;III)V" } : Jvm.MethodName)) ∈ zW0 := q_in (List.mem_of_getElem? (i := 608) (by decide +kernel)) (by decide +kernel)
theorem q_609 : (Jvm.Cond.static ({ cls := "BakedBefore$Search", name := "goOnOrde\x72", desc := "(LBakedBefore$Search;III)V" } : Jvm.MethodName)) ∈ zW0 := q_in (List.mem_of_getElem? (i := 609) (by decide +kernel)) (by decide +kernel)
theorem q_610 : (Jvm.Cond.code ({ cls := "BakedBefore$Search", name := "goOnOrde\x72", desc := "(LBakedBefore$Search;III)V" } : Jvm.MethodName) prog_10_method_3_code (8 : Nat) (Option.none : Option Jvm.ClassFile.FieldType)) ∈ zW0 := q_in (List.mem_of_getElem? (i := 610) (by decide +kernel)) (by decide +kernel)
theorem q_611 : (Jvm.Cond.methodLink "BakedBefore$Search" (60 : Nat) ({ cls := "BakedBefore$Search", name := "keep", desc := "(I)V" } : Jvm.MethodName)) ∈ zW0 := q_in (List.mem_of_getElem? (i := 611) (by decide +kernel)) (by decide +kernel)
theorem q_613 : (Jvm.Cond.instanceMethod ({ cls := "BakedBefore$Search", name := "keep", desc := "(I)V" } : Jvm.MethodName)) ∈ zW0 := q_in (List.mem_of_getElem? (i := 613) (by decide +kernel)) (by decide +kernel)
theorem q_614 : (Jvm.Cond.code ({ cls := "BakedBefore$Search", name := "keep", desc := "(I)V" } : Jvm.MethodName) prog_10_method_7_code (3 : Nat) (Option.none : Option Jvm.ClassFile.FieldType)) ∈ zW0 := q_in (List.mem_of_getElem? (i := 614) (by decide +kernel)) (by decide +kernel)
theorem q_615 : (Jvm.Cond.methodLink "BakedBefore$Search" (71 : Nat) ({ cls := "BakedBefore$Bake\x72", name := "bakeIn", desc := "(LBakedBefore$Oven;LBakedBefore$Loaf;)Z" } : Jvm.MethodName)) ∈ zW0 := q_in (List.mem_of_getElem? (i := 615) (by decide +kernel)) (by decide +kernel)
theorem q_617 : (Jvm.Cond.instanceMethod ({ cls := "BakedBefore", name := "colds", desc := "(II)I" } : Jvm.MethodName)) ∈ zW0 := q_in (List.mem_of_getElem? (i := 617) (by decide +kernel)) (by decide +kernel)
theorem q_618 : (Jvm.Cond.selects "BakedBefore" ({ cls := "BakedBefore", name := "colds", desc := "(II)I" } : Jvm.MethodName) ({ cls := "BakedBefore", name := "colds", desc := "(II)I" } : Jvm.MethodName)) ∈ zW0 := q_in (List.mem_of_getElem? (i := 618) (by decide +kernel)) (by decide +kernel)
theorem q_619 : (Jvm.Cond.code ({ cls := "BakedBefore", name := "colds", desc := "(II)I" } : Jvm.MethodName) prog_1_method_14_code (3 : Nat) (Option.some Jvm.ClassFile.FieldType.int)) ∈ zW0 := q_in (List.mem_of_getElem? (i := 619) (by decide +kernel)) (by decide +kernel)
theorem q_620 : (Jvm.Cond.methodLink "BakedBefore" (196 : Nat) ({ cls := "BakedBefore$Search", name := "seekColds", desc := "(I)Z" } : Jvm.MethodName)) ∈ zW0 := q_in (List.mem_of_getElem? (i := 620) (by decide +kernel)) (by decide +kernel)
theorem q_621 : (Jvm.Cond.instanceMethod ({ cls := "BakedBefore$Search", name := "seekColds", desc := "(I)Z" } : Jvm.MethodName)) ∈ zW0 := q_in (List.mem_of_getElem? (i := 621) (by decide +kernel)) (by decide +kernel)
theorem q_622 : (Jvm.Cond.selects "BakedBefore$Search" ({ cls := "BakedBefore$Search", name := "seekColds", desc := "(I)Z" } : Jvm.MethodName) ({ cls := "BakedBefore$Search", name := "seekColds", desc := "(I)Z" } : Jvm.MethodName)) ∈ zW0 := q_in (List.mem_of_getElem? (i := 622) (by decide +kernel)) (by decide +kernel)
theorem q_623 : (Jvm.Cond.code ({ cls := "BakedBefore$Search", name := "seekColds", desc := "(I)Z" } : Jvm.MethodName) prog_10_method_4_code (3 : Nat) (Option.some Jvm.ClassFile.FieldType.boolean)) ∈ zW0 := q_in (List.mem_of_getElem? (i := 623) (by decide +kernel)) (by decide +kernel)
theorem q_624 : (Jvm.Cond.methodLink "BakedBefore$Search" (77 : Nat) ({ cls := "BakedBefore$Search", name := "goOnColds", desc := "(LBakedBefore$Search;III)V" } : Jvm.MethodName)) ∈ zW0 := q_in (List.mem_of_getElem? (i := 624) (by decide +kernel)) (by decide +kernel)
theorem q_625 : (Jvm.Cond.static ({ cls := "BakedBefore$Search", name := "goOnColds", desc := "(LBakedBefore$Search;III)V" } : Jvm.MethodName)) ∈ zW0 := q_in (List.mem_of_getElem? (i := 625) (by decide +kernel)) (by decide +kernel)
theorem q_626 : (Jvm.Cond.code ({ cls := "BakedBefore$Search", name := "goOnColds", desc := "(LBakedBefore$Search;III)V" } : Jvm.MethodName) prog_10_method_5_code (8 : Nat) (Option.none : Option Jvm.ClassFile.FieldType)) ∈ zW0 := q_in (List.mem_of_getElem? (i := 626) (by decide +kernel)) (by decide +kernel)
theorem q_627 : (Jvm.Cond.methodLink "BakedBefore$Search" (80 : Nat) ({ cls := "BakedBefore$Search", name := "lowestOf", desc := "(I)I" } : Jvm.MethodName)) ∈ zW0 := q_in (List.mem_of_getElem? (i := 627) (by decide +kernel)) (by decide +kernel)
theorem q_628 : (Jvm.Cond.static ({ cls := "BakedBefore$Search", name := "lowestOf", desc := "(I)I" } : Jvm.MethodName)) ∈ zW0 := q_in (List.mem_of_getElem? (i := 628) (by decide +kernel)) (by decide +kernel)
theorem q_629 : (Jvm.Cond.code ({ cls := "BakedBefore$Search", name := "lowestOf", desc := "(I)I" } : Jvm.MethodName) prog_10_method_6_code (2 : Nat) (Option.some Jvm.ClassFile.FieldType.int)) ∈ zW0 := q_in (List.mem_of_getElem? (i := 629) (by decide +kernel)) (by decide +kernel)
theorem q_630 : (Jvm.Cond.methodLink "BakedBefore$Search" (83 : Nat) ({ cls := "BakedBefore$Bake\x72", name := "chill", desc := "(LBakedBefore$Oven;)V" } : Jvm.MethodName)) ∈ zW0 := q_in (List.mem_of_getElem? (i := 630) (by decide +kernel)) (by decide +kernel)
theorem q_632 : (Jvm.Cond.instanceMethod ({ cls := "BakedBefore", name := "place", desc := "(II)I" } : Jvm.MethodName)) ∈ zW0 := q_in (List.mem_of_getElem? (i := 632) (by decide +kernel)) (by decide +kernel)
theorem q_633 : (Jvm.Cond.selects "BakedBefore" ({ cls := "BakedBefore", name := "place", desc := "(II)I" } : Jvm.MethodName) ({ cls := "BakedBefore", name := "place", desc := "(II)I" } : Jvm.MethodName)) ∈ zW0 := q_in (List.mem_of_getElem? (i := 633) (by decide +kernel)) (by decide +kernel)
theorem q_634 : (Jvm.Cond.code ({ cls := "BakedBefore", name := "place", desc := "(II)I" } : Jvm.MethodName) prog_1_method_15_code (3 : Nat) (Option.some Jvm.ClassFile.FieldType.int)) ∈ zW0 := q_in (List.mem_of_getElem? (i := 634) (by decide +kernel)) (by decide +kernel)
theorem q_635 : (Jvm.Cond.methodLink "BakedBefore" (199 : Nat) ({ cls := "BakedBefore$Aske\x72", name := "bestPlace", desc := "(IZ)I" } : Jvm.MethodName)) ∈ zW0 := q_in (List.mem_of_getElem? (i := 635) (by decide +kernel)) (by decide +kernel)
theorem q_636 : (Jvm.Cond.instanceMethod ({ cls := "BakedBefore$Aske\x72", name := "bestPlace", desc := "(IZ)I" } : Jvm.MethodName)) ∈ zW0 := q_in (List.mem_of_getElem? (i := 636) (by decide +kernel)) (by decide +kernel)
theorem q_637 : (Jvm.Cond.selects "BakedBefore$Aske\x72" ({ cls := "BakedBefore$Aske\x72", name := "bestPlace", desc := "(IZ)I" } : Jvm.MethodName) ({ cls := "BakedBefore$Aske\x72", name := "bestPlace", desc := "(IZ)I" } : Jvm.MethodName)) ∈ zW0 := q_in (List.mem_of_getElem? (i := 637) (by decide +kernel)) (by decide +kernel)
theorem q_638 : (Jvm.Cond.code ({ cls := "BakedBefore$Aske\x72", name := "bestPlace", desc := "(IZ)I" } : Jvm.MethodName) prog_3_method_3_code (8 : Nat) (Option.some Jvm.ClassFile.FieldType.int)) ∈ zW0 := q_in (List.mem_of_getElem? (i := 638) (by decide +kernel)) (by decide +kernel)
theorem q_639 : (Jvm.Cond.methodLink "BakedBefore$Aske\x72" (61 : Nat) ({ cls := "BakedBefore$Bake\x72", name := "takesOfAll", desc := "(LBakedBefore$Loaf;LBakedBefore$Oven;)I" } : Jvm.MethodName)) ∈ zW0 := q_in (List.mem_of_getElem? (i := 639) (by decide +kernel)) (by decide +kernel)
theorem q_640 : (Jvm.Cond.instanceMethod ({ cls := "BakedBefore$Bake\x72", name := "takesOfAll", desc := "(LBakedBefore$Loaf;LBakedBefore$Oven;)I" } : Jvm.MethodName)) ∈ zW0 := q_in (List.mem_of_getElem? (i := 640) (by decide +kernel)) (by decide +kernel)
theorem q_641 : (Jvm.Cond.selects "BakedBefore$Bake\x72" ({ cls := "BakedBefore$Bake\x72", name := "takesOfAll", desc := "(LBakedBefore$Loaf;LBakedBefore$Oven;)I" } : Jvm.MethodName) ({ cls := "BakedBefore$Bake\x72", name := "takesOfAll", desc := "(LBakedBefore$Loaf;LBakedBefore$Oven;)I" } : Jvm.MethodName)) ∈ zW0 := q_in (List.mem_of_getElem? (i := 641) (by decide +kernel)) (by decide +kernel)
theorem q_642 : (Jvm.Cond.code ({ cls := "BakedBefore$Bake\x72", name := "takesOfAll", desc := "(LBakedBefore$Loaf;LBakedBefore$Oven;)I" } : Jvm.MethodName) prog_4_method_5_code (5 : Nat) (Option.some Jvm.ClassFile.FieldType.int)) ∈ zW0 := q_in (List.mem_of_getElem? (i := 642) (by decide +kernel)) (by decide +kernel)
theorem q_644 : (Jvm.Cond.instanceMethod ({ cls := "BakedBefore", name := "guilty", desc := "(I)I" } : Jvm.MethodName)) ∈ zW0 := q_in (List.mem_of_getElem? (i := 644) (by decide +kernel)) (by decide +kernel)
theorem q_645 : (Jvm.Cond.selects "BakedBefore" ({ cls := "BakedBefore", name := "guilty", desc := "(I)I" } : Jvm.MethodName) ({ cls := "BakedBefore", name := "guilty", desc := "(I)I" } : Jvm.MethodName)) ∈ zW0 := q_in (List.mem_of_getElem? (i := 645) (by decide +kernel)) (by decide +kernel)
theorem q_646 : (Jvm.Cond.code ({ cls := "BakedBefore", name := "guilty", desc := "(I)I" } : Jvm.MethodName) prog_1_method_16_code (2 : Nat) (Option.some Jvm.ClassFile.FieldType.int)) ∈ zW0 := q_in (List.mem_of_getElem? (i := 646) (by decide +kernel)) (by decide +kernel)
theorem q_647 : (Jvm.Cond.methodLink "BakedBefore" (203 : Nat) ({ cls := "BakedBefore$Aske\x72", name := "guiltyOf", desc := "(I)I" } : Jvm.MethodName)) ∈ zW0 := q_in (List.mem_of_getElem? (i := 647) (by decide +kernel)) (by decide +kernel)
theorem q_648 : (Jvm.Cond.instanceMethod ({ cls := "BakedBefore$Aske\x72", name := "guiltyOf", desc := "(I)I" } : Jvm.MethodName)) ∈ zW0 := q_in (List.mem_of_getElem? (i := 648) (by decide +kernel)) (by decide +kernel)
theorem q_649 : (Jvm.Cond.selects "BakedBefore$Aske\x72" ({ cls := "BakedBefore$Aske\x72", name := "guiltyOf", desc := "(I)I" } : Jvm.MethodName) ({ cls := "BakedBefore$Aske\x72", name := "guiltyOf", desc := "(I)I" } : Jvm.MethodName)) ∈ zW0 := q_in (List.mem_of_getElem? (i := 649) (by decide +kernel)) (by decide +kernel)
theorem q_650 : (Jvm.Cond.code ({ cls := "BakedBefore$Aske\x72", name := "guiltyOf", desc := "(I)I" } : Jvm.MethodName) prog_3_method_4_code (4 : Nat) (Option.some Jvm.ClassFile.FieldType.int)) ∈ zW0 := q_in (List.mem_of_getElem? (i := 650) (by decide +kernel)) (by decide +kernel)
theorem q_651 : (Jvm.Cond.methodLink "BakedBefore$Aske\x72" (69 : Nat) ({ cls := "BakedBefore$Aske\x72", name := "spoilsWithout", desc := "(II)Z" } : Jvm.MethodName)) ∈ zW0 := q_in (List.mem_of_getElem? (i := 651) (by decide +kernel)) (by decide +kernel)
theorem q_653 : (Jvm.Cond.instanceMethod ({ cls := "BakedBefore$Aske\x72", name := "spoilsWithout", desc := "(II)Z" } : Jvm.MethodName)) ∈ zW0 := q_in (List.mem_of_getElem? (i := 653) (by decide +kernel)) (by decide +kernel)
theorem q_654 : (Jvm.Cond.code ({ cls := "BakedBefore$Aske\x72", name := "spoilsWithout", desc := "(II)Z" } : Jvm.MethodName) prog_3_method_5_code (4 : Nat) (Option.some Jvm.ClassFile.FieldType.boolean)) ∈ zW0 := q_in (List.mem_of_getElem? (i := 654) (by decide +kernel)) (by decide +kernel)
theorem q_656 : (Jvm.Cond.instanceMethod ({ cls := "BakedBefore", name := "two", desc := "(I)I" } : Jvm.MethodName)) ∈ zW0 := q_in (List.mem_of_getElem? (i := 656) (by decide +kernel)) (by decide +kernel)
theorem q_657 : (Jvm.Cond.selects "BakedBefore" ({ cls := "BakedBefore", name := "two", desc := "(I)I" } : Jvm.MethodName) ({ cls := "BakedBefore", name := "two", desc := "(I)I" } : Jvm.MethodName)) ∈ zW0 := q_in (List.mem_of_getElem? (i := 657) (by decide +kernel)) (by decide +kernel)
theorem q_658 : (Jvm.Cond.code ({ cls := "BakedBefore", name := "two", desc := "(I)I" } : Jvm.MethodName) prog_1_method_17_code (2 : Nat) (Option.some Jvm.ClassFile.FieldType.int)) ∈ zW0 := q_in (List.mem_of_getElem? (i := 658) (by decide +kernel)) (by decide +kernel)
theorem q_659 : (Jvm.Cond.methodLink "BakedBefore" (206 : Nat) ({ cls := "BakedBefore$Aske\x72", name := "bestParting", desc := "(Z)I" } : Jvm.MethodName)) ∈ zW0 := q_in (List.mem_of_getElem? (i := 659) (by decide +kernel)) (by decide +kernel)
theorem q_660 : (Jvm.Cond.instanceMethod ({ cls := "BakedBefore$Aske\x72", name := "bestParting", desc := "(Z)I" } : Jvm.MethodName)) ∈ zW0 := q_in (List.mem_of_getElem? (i := 660) (by decide +kernel)) (by decide +kernel)
theorem q_661 : (Jvm.Cond.selects "BakedBefore$Aske\x72" ({ cls := "BakedBefore$Aske\x72", name := "bestParting", desc := "(Z)I" } : Jvm.MethodName) ({ cls := "BakedBefore$Aske\x72", name := "bestParting", desc := "(Z)I" } : Jvm.MethodName)) ∈ zW0 := q_in (List.mem_of_getElem? (i := 661) (by decide +kernel)) (by decide +kernel)
theorem q_662 : (Jvm.Cond.code ({ cls := "BakedBefore$Aske\x72", name := "bestParting", desc := "(Z)I" } : Jvm.MethodName) prog_3_method_6_code (7 : Nat) (Option.some Jvm.ClassFile.FieldType.int)) ∈ zW0 := q_in (List.mem_of_getElem? (i := 662) (by decide +kernel)) (by decide +kernel)
theorem q_663 : (Jvm.Cond.methodLink "BakedBefore$Aske\x72" (73 : Nat) ({ cls := "BakedBefore$Aske\x72", name := "spoiledIn", desc := "(I)I" } : Jvm.MethodName)) ∈ zW0 := q_in (List.mem_of_getElem? (i := 663) (by decide +kernel)) (by decide +kernel)
theorem q_665 : (Jvm.Cond.instanceMethod ({ cls := "BakedBefore$Aske\x72", name := "spoiledIn", desc := "(I)I" } : Jvm.MethodName)) ∈ zW0 := q_in (List.mem_of_getElem? (i := 665) (by decide +kernel)) (by decide +kernel)
theorem q_666 : (Jvm.Cond.code ({ cls := "BakedBefore$Aske\x72", name := "spoiledIn", desc := "(I)I" } : Jvm.MethodName) prog_3_method_7_code (4 : Nat) (Option.some Jvm.ClassFile.FieldType.int)) ∈ zW0 := q_in (List.mem_of_getElem? (i := 666) (by decide +kernel)) (by decide +kernel)
theorem q_668 : (Jvm.Cond.instanceMethod ({ cls := "BakedBefore", name := "has", desc := "(I)I" } : Jvm.MethodName)) ∈ zW0 := q_in (List.mem_of_getElem? (i := 668) (by decide +kernel)) (by decide +kernel)
theorem q_669 : (Jvm.Cond.selects "BakedBefore" ({ cls := "BakedBefore", name := "has", desc := "(I)I" } : Jvm.MethodName) ({ cls := "BakedBefore", name := "has", desc := "(I)I" } : Jvm.MethodName)) ∈ zW0 := q_in (List.mem_of_getElem? (i := 669) (by decide +kernel)) (by decide +kernel)
theorem q_670 : (Jvm.Cond.code ({ cls := "BakedBefore", name := "has", desc := "(I)I" } : Jvm.MethodName) prog_1_method_18_code (2 : Nat) (Option.some Jvm.ClassFile.FieldType.int)) ∈ zW0 := q_in (List.mem_of_getElem? (i := 670) (by decide +kernel)) (by decide +kernel)
theorem q_671 : (Jvm.Cond.constant "BakedBefore" (209 : Nat) (-100001 : Int32)) ∈ zW0 := q_in (List.mem_of_getElem? (i := 671) (by decide +kernel)) (by decide +kernel)
theorem q_672 : (Jvm.Cond.methodLink "BakedBefore" (210 : Nat) ({ cls := "BakedBefore$Aske\x72", name := "purse", desc := "(I)I" } : Jvm.MethodName)) ∈ zW0 := q_in (List.mem_of_getElem? (i := 672) (by decide +kernel)) (by decide +kernel)
theorem q_673 : (Jvm.Cond.instanceMethod ({ cls := "BakedBefore$Aske\x72", name := "purse", desc := "(I)I" } : Jvm.MethodName)) ∈ zW0 := q_in (List.mem_of_getElem? (i := 673) (by decide +kernel)) (by decide +kernel)
theorem q_674 : (Jvm.Cond.selects "BakedBefore$Aske\x72" ({ cls := "BakedBefore$Aske\x72", name := "purse", desc := "(I)I" } : Jvm.MethodName) ({ cls := "BakedBefore$Aske\x72", name := "purse", desc := "(I)I" } : Jvm.MethodName)) ∈ zW0 := q_in (List.mem_of_getElem? (i := 674) (by decide +kernel)) (by decide +kernel)
theorem q_675 : (Jvm.Cond.code ({ cls := "BakedBefore$Aske\x72", name := "purse", desc := "(I)I" } : Jvm.MethodName) prog_3_method_8_code (3 : Nat) (Option.some Jvm.ClassFile.FieldType.int)) ∈ zW0 := q_in (List.mem_of_getElem? (i := 675) (by decide +kernel)) (by decide +kernel)
theorem q_676 : (Jvm.Cond.methodLink "BakedBefore$Aske\x72" (77 : Nat) ({ cls := "BakedBefore$Aske\x72", name := "gainOfFirst", desc := "(I)I" } : Jvm.MethodName)) ∈ zW0 := q_in (List.mem_of_getElem? (i := 676) (by decide +kernel)) (by decide +kernel)
theorem q_678 : (Jvm.Cond.instanceMethod ({ cls := "BakedBefore$Aske\x72", name := "gainOfFirst", desc := "(I)I" } : Jvm.MethodName)) ∈ zW0 := q_in (List.mem_of_getElem? (i := 678) (by decide +kernel)) (by decide +kernel)
theorem q_679 : (Jvm.Cond.code ({ cls := "BakedBefore$Aske\x72", name := "gainOfFirst", desc := "(I)I" } : Jvm.MethodName) prog_3_method_9_code (4 : Nat) (Option.some Jvm.ClassFile.FieldType.int)) ∈ zW0 := q_in (List.mem_of_getElem? (i := 679) (by decide +kernel)) (by decide +kernel)
theorem q_680 : (Jvm.Cond.methodLink "BakedBefore$Aske\x72" (83 : Nat) ({ cls := "BakedBefore$Bake\x72", name := "feeOf", desc := "(LBakedBefore$Loaf;I)I" } : Jvm.MethodName)) ∈ zW0 := q_in (List.mem_of_getElem? (i := 680) (by decide +kernel)) (by decide +kernel)
theorem q_682 : (Jvm.Cond.instanceMethod ({ cls := "BakedBefore", name := "swaps", desc := "(I)I" } : Jvm.MethodName)) ∈ zW0 := q_in (List.mem_of_getElem? (i := 682) (by decide +kernel)) (by decide +kernel)
theorem q_683 : (Jvm.Cond.selects "BakedBefore" ({ cls := "BakedBefore", name := "swaps", desc := "(I)I" } : Jvm.MethodName) ({ cls := "BakedBefore", name := "swaps", desc := "(I)I" } : Jvm.MethodName)) ∈ zW0 := q_in (List.mem_of_getElem? (i := 683) (by decide +kernel)) (by decide +kernel)
theorem q_684 : (Jvm.Cond.code ({ cls := "BakedBefore", name := "swaps", desc := "(I)I" } : Jvm.MethodName) prog_1_method_19_code (2 : Nat) (Option.some Jvm.ClassFile.FieldType.int)) ∈ zW0 := q_in (List.mem_of_getElem? (i := 684) (by decide +kernel)) (by decide +kernel)
theorem q_685 : (Jvm.Cond.methodLink "BakedBefore" (213 : Nat) ({ cls := "BakedBefore$Aske\x72", name := "bothAgree", desc := "(I)Z" } : Jvm.MethodName)) ∈ zW0 := q_in (List.mem_of_getElem? (i := 685) (by decide +kernel)) (by decide +kernel)
theorem q_686 : (Jvm.Cond.instanceMethod ({ cls := "BakedBefore$Aske\x72", name := "bothAgree", desc := "(I)Z" } : Jvm.MethodName)) ∈ zW0 := q_in (List.mem_of_getElem? (i := 686) (by decide +kernel)) (by decide +kernel)
theorem q_687 : (Jvm.Cond.selects "BakedBefore$Aske\x72" ({ cls := "BakedBefore$Aske\x72", name := "bothAgree", desc := "(I)Z" } : Jvm.MethodName) ({ cls := "BakedBefore$Aske\x72", name := "bothAgree", desc := "(I)Z" } : Jvm.MethodName)) ∈ zW0 := q_in (List.mem_of_getElem? (i := 687) (by decide +kernel)) (by decide +kernel)
theorem q_688 : (Jvm.Cond.code ({ cls := "BakedBefore$Aske\x72", name := "bothAgree", desc := "(I)Z" } : Jvm.MethodName) prog_3_method_10_code (8 : Nat) (Option.some Jvm.ClassFile.FieldType.boolean)) ∈ zW0 := q_in (List.mem_of_getElem? (i := 688) (by decide +kernel)) (by decide +kernel)
theorem q_689 : (Jvm.Cond.methodLink "BakedBefore$Aske\x72" (87 : Nat) ({ cls := "BakedBefore$Aske\x72", name := "bakeAhead", desc := "(I)V" } : Jvm.MethodName)) ∈ zW0 := q_in (List.mem_of_getElem? (i := 689) (by decide +kernel)) (by decide +kernel)
theorem q_691 : (Jvm.Cond.instanceMethod ({ cls := "BakedBefore$Aske\x72", name := "bakeAhead", desc := "(I)V" } : Jvm.MethodName)) ∈ zW0 := q_in (List.mem_of_getElem? (i := 691) (by decide +kernel)) (by decide +kernel)
theorem q_692 : (Jvm.Cond.code ({ cls := "BakedBefore$Aske\x72", name := "bakeAhead", desc := "(I)V" } : Jvm.MethodName) prog_3_method_11_code (3 : Nat) (Option.none : Option Jvm.ClassFile.FieldType)) ∈ zW0 := q_in (List.mem_of_getElem? (i := 692) (by decide +kernel)) (by decide +kernel)
theorem q_694 : (Jvm.Cond.instanceMethod ({ cls := "BakedBefore", name := "span", desc := "(IIII)I" } : Jvm.MethodName)) ∈ zW0 := q_in (List.mem_of_getElem? (i := 694) (by decide +kernel)) (by decide +kernel)
theorem q_695 : (Jvm.Cond.selects "BakedBefore" ({ cls := "BakedBefore", name := "span", desc := "(IIII)I" } : Jvm.MethodName) ({ cls := "BakedBefore", name := "span", desc := "(IIII)I" } : Jvm.MethodName)) ∈ zW0 := q_in (List.mem_of_getElem? (i := 695) (by decide +kernel)) (by decide +kernel)
theorem q_696 : (Jvm.Cond.code ({ cls := "BakedBefore", name := "span", desc := "(IIII)I" } : Jvm.MethodName) prog_1_method_20_code (5 : Nat) (Option.some Jvm.ClassFile.FieldType.int)) ∈ zW0 := q_in (List.mem_of_getElem? (i := 696) (by decide +kernel)) (by decide +kernel)
theorem q_697 : (Jvm.Cond.methodLink "BakedBefore" (216 : Nat) ({ cls := "BakedBefore$Aske\x72", name := "heldBy", desc := "(LBakedBefore$Loaf;IIZ)I" } : Jvm.MethodName)) ∈ zW0 := q_in (List.mem_of_getElem? (i := 697) (by decide +kernel)) (by decide +kernel)
theorem q_698 : (Jvm.Cond.instanceMethod ({ cls := "BakedBefore$Aske\x72", name := "heldBy", desc := "(LBakedBefore$Loaf;IIZ)I" } : Jvm.MethodName)) ∈ zW0 := q_in (List.mem_of_getElem? (i := 698) (by decide +kernel)) (by decide +kernel)
theorem q_699 : (Jvm.Cond.selects "BakedBefore$Aske\x72" ({ cls := "BakedBefore$Aske\x72", name := "heldBy", desc := "(LBakedBefore$Loaf;IIZ)I" } : Jvm.MethodName) ({ cls := "BakedBefore$Aske\x72", name := "heldBy", desc := "(LBakedBefore$Loaf;IIZ)I" } : Jvm.MethodName)) ∈ zW0 := q_in (List.mem_of_getElem? (i := 699) (by decide +kernel)) (by decide +kernel)
theorem q_700 : (Jvm.Cond.code ({ cls := "BakedBefore$Aske\x72", name := "heldBy", desc := "(LBakedBefore$Loaf;IIZ)I" } : Jvm.MethodName) prog_3_method_12_code (11 : Nat) (Option.some Jvm.ClassFile.FieldType.int)) ∈ zW0 := q_in (List.mem_of_getElem? (i := 700) (by decide +kernel)) (by decide +kernel)
theorem q_701 : (Jvm.Cond.methodLink "BakedBefore$Aske\x72" (91 : Nat) ({ cls := "BakedBefore$Bake\x72", name := "partOf", desc := "(LBakedBefore$Loaf;III)I" } : Jvm.MethodName)) ∈ zW0 := q_in (List.mem_of_getElem? (i := 701) (by decide +kernel)) (by decide +kernel)
theorem q_702 : (Jvm.Cond.methodLink "BakedBefore$Aske\x72" (95 : Nat) ({ cls := "BakedBefore$Aske\x72", name := "reaching", desc := "(LBakedBefore$Loaf;IIIII)I" } : Jvm.MethodName)) ∈ zW0 := q_in (List.mem_of_getElem? (i := 702) (by decide +kernel)) (by decide +kernel)
theorem q_703 : (Jvm.Cond.static ({ cls := "BakedBefore$Aske\x72", name := "reaching", desc := "(LBakedBefore$Loaf;IIIII)I" } : Jvm.MethodName)) ∈ zW0 := q_in (List.mem_of_getElem? (i := 703) (by decide +kernel)) (by decide +kernel)
theorem q_704 : (Jvm.Cond.code ({ cls := "BakedBefore$Aske\x72", name := "reaching", desc := "(LBakedBefore$Loaf;IIIII)I" } : Jvm.MethodName) prog_3_method_13_code (9 : Nat) (Option.some Jvm.ClassFile.FieldType.int)) ∈ zW0 := q_in (List.mem_of_getElem? (i := 704) (by decide +kernel)) (by decide +kernel)
theorem q_705 : (Jvm.Cond.methodLink "BakedBefore$Aske\x72" (99 : Nat) ({ cls := "BakedBefore$Bake\x72", name := "amount", desc := "(LBakedBefore$Loaf;III)I" } : Jvm.MethodName)) ∈ zW0 := q_in (List.mem_of_getElem? (i := 705) (by decide +kernel)) (by decide +kernel)
theorem q_707 : (Jvm.Cond.instanceMethod ({ cls := "BakedBefore", name := "yea\x72", desc := "(III)I" } : Jvm.MethodName)) ∈ zW0 := q_in (List.mem_of_getElem? (i := 707) (by decide +kernel)) (by decide +kernel)
theorem q_708 : (Jvm.Cond.selects "BakedBefore" ({ cls := "BakedBefore", name := "yea\x72", desc := "(III)I" } : Jvm.MethodName) ({ cls := "BakedBefore", name := "yea\x72", desc := "(III)I" } : Jvm.MethodName)) ∈ zW0 := q_in (List.mem_of_getElem? (i := 708) (by decide +kernel)) (by decide +kernel)
theorem q_709 : (Jvm.Cond.code ({ cls := "BakedBefore", name := "yea\x72", desc := "(III)I" } : Jvm.MethodName) prog_1_method_21_code (4 : Nat) (Option.some Jvm.ClassFile.FieldType.int)) ∈ zW0 := q_in (List.mem_of_getElem? (i := 709) (by decide +kernel)) (by decide +kernel)
theorem q_710 : (Jvm.Cond.constant "BakedBefore" (220 : Nat) (-100002 : Int32)) ∈ zW0 := q_in (List.mem_of_getElem? (i := 710) (by decide +kernel)) (by decide +kernel)
theorem q_711 : (Jvm.Cond.constant "BakedBefore" (221 : Nat) (-100003 : Int32)) ∈ zW0 := q_in (List.mem_of_getElem? (i := 711) (by decide +kernel)) (by decide +kernel)
theorem q_712 : (Jvm.Cond.methodLink "BakedBefore" (222 : Nat) ({ cls := "BakedBefore$Aske\x72", name := "afterYea\x72", desc := "(III)I" } : Jvm.MethodName)) ∈ zW0 := q_in (List.mem_of_getElem? (i := 712) (by decide +kernel)) (by decide +kernel)
theorem q_713 : (Jvm.Cond.instanceMethod ({ cls := "BakedBefore$Aske\x72", name := "afterYea\x72", desc := "(III)I" } : Jvm.MethodName)) ∈ zW0 := q_in (List.mem_of_getElem? (i := 713) (by decide +kernel)) (by decide +kernel)
theorem q_714 : (Jvm.Cond.selects "BakedBefore$Aske\x72" ({ cls := "BakedBefore$Aske\x72", name := "afterYea\x72", desc := "(III)I" } : Jvm.MethodName) ({ cls := "BakedBefore$Aske\x72", name := "afterYea\x72", desc := "(III)I" } : Jvm.MethodName)) ∈ zW0 := q_in (List.mem_of_getElem? (i := 714) (by decide +kernel)) (by decide +kernel)
theorem q_715 : (Jvm.Cond.code ({ cls := "BakedBefore$Aske\x72", name := "afterYea\x72", desc := "(III)I" } : Jvm.MethodName) prog_3_method_14_code (7 : Nat) (Option.some Jvm.ClassFile.FieldType.int)) ∈ zW0 := q_in (List.mem_of_getElem? (i := 715) (by decide +kernel)) (by decide +kernel)
theorem q_716 : (Jvm.Cond.methodLink "BakedBefore$Aske\x72" (102 : Nat) ({ cls := "BakedBefore$Bake\x72", name := "chill", desc := "(LBakedBefore$Oven;)V" } : Jvm.MethodName)) ∈ zW0 := q_in (List.mem_of_getElem? (i := 716) (by decide +kernel)) (by decide +kernel)
theorem q_718 : (Jvm.Cond.instanceMethod ({ cls := "BakedBefore", name := "odds", desc := "(II)J" } : Jvm.MethodName)) ∈ zW0 := q_in (List.mem_of_getElem? (i := 718) (by decide +kernel)) (by decide +kernel)
theorem q_719 : (Jvm.Cond.selects "BakedBefore" ({ cls := "BakedBefore", name := "odds", desc := "(II)J" } : Jvm.MethodName) ({ cls := "BakedBefore", name := "odds", desc := "(II)J" } : Jvm.MethodName)) ∈ zW0 := q_in (List.mem_of_getElem? (i := 719) (by decide +kernel)) (by decide +kernel)
theorem q_720 : (Jvm.Cond.code ({ cls := "BakedBefore", name := "odds", desc := "(II)J" } : Jvm.MethodName) prog_1_method_22_code (3 : Nat) (Option.some Jvm.ClassFile.FieldType.long)) ∈ zW0 := q_in (List.mem_of_getElem? (i := 720) (by decide +kernel)) (by decide +kernel)
theorem q_721 : (Jvm.Cond.constantLong "BakedBefore" (225 : Nat) (-9223372036854775808 : Int64)) ∈ zW0 := q_in (List.mem_of_getElem? (i := 721) (by decide +kernel)) (by decide +kernel)
theorem q_722 : (Jvm.Cond.methodLink "BakedBefore" (227 : Nat) ({ cls := "BakedBefore$Aske\x72", name := "spoilers", desc := "(I)I" } : Jvm.MethodName)) ∈ zW0 := q_in (List.mem_of_getElem? (i := 722) (by decide +kernel)) (by decide +kernel)
theorem q_723 : (Jvm.Cond.instanceMethod ({ cls := "BakedBefore$Aske\x72", name := "spoilers", desc := "(I)I" } : Jvm.MethodName)) ∈ zW0 := q_in (List.mem_of_getElem? (i := 723) (by decide +kernel)) (by decide +kernel)
theorem q_724 : (Jvm.Cond.selects "BakedBefore$Aske\x72" ({ cls := "BakedBefore$Aske\x72", name := "spoilers", desc := "(I)I" } : Jvm.MethodName) ({ cls := "BakedBefore$Aske\x72", name := "spoilers", desc := "(I)I" } : Jvm.MethodName)) ∈ zW0 := q_in (List.mem_of_getElem? (i := 724) (by decide +kernel)) (by decide +kernel)
theorem q_725 : (Jvm.Cond.code ({ cls := "BakedBefore$Aske\x72", name := "spoilers", desc := "(I)I" } : Jvm.MethodName) prog_3_method_15_code (4 : Nat) (Option.some Jvm.ClassFile.FieldType.int)) ∈ zW0 := q_in (List.mem_of_getElem? (i := 725) (by decide +kernel)) (by decide +kernel)
theorem q_726 : (Jvm.Cond.methodLink "BakedBefore$Aske\x72" (108 : Nat) ({ cls := "BakedBefore$Aske\x72", name := "behind", desc := "(III)I" } : Jvm.MethodName)) ∈ zW0 := q_in (List.mem_of_getElem? (i := 726) (by decide +kernel)) (by decide +kernel)
theorem q_727 : (Jvm.Cond.methodLink "BakedBefore" (230 : Nat) ({ cls := "BakedBefore", name := "lowest", desc := "(III)J" } : Jvm.MethodName)) ∈ zW0 := q_in (List.mem_of_getElem? (i := 727) (by decide +kernel)) (by decide +kernel)
theorem q_728 : (Jvm.Cond.static ({ cls := "BakedBefore", name := "lowest", desc := "(III)J" } : Jvm.MethodName)) ∈ zW0 := q_in (List.mem_of_getElem? (i := 728) (by decide +kernel)) (by decide +kernel)
theorem q_729 : (Jvm.Cond.code ({ cls := "BakedBefore", name := "lowest", desc := "(III)J" } : Jvm.MethodName) prog_1_method_41_code (4 : Nat) (Option.some Jvm.ClassFile.FieldType.long)) ∈ zW0 := q_in (List.mem_of_getElem? (i := 729) (by decide +kernel)) (by decide +kernel)
theorem q_731 : (Jvm.Cond.instanceMethod ({ cls := "BakedBefore", name := "mean", desc := "(II)J" } : Jvm.MethodName)) ∈ zW0 := q_in (List.mem_of_getElem? (i := 731) (by decide +kernel)) (by decide +kernel)
theorem q_732 : (Jvm.Cond.selects "BakedBefore" ({ cls := "BakedBefore", name := "mean", desc := "(II)J" } : Jvm.MethodName) ({ cls := "BakedBefore", name := "mean", desc := "(II)J" } : Jvm.MethodName)) ∈ zW0 := q_in (List.mem_of_getElem? (i := 732) (by decide +kernel)) (by decide +kernel)
theorem q_733 : (Jvm.Cond.code ({ cls := "BakedBefore", name := "mean", desc := "(II)J" } : Jvm.MethodName) prog_1_method_23_code (3 : Nat) (Option.some Jvm.ClassFile.FieldType.long)) ∈ zW0 := q_in (List.mem_of_getElem? (i := 733) (by decide +kernel)) (by decide +kernel)
theorem q_734 : (Jvm.Cond.methodLink "BakedBefore" (234 : Nat) ({ cls := "BakedBefore$Aske\x72", name := "takenByAll", desc := "(I)I" } : Jvm.MethodName)) ∈ zW0 := q_in (List.mem_of_getElem? (i := 734) (by decide +kernel)) (by decide +kernel)
theorem q_735 : (Jvm.Cond.instanceMethod ({ cls := "BakedBefore$Aske\x72", name := "takenByAll", desc := "(I)I" } : Jvm.MethodName)) ∈ zW0 := q_in (List.mem_of_getElem? (i := 735) (by decide +kernel)) (by decide +kernel)
theorem q_736 : (Jvm.Cond.selects "BakedBefore$Aske\x72" ({ cls := "BakedBefore$Aske\x72", name := "takenByAll", desc := "(I)I" } : Jvm.MethodName) ({ cls := "BakedBefore$Aske\x72", name := "takenByAll", desc := "(I)I" } : Jvm.MethodName)) ∈ zW0 := q_in (List.mem_of_getElem? (i := 736) (by decide +kernel)) (by decide +kernel)
theorem q_737 : (Jvm.Cond.code ({ cls := "BakedBefore$Aske\x72", name := "takenByAll", desc := "(I)I" } : Jvm.MethodName) prog_3_method_16_code (4 : Nat) (Option.some Jvm.ClassFile.FieldType.int)) ∈ zW0 := q_in (List.mem_of_getElem? (i := 737) (by decide +kernel)) (by decide +kernel)
theorem q_739 : (Jvm.Cond.instanceMethod ({ cls := "BakedBefore", name := "book", desc := "(IZ)I" } : Jvm.MethodName)) ∈ zW0 := q_in (List.mem_of_getElem? (i := 739) (by decide +kernel)) (by decide +kernel)
theorem q_740 : (Jvm.Cond.selects "BakedBefore" ({ cls := "BakedBefore", name := "book", desc := "(IZ)I" } : Jvm.MethodName) ({ cls := "BakedBefore", name := "book", desc := "(IZ)I" } : Jvm.MethodName)) ∈ zW0 := q_in (List.mem_of_getElem? (i := 740) (by decide +kernel)) (by decide +kernel)
theorem q_741 : (Jvm.Cond.code ({ cls := "BakedBefore", name := "book", desc := "(IZ)I" } : Jvm.MethodName) prog_1_method_24_code (3 : Nat) (Option.some Jvm.ClassFile.FieldType.int)) ∈ zW0 := q_in (List.mem_of_getElem? (i := 741) (by decide +kernel)) (by decide +kernel)
theorem q_742 : (Jvm.Cond.methodLink "BakedBefore" (246 : Nat) ({ cls := "BakedBefore$Book", name := "append", desc := "(IZ)I" } : Jvm.MethodName)) ∈ zW0 := q_in (List.mem_of_getElem? (i := 742) (by decide +kernel)) (by decide +kernel)
theorem q_743 : (Jvm.Cond.instanceMethod ({ cls := "BakedBefore$Book", name := "append", desc := "(IZ)I" } : Jvm.MethodName)) ∈ zW0 := q_in (List.mem_of_getElem? (i := 743) (by decide +kernel)) (by decide +kernel)
theorem q_744 : (Jvm.Cond.selects "BakedBefore$Book" ({ cls := "BakedBefore$Book", name := "append", desc := "(IZ)I" } : Jvm.MethodName) ({ cls := "BakedBefore$Book", name := "append", desc := "(IZ)I" } : Jvm.MethodName)) ∈ zW0 := q_in (List.mem_of_getElem? (i := 744) (by decide +kernel)) (by decide +kernel)
theorem q_745 : (Jvm.Cond.code ({ cls := "BakedBefore$Book", name := "append", desc := "(IZ)I" } : Jvm.MethodName) prog_5_method_2_code (3 : Nat) (Option.some Jvm.ClassFile.FieldType.int)) ∈ zW0 := q_in (List.mem_of_getElem? (i := 745) (by decide +kernel)) (by decide +kernel)
theorem q_747 : (Jvm.Cond.instanceMethod ({ cls := "BakedBefore", name := "looked", desc := "()I" } : Jvm.MethodName)) ∈ zW0 := q_in (List.mem_of_getElem? (i := 747) (by decide +kernel)) (by decide +kernel)
theorem q_748 : (Jvm.Cond.selects "BakedBefore" ({ cls := "BakedBefore", name := "looked", desc := "()I" } : Jvm.MethodName) ({ cls := "BakedBefore", name := "looked", desc := "()I" } : Jvm.MethodName)) ∈ zW0 := q_in (List.mem_of_getElem? (i := 748) (by decide +kernel)) (by decide +kernel)
theorem q_749 : (Jvm.Cond.code ({ cls := "BakedBefore", name := "looked", desc := "()I" } : Jvm.MethodName) prog_1_method_25_code (1 : Nat) (Option.some Jvm.ClassFile.FieldType.int)) ∈ zW0 := q_in (List.mem_of_getElem? (i := 749) (by decide +kernel)) (by decide +kernel)
theorem q_750 : (Jvm.Cond.methodLink "BakedBefore" (248 : Nat) ({ cls := "BakedBefore$Aske\x72", name := "firstOtherwise", desc := "()I" } : Jvm.MethodName)) ∈ zW0 := q_in (List.mem_of_getElem? (i := 750) (by decide +kernel)) (by decide +kernel)
theorem q_751 : (Jvm.Cond.instanceMethod ({ cls := "BakedBefore$Aske\x72", name := "firstOtherwise", desc := "()I" } : Jvm.MethodName)) ∈ zW0 := q_in (List.mem_of_getElem? (i := 751) (by decide +kernel)) (by decide +kernel)
theorem q_752 : (Jvm.Cond.selects "BakedBefore$Aske\x72" ({ cls := "BakedBefore$Aske\x72", name := "firstOtherwise", desc := "()I" } : Jvm.MethodName) ({ cls := "BakedBefore$Aske\x72", name := "firstOtherwise", desc := "()I" } : Jvm.MethodName)) ∈ zW0 := q_in (List.mem_of_getElem? (i := 752) (by decide +kernel)) (by decide +kernel)
theorem q_753 : (Jvm.Cond.code ({ cls := "BakedBefore$Aske\x72", name := "firstOtherwise", desc := "()I" } : Jvm.MethodName) prog_3_method_17_code (4 : Nat) (Option.some Jvm.ClassFile.FieldType.int)) ∈ zW0 := q_in (List.mem_of_getElem? (i := 753) (by decide +kernel)) (by decide +kernel)
theorem q_755 : (Jvm.Cond.instanceMethod ({ cls := "BakedBefore", name := "judge", desc := "(II)I" } : Jvm.MethodName)) ∈ zW0 := q_in (List.mem_of_getElem? (i := 755) (by decide +kernel)) (by decide +kernel)
theorem q_756 : (Jvm.Cond.selects "BakedBefore" ({ cls := "BakedBefore", name := "judge", desc := "(II)I" } : Jvm.MethodName) ({ cls := "BakedBefore", name := "judge", desc := "(II)I" } : Jvm.MethodName)) ∈ zW0 := q_in (List.mem_of_getElem? (i := 756) (by decide +kernel)) (by decide +kernel)
theorem q_757 : (Jvm.Cond.code ({ cls := "BakedBefore", name := "judge", desc := "(II)I" } : Jvm.MethodName) prog_1_method_26_code (3 : Nat) (Option.some Jvm.ClassFile.FieldType.int)) ∈ zW0 := q_in (List.mem_of_getElem? (i := 757) (by decide +kernel)) (by decide +kernel)
theorem q_758 : (Jvm.Cond.methodLink "BakedBefore" (252 : Nat) ({ cls := "BakedBefore$Tapes", name := "isTape", desc := "(I)Z" } : Jvm.MethodName)) ∈ zW0 := q_in (List.mem_of_getElem? (i := 758) (by decide +kernel)) (by decide +kernel)
theorem q_759 : (Jvm.Cond.static ({ cls := "BakedBefore$Tapes", name := "isTape", desc := "(I)Z" } : Jvm.MethodName)) ∈ zW0 := q_in (List.mem_of_getElem? (i := 759) (by decide +kernel)) (by decide +kernel)
theorem q_760 : (Jvm.Cond.code ({ cls := "BakedBefore$Tapes", name := "isTape", desc := "(I)Z" } : Jvm.MethodName) prog_12_method_2_code (1 : Nat) (Option.some Jvm.ClassFile.FieldType.boolean)) ∈ zW0 := q_in (List.mem_of_getElem? (i := 760) (by decide +kernel)) (by decide +kernel)
theorem q_761 : (Jvm.Cond.methodLink "BakedBefore" (255 : Nat) ({ cls := "BakedBefore$Tapes", name := "firstUnlike", desc := "(IILBakedBefore$Oven;)I" } : Jvm.MethodName)) ∈ zW0 := q_in (List.mem_of_getElem? (i := 761) (by decide +kernel)) (by decide +kernel)
theorem q_762 : (Jvm.Cond.instanceMethod ({ cls := "BakedBefore$Tapes", name := "firstUnlike", desc := "(IILBakedBefore$Oven;)I" } : Jvm.MethodName)) ∈ zW0 := q_in (List.mem_of_getElem? (i := 762) (by decide +kernel)) (by decide +kernel)
theorem q_763 : (Jvm.Cond.selects "BakedBefore$Tapes" ({ cls := "BakedBefore$Tapes", name := "firstUnlike", desc := "(IILBakedBefore$Oven;)I" } : Jvm.MethodName) ({ cls := "BakedBefore$Tapes", name := "firstUnlike", desc := "(IILBakedBefore$Oven;)I" } : Jvm.MethodName)) ∈ zW0 := q_in (List.mem_of_getElem? (i := 763) (by decide +kernel)) (by decide +kernel)
theorem q_764 : (Jvm.Cond.code ({ cls := "BakedBefore$Tapes", name := "firstUnlike", desc := "(IILBakedBefore$Oven;)I" } : Jvm.MethodName) prog_12_method_8_code (5 : Nat) (Option.some Jvm.ClassFile.FieldType.int)) ∈ zW0 := q_in (List.mem_of_getElem? (i := 764) (by decide +kernel)) (by decide +kernel)
theorem q_766 : (Jvm.Cond.instanceMethod ({ cls := "BakedBefore", name := "image", desc := "()I" } : Jvm.MethodName)) ∈ zW0 := q_in (List.mem_of_getElem? (i := 766) (by decide +kernel)) (by decide +kernel)
theorem q_767 : (Jvm.Cond.selects "BakedBefore" ({ cls := "BakedBefore", name := "image", desc := "()I" } : Jvm.MethodName) ({ cls := "BakedBefore", name := "image", desc := "()I" } : Jvm.MethodName)) ∈ zW0 := q_in (List.mem_of_getElem? (i := 767) (by decide +kernel)) (by decide +kernel)
theorem q_768 : (Jvm.Cond.code ({ cls := "BakedBefore", name := "image", desc := "()I" } : Jvm.MethodName) prog_1_method_27_code (1 : Nat) (Option.some Jvm.ClassFile.FieldType.int)) ∈ zW0 := q_in (List.mem_of_getElem? (i := 768) (by decide +kernel)) (by decide +kernel)
theorem q_769 : (Jvm.Cond.methodLink "BakedBefore" (259 : Nat) ({ cls := "BakedBefore$Stand", name := "become", desc := "(LBakedBefore$Stand;)V" } : Jvm.MethodName)) ∈ zW0 := q_in (List.mem_of_getElem? (i := 769) (by decide +kernel)) (by decide +kernel)
theorem q_770 : (Jvm.Cond.instanceMethod ({ cls := "BakedBefore$Stand", name := "become", desc := "(LBakedBefore$Stand;)V" } : Jvm.MethodName)) ∈ zW0 := q_in (List.mem_of_getElem? (i := 770) (by decide +kernel)) (by decide +kernel)
theorem q_771 : (Jvm.Cond.selects "BakedBefore$Stand" ({ cls := "BakedBefore$Stand", name := "become", desc := "(LBakedBefore$Stand;)V" } : Jvm.MethodName) ({ cls := "BakedBefore$Stand", name := "become", desc := "(LBakedBefore$Stand;)V" } : Jvm.MethodName)) ∈ zW0 := q_in (List.mem_of_getElem? (i := 771) (by decide +kernel)) (by decide +kernel)
theorem q_772 : (Jvm.Cond.code ({ cls := "BakedBefore$Stand", name := "become", desc := "(LBakedBefore$Stand;)V" } : Jvm.MethodName) prog_11_method_2_code (3 : Nat) (Option.none : Option Jvm.ClassFile.FieldType)) ∈ zW0 := q_in (List.mem_of_getElem? (i := 772) (by decide +kernel)) (by decide +kernel)
theorem q_773 : (Jvm.Cond.methodLink "BakedBefore$Stand" (41 : Nat) ({ cls := "BakedBefore$Loaf", name := "become", desc := "(LBakedBefore$Loaf;)V" } : Jvm.MethodName)) ∈ zW0 := q_in (List.mem_of_getElem? (i := 773) (by decide +kernel)) (by decide +kernel)
theorem q_774 : (Jvm.Cond.instanceMethod ({ cls := "BakedBefore$Loaf", name := "become", desc := "(LBakedBefore$Loaf;)V" } : Jvm.MethodName)) ∈ zW0 := q_in (List.mem_of_getElem? (i := 774) (by decide +kernel)) (by decide +kernel)
theorem q_775 : (Jvm.Cond.selects "BakedBefore$Loaf" ({ cls := "BakedBefore$Loaf", name := "become", desc := "(LBakedBefore$Loaf;)V" } : Jvm.MethodName) ({ cls := "BakedBefore$Loaf", name := "become", desc := "(LBakedBefore$Loaf;)V" } : Jvm.MethodName)) ∈ zW0 := q_in (List.mem_of_getElem? (i := 775) (by decide +kernel)) (by decide +kernel)
theorem q_776 : (Jvm.Cond.code ({ cls := "BakedBefore$Loaf", name := "become", desc := "(LBakedBefore$Loaf;)V" } : Jvm.MethodName) prog_7_method_3_code (3 : Nat) (Option.none : Option Jvm.ClassFile.FieldType)) ∈ zW0 := q_in (List.mem_of_getElem? (i := 776) (by decide +kernel)) (by decide +kernel)
theorem q_777 : (Jvm.Cond.methodLink "BakedBefore$Stand" (45 : Nat) ({ cls := "BakedBefore$Oven", name := "become", desc := "(LBakedBefore$Oven;)V" } : Jvm.MethodName)) ∈ zW0 := q_in (List.mem_of_getElem? (i := 777) (by decide +kernel)) (by decide +kernel)
theorem q_778 : (Jvm.Cond.methodLink "BakedBefore$Stand" (48 : Nat) ({ cls := "BakedBefore$Book", name := "become", desc := "(LBakedBefore$Book;)V" } : Jvm.MethodName)) ∈ zW0 := q_in (List.mem_of_getElem? (i := 778) (by decide +kernel)) (by decide +kernel)
theorem q_779 : (Jvm.Cond.instanceMethod ({ cls := "BakedBefore$Book", name := "become", desc := "(LBakedBefore$Book;)V" } : Jvm.MethodName)) ∈ zW0 := q_in (List.mem_of_getElem? (i := 779) (by decide +kernel)) (by decide +kernel)
theorem q_780 : (Jvm.Cond.selects "BakedBefore$Book" ({ cls := "BakedBefore$Book", name := "become", desc := "(LBakedBefore$Book;)V" } : Jvm.MethodName) ({ cls := "BakedBefore$Book", name := "become", desc := "(LBakedBefore$Book;)V" } : Jvm.MethodName)) ∈ zW0 := q_in (List.mem_of_getElem? (i := 780) (by decide +kernel)) (by decide +kernel)
theorem q_781 : (Jvm.Cond.code ({ cls := "BakedBefore$Book", name := "become", desc := "(LBakedBefore$Book;)V" } : Jvm.MethodName) prog_5_method_3_code (3 : Nat) (Option.none : Option Jvm.ClassFile.FieldType)) ∈ zW0 := q_in (List.mem_of_getElem? (i := 781) (by decide +kernel)) (by decide +kernel)
theorem q_783 : (Jvm.Cond.instanceMethod ({ cls := "BakedBefore", name := "undo", desc := "()I" } : Jvm.MethodName)) ∈ zW0 := q_in (List.mem_of_getElem? (i := 783) (by decide +kernel)) (by decide +kernel)
theorem q_784 : (Jvm.Cond.selects "BakedBefore" ({ cls := "BakedBefore", name := "undo", desc := "()I" } : Jvm.MethodName) ({ cls := "BakedBefore", name := "undo", desc := "()I" } : Jvm.MethodName)) ∈ zW0 := q_in (List.mem_of_getElem? (i := 784) (by decide +kernel)) (by decide +kernel)
theorem q_785 : (Jvm.Cond.code ({ cls := "BakedBefore", name := "undo", desc := "()I" } : Jvm.MethodName) prog_1_method_28_code (1 : Nat) (Option.some Jvm.ClassFile.FieldType.int)) ∈ zW0 := q_in (List.mem_of_getElem? (i := 785) (by decide +kernel)) (by decide +kernel)
theorem q_787 : (Jvm.Cond.instanceMethod ({ cls := "BakedBefore", name := "act", desc := "(III)I" } : Jvm.MethodName)) ∈ zW0 := q_in (List.mem_of_getElem? (i := 787) (by decide +kernel)) (by decide +kernel)
theorem q_788 : (Jvm.Cond.selects "BakedBefore" ({ cls := "BakedBefore", name := "act", desc := "(III)I" } : Jvm.MethodName) ({ cls := "BakedBefore", name := "act", desc := "(III)I" } : Jvm.MethodName)) ∈ zW0 := q_in (List.mem_of_getElem? (i := 788) (by decide +kernel)) (by decide +kernel)
theorem q_789 : (Jvm.Cond.code ({ cls := "BakedBefore", name := "act", desc := "(III)I" } : Jvm.MethodName) prog_1_method_29_code (4 : Nat) (Option.some Jvm.ClassFile.FieldType.int)) ∈ zW0 := q_in (List.mem_of_getElem? (i := 789) (by decide +kernel)) (by decide +kernel)
theorem q_790 : (Jvm.Cond.methodLink "BakedBefore" (270 : Nat) ({ cls := "BakedBefore$Acts", name := "play", desc := "(LBakedBefore$Loaf;II)I" } : Jvm.MethodName)) ∈ zW0 := q_in (List.mem_of_getElem? (i := 790) (by decide +kernel)) (by decide +kernel)
theorem q_791 : (Jvm.Cond.instanceMethod ({ cls := "BakedBefore$Acts", name := "play", desc := "(LBakedBefore$Loaf;II)I" } : Jvm.MethodName)) ∈ zW0 := q_in (List.mem_of_getElem? (i := 791) (by decide +kernel)) (by decide +kernel)
theorem q_792 : (Jvm.Cond.selects "BakedBefore$Acts" ({ cls := "BakedBefore$Acts", name := "play", desc := "(LBakedBefore$Loaf;II)I" } : Jvm.MethodName) ({ cls := "BakedBefore$Acts", name := "play", desc := "(LBakedBefore$Loaf;II)I" } : Jvm.MethodName)) ∈ zW0 := q_in (List.mem_of_getElem? (i := 792) (by decide +kernel)) (by decide +kernel)
theorem q_793 : (Jvm.Cond.code ({ cls := "BakedBefore$Acts", name := "play", desc := "(LBakedBefore$Loaf;II)I" } : Jvm.MethodName) prog_2_method_2_code (4 : Nat) (Option.some Jvm.ClassFile.FieldType.int)) ∈ zW0 := q_in (List.mem_of_getElem? (i := 793) (by decide +kernel)) (by decide +kernel)
theorem q_794 : (Jvm.Cond.methodLink "BakedBefore$Acts" (24 : Nat) ({ cls := "BakedBefore$Acts", name := "run", desc := "(LBakedBefore$Acts;LBakedBefore$Loaf;IIII)I" } : Jvm.MethodName)) ∈ zW0 := q_in (List.mem_of_getElem? (i := 794) (by decide +kernel)) (by decide +kernel)
theorem q_795 : (Jvm.Cond.static ({ cls := "BakedBefore$Acts", name := "run", desc := "(LBakedBefore$Acts;LBakedBefore$Loaf;IIII)I" } : Jvm.MethodName)) ∈ zW0 := q_in (List.mem_of_getElem? (i := 795) (by decide +kernel)) (by decide +kernel)
theorem q_796 : (Jvm.Cond.code ({ cls := "BakedBefore$Acts", name := "run", desc := "(LBakedBefore$Acts;LBakedBefore$Loaf;IIII)I" } : Jvm.MethodName) prog_2_method_3_code (10 : Nat) (Option.some Jvm.ClassFile.FieldType.int)) ∈ zW0 := q_in (List.mem_of_getElem? (i := 796) (by decide +kernel)) (by decide +kernel)
theorem q_797 : (Jvm.Cond.methodLink "BakedBefore$Acts" (28 : Nat) ({ cls := "BakedBefore$Acts", name := "bodyOf", desc := "(II)I" } : Jvm.MethodName)) ∈ zW0 := q_in (List.mem_of_getElem? (i := 797) (by decide +kernel)) (by decide +kernel)
theorem q_798 : (Jvm.Cond.static ({ cls := "BakedBefore$Acts", name := "bodyOf", desc := "(II)I" } : Jvm.MethodName)) ∈ zW0 := q_in (List.mem_of_getElem? (i := 798) (by decide +kernel)) (by decide +kernel)
theorem q_799 : (Jvm.Cond.code ({ cls := "BakedBefore$Acts", name := "bodyOf", desc := "(II)I" } : Jvm.MethodName) prog_2_method_4_code (4 : Nat) (Option.some Jvm.ClassFile.FieldType.int)) ∈ zW0 := q_in (List.mem_of_getElem? (i := 799) (by decide +kernel)) (by decide +kernel)
theorem q_800 : (Jvm.Cond.fieldLink "BakedBefore$Acts" (50 : Nat) "BakedBefore$Acts" "BODIES" "[I") ∈ zW0 := q_in (List.mem_of_getElem? (i := 800) (by decide +kernel)) (by decide +kernel)
theorem q_804 : (Jvm.Cond.methodLink "BakedBefore$Acts" (32 : Nat) ({ cls := "BakedBefore$Acts", name := "note", desc := "(I)V" } : Jvm.MethodName)) ∈ zW0 := q_in (List.mem_of_getElem? (i := 804) (by decide +kernel)) (by decide +kernel)
theorem q_806 : (Jvm.Cond.instanceMethod ({ cls := "BakedBefore$Acts", name := "note", desc := "(I)V" } : Jvm.MethodName)) ∈ zW0 := q_in (List.mem_of_getElem? (i := 806) (by decide +kernel)) (by decide +kernel)
theorem q_807 : (Jvm.Cond.code ({ cls := "BakedBefore$Acts", name := "note", desc := "(I)V" } : Jvm.MethodName) prog_2_method_5_code (2 : Nat) (Option.none : Option Jvm.ClassFile.FieldType)) ∈ zW0 := q_in (List.mem_of_getElem? (i := 807) (by decide +kernel)) (by decide +kernel)
theorem q_808 : (Jvm.Cond.methodLink "BakedBefore$Acts" (39 : Nat) ({ cls := "java/lang/Math", name := "max", desc := "(II)I" } : Jvm.MethodName)) ∈ zW0 := q_in (List.mem_of_getElem? (i := 808) (by decide +kernel)) (by decide +kernel)
theorem q_810 : (Jvm.Cond.instanceMethod ({ cls := "BakedBefore", name := "trace", desc := "(I)I" } : Jvm.MethodName)) ∈ zW0 := q_in (List.mem_of_getElem? (i := 810) (by decide +kernel)) (by decide +kernel)
theorem q_811 : (Jvm.Cond.selects "BakedBefore" ({ cls := "BakedBefore", name := "trace", desc := "(I)I" } : Jvm.MethodName) ({ cls := "BakedBefore", name := "trace", desc := "(I)I" } : Jvm.MethodName)) ∈ zW0 := q_in (List.mem_of_getElem? (i := 811) (by decide +kernel)) (by decide +kernel)
theorem q_812 : (Jvm.Cond.code ({ cls := "BakedBefore", name := "trace", desc := "(I)I" } : Jvm.MethodName) prog_1_method_30_code (2 : Nat) (Option.some Jvm.ClassFile.FieldType.int)) ∈ zW0 := q_in (List.mem_of_getElem? (i := 812) (by decide +kernel)) (by decide +kernel)
theorem q_814 : (Jvm.Cond.instanceMethod ({ cls := "BakedBefore", name := "taken", desc := "(II)I" } : Jvm.MethodName)) ∈ zW0 := q_in (List.mem_of_getElem? (i := 814) (by decide +kernel)) (by decide +kernel)
theorem q_815 : (Jvm.Cond.selects "BakedBefore" ({ cls := "BakedBefore", name := "taken", desc := "(II)I" } : Jvm.MethodName) ({ cls := "BakedBefore", name := "taken", desc := "(II)I" } : Jvm.MethodName)) ∈ zW0 := q_in (List.mem_of_getElem? (i := 815) (by decide +kernel)) (by decide +kernel)
theorem q_816 : (Jvm.Cond.code ({ cls := "BakedBefore", name := "taken", desc := "(II)I" } : Jvm.MethodName) prog_1_method_31_code (3 : Nat) (Option.some Jvm.ClassFile.FieldType.int)) ∈ zW0 := q_in (List.mem_of_getElem? (i := 816) (by decide +kernel)) (by decide +kernel)
theorem q_817 : (Jvm.Cond.methodLink "BakedBefore" (276 : Nat) ({ cls := "BakedBefore$Loaf", name := "isUnde\x72", desc := "(I)Z" } : Jvm.MethodName)) ∈ zW0 := q_in (List.mem_of_getElem? (i := 817) (by decide +kernel)) (by decide +kernel)
theorem q_818 : (Jvm.Cond.instanceMethod ({ cls := "BakedBefore$Loaf", name := "isUnde\x72", desc := "(I)Z" } : Jvm.MethodName)) ∈ zW0 := q_in (List.mem_of_getElem? (i := 818) (by decide +kernel)) (by decide +kernel)
theorem q_819 : (Jvm.Cond.selects "BakedBefore$Loaf" ({ cls := "BakedBefore$Loaf", name := "isUnde\x72", desc := "(I)Z" } : Jvm.MethodName) ({ cls := "BakedBefore$Loaf", name := "isUnde\x72", desc := "(I)Z" } : Jvm.MethodName)) ∈ zW0 := q_in (List.mem_of_getElem? (i := 819) (by decide +kernel)) (by decide +kernel)
theorem q_820 : (Jvm.Cond.code ({ cls := "BakedBefore$Loaf", name := "isUnde\x72", desc := "(I)Z" } : Jvm.MethodName) prog_7_method_4_code (4 : Nat) (Option.some Jvm.ClassFile.FieldType.boolean)) ∈ zW0 := q_in (List.mem_of_getElem? (i := 820) (by decide +kernel)) (by decide +kernel)
theorem q_823 : (Jvm.Cond.instanceMethod ({ cls := "BakedBefore", name := "count", desc := "(I)I" } : Jvm.MethodName)) ∈ zW0 := q_in (List.mem_of_getElem? (i := 823) (by decide +kernel)) (by decide +kernel)
theorem q_824 : (Jvm.Cond.selects "BakedBefore" ({ cls := "BakedBefore", name := "count", desc := "(I)I" } : Jvm.MethodName) ({ cls := "BakedBefore", name := "count", desc := "(I)I" } : Jvm.MethodName)) ∈ zW0 := q_in (List.mem_of_getElem? (i := 824) (by decide +kernel)) (by decide +kernel)
theorem q_825 : (Jvm.Cond.code ({ cls := "BakedBefore", name := "count", desc := "(I)I" } : Jvm.MethodName) prog_1_method_32_code (2 : Nat) (Option.some Jvm.ClassFile.FieldType.int)) ∈ zW0 := q_in (List.mem_of_getElem? (i := 825) (by decide +kernel)) (by decide +kernel)
theorem q_827 : (Jvm.Cond.instanceMethod ({ cls := "BakedBefore", name := "tape", desc := "(III)I" } : Jvm.MethodName)) ∈ zW0 := q_in (List.mem_of_getElem? (i := 827) (by decide +kernel)) (by decide +kernel)
theorem q_828 : (Jvm.Cond.selects "BakedBefore" ({ cls := "BakedBefore", name := "tape", desc := "(III)I" } : Jvm.MethodName) ({ cls := "BakedBefore", name := "tape", desc := "(III)I" } : Jvm.MethodName)) ∈ zW0 := q_in (List.mem_of_getElem? (i := 828) (by decide +kernel)) (by decide +kernel)
theorem q_829 : (Jvm.Cond.code ({ cls := "BakedBefore", name := "tape", desc := "(III)I" } : Jvm.MethodName) prog_1_method_33_code (4 : Nat) (Option.some Jvm.ClassFile.FieldType.int)) ∈ zW0 := q_in (List.mem_of_getElem? (i := 829) (by decide +kernel)) (by decide +kernel)
theorem q_830 : (Jvm.Cond.methodLink "BakedBefore" (280 : Nat) ({ cls := "BakedBefore$Tapes", name := "begin", desc := "(III)I" } : Jvm.MethodName)) ∈ zW0 := q_in (List.mem_of_getElem? (i := 830) (by decide +kernel)) (by decide +kernel)
theorem q_831 : (Jvm.Cond.instanceMethod ({ cls := "BakedBefore$Tapes", name := "begin", desc := "(III)I" } : Jvm.MethodName)) ∈ zW0 := q_in (List.mem_of_getElem? (i := 831) (by decide +kernel)) (by decide +kernel)
theorem q_832 : (Jvm.Cond.selects "BakedBefore$Tapes" ({ cls := "BakedBefore$Tapes", name := "begin", desc := "(III)I" } : Jvm.MethodName) ({ cls := "BakedBefore$Tapes", name := "begin", desc := "(III)I" } : Jvm.MethodName)) ∈ zW0 := q_in (List.mem_of_getElem? (i := 832) (by decide +kernel)) (by decide +kernel)
theorem q_833 : (Jvm.Cond.code ({ cls := "BakedBefore$Tapes", name := "begin", desc := "(III)I" } : Jvm.MethodName) prog_12_method_3_code (5 : Nat) (Option.some Jvm.ClassFile.FieldType.int)) ∈ zW0 := q_in (List.mem_of_getElem? (i := 833) (by decide +kernel)) (by decide +kernel)
theorem q_835 : (Jvm.Cond.instanceMethod ({ cls := "BakedBefore", name := "item", desc := "(IIJ)I" } : Jvm.MethodName)) ∈ zW0 := q_in (List.mem_of_getElem? (i := 835) (by decide +kernel)) (by decide +kernel)
theorem q_836 : (Jvm.Cond.selects "BakedBefore" ({ cls := "BakedBefore", name := "item", desc := "(IIJ)I" } : Jvm.MethodName) ({ cls := "BakedBefore", name := "item", desc := "(IIJ)I" } : Jvm.MethodName)) ∈ zW0 := q_in (List.mem_of_getElem? (i := 836) (by decide +kernel)) (by decide +kernel)
theorem q_837 : (Jvm.Cond.code ({ cls := "BakedBefore", name := "item", desc := "(IIJ)I" } : Jvm.MethodName) prog_1_method_34_code (5 : Nat) (Option.some Jvm.ClassFile.FieldType.int)) ∈ zW0 := q_in (List.mem_of_getElem? (i := 837) (by decide +kernel)) (by decide +kernel)
theorem q_838 : (Jvm.Cond.methodLink "BakedBefore" (282 : Nat) ({ cls := "BakedBefore$Tapes", name := "write", desc := "(IIJ)I" } : Jvm.MethodName)) ∈ zW0 := q_in (List.mem_of_getElem? (i := 838) (by decide +kernel)) (by decide +kernel)
theorem q_839 : (Jvm.Cond.instanceMethod ({ cls := "BakedBefore$Tapes", name := "write", desc := "(IIJ)I" } : Jvm.MethodName)) ∈ zW0 := q_in (List.mem_of_getElem? (i := 839) (by decide +kernel)) (by decide +kernel)
theorem q_840 : (Jvm.Cond.selects "BakedBefore$Tapes" ({ cls := "BakedBefore$Tapes", name := "write", desc := "(IIJ)I" } : Jvm.MethodName) ({ cls := "BakedBefore$Tapes", name := "write", desc := "(IIJ)I" } : Jvm.MethodName)) ∈ zW0 := q_in (List.mem_of_getElem? (i := 840) (by decide +kernel)) (by decide +kernel)
theorem q_841 : (Jvm.Cond.code ({ cls := "BakedBefore$Tapes", name := "write", desc := "(IIJ)I" } : Jvm.MethodName) prog_12_method_4_code (5 : Nat) (Option.some Jvm.ClassFile.FieldType.int)) ∈ zW0 := q_in (List.mem_of_getElem? (i := 841) (by decide +kernel)) (by decide +kernel)
theorem q_842 : (Jvm.Cond.methodLink "BakedBefore$Tapes" (23 : Nat) ({ cls := "BakedBefore$Tapes", name := "asItem", desc := "(IJ)J" } : Jvm.MethodName)) ∈ zW0 := q_in (List.mem_of_getElem? (i := 842) (by decide +kernel)) (by decide +kernel)
theorem q_843 : (Jvm.Cond.static ({ cls := "BakedBefore$Tapes", name := "asItem", desc := "(IJ)J" } : Jvm.MethodName)) ∈ zW0 := q_in (List.mem_of_getElem? (i := 843) (by decide +kernel)) (by decide +kernel)
theorem q_844 : (Jvm.Cond.code ({ cls := "BakedBefore$Tapes", name := "asItem", desc := "(IJ)J" } : Jvm.MethodName) prog_12_method_5_code (3 : Nat) (Option.some Jvm.ClassFile.FieldType.long)) ∈ zW0 := q_in (List.mem_of_getElem? (i := 844) (by decide +kernel)) (by decide +kernel)
theorem q_846 : (Jvm.Cond.instanceMethod ({ cls := "BakedBefore", name := "read", desc := "(II)J" } : Jvm.MethodName)) ∈ zW0 := q_in (List.mem_of_getElem? (i := 846) (by decide +kernel)) (by decide +kernel)
theorem q_847 : (Jvm.Cond.selects "BakedBefore" ({ cls := "BakedBefore", name := "read", desc := "(II)J" } : Jvm.MethodName) ({ cls := "BakedBefore", name := "read", desc := "(II)J" } : Jvm.MethodName)) ∈ zW0 := q_in (List.mem_of_getElem? (i := 847) (by decide +kernel)) (by decide +kernel)
theorem q_848 : (Jvm.Cond.code ({ cls := "BakedBefore", name := "read", desc := "(II)J" } : Jvm.MethodName) prog_1_method_35_code (3 : Nat) (Option.some Jvm.ClassFile.FieldType.long)) ∈ zW0 := q_in (List.mem_of_getElem? (i := 848) (by decide +kernel)) (by decide +kernel)
theorem q_849 : (Jvm.Cond.methodLink "BakedBefore" (286 : Nat) ({ cls := "BakedBefore$Tapes", name := "valueAt", desc := "(II)J" } : Jvm.MethodName)) ∈ zW0 := q_in (List.mem_of_getElem? (i := 849) (by decide +kernel)) (by decide +kernel)
theorem q_850 : (Jvm.Cond.instanceMethod ({ cls := "BakedBefore$Tapes", name := "valueAt", desc := "(II)J" } : Jvm.MethodName)) ∈ zW0 := q_in (List.mem_of_getElem? (i := 850) (by decide +kernel)) (by decide +kernel)
theorem q_851 : (Jvm.Cond.selects "BakedBefore$Tapes" ({ cls := "BakedBefore$Tapes", name := "valueAt", desc := "(II)J" } : Jvm.MethodName) ({ cls := "BakedBefore$Tapes", name := "valueAt", desc := "(II)J" } : Jvm.MethodName)) ∈ zW0 := q_in (List.mem_of_getElem? (i := 851) (by decide +kernel)) (by decide +kernel)
theorem q_852 : (Jvm.Cond.code ({ cls := "BakedBefore$Tapes", name := "valueAt", desc := "(II)J" } : Jvm.MethodName) prog_12_method_6_code (3 : Nat) (Option.some Jvm.ClassFile.FieldType.long)) ∈ zW0 := q_in (List.mem_of_getElem? (i := 852) (by decide +kernel)) (by decide +kernel)
theorem q_853 : (Jvm.Cond.constantLong "BakedBefore$Tapes" (27 : Nat) (-9223372036854775808 : Int64)) ∈ zW0 := q_in (List.mem_of_getElem? (i := 853) (by decide +kernel)) (by decide +kernel)
theorem q_855 : (Jvm.Cond.instanceMethod ({ cls := "BakedBefore", name := "shift", desc := "(IIIII)I" } : Jvm.MethodName)) ∈ zW0 := q_in (List.mem_of_getElem? (i := 855) (by decide +kernel)) (by decide +kernel)
theorem q_856 : (Jvm.Cond.selects "BakedBefore" ({ cls := "BakedBefore", name := "shift", desc := "(IIIII)I" } : Jvm.MethodName) ({ cls := "BakedBefore", name := "shift", desc := "(IIIII)I" } : Jvm.MethodName)) ∈ zW0 := q_in (List.mem_of_getElem? (i := 856) (by decide +kernel)) (by decide +kernel)
theorem q_857 : (Jvm.Cond.code ({ cls := "BakedBefore", name := "shift", desc := "(IIIII)I" } : Jvm.MethodName) prog_1_method_36_code (6 : Nat) (Option.some Jvm.ClassFile.FieldType.int)) ∈ zW0 := q_in (List.mem_of_getElem? (i := 857) (by decide +kernel)) (by decide +kernel)
theorem q_858 : (Jvm.Cond.methodLink "BakedBefore" (290 : Nat) ({ cls := "BakedBefore$Tapes", name := "move", desc := "(IIIII)I" } : Jvm.MethodName)) ∈ zW0 := q_in (List.mem_of_getElem? (i := 858) (by decide +kernel)) (by decide +kernel)
theorem q_859 : (Jvm.Cond.instanceMethod ({ cls := "BakedBefore$Tapes", name := "move", desc := "(IIIII)I" } : Jvm.MethodName)) ∈ zW0 := q_in (List.mem_of_getElem? (i := 859) (by decide +kernel)) (by decide +kernel)
theorem q_860 : (Jvm.Cond.selects "BakedBefore$Tapes" ({ cls := "BakedBefore$Tapes", name := "move", desc := "(IIIII)I" } : Jvm.MethodName) ({ cls := "BakedBefore$Tapes", name := "move", desc := "(IIIII)I" } : Jvm.MethodName)) ∈ zW0 := q_in (List.mem_of_getElem? (i := 860) (by decide +kernel)) (by decide +kernel)
theorem q_861 : (Jvm.Cond.code ({ cls := "BakedBefore$Tapes", name := "move", desc := "(IIIII)I" } : Jvm.MethodName) prog_12_method_7_code (6 : Nat) (Option.some Jvm.ClassFile.FieldType.int)) ∈ zW0 := q_in (List.mem_of_getElem? (i := 861) (by decide +kernel)) (by decide +kernel)
theorem q_862 : (Jvm.Cond.methodLink "BakedBefore$Tapes" (29 : Nat) ({ cls := "java/lang/System", name := "arraycopy", desc := "(Ljava/lang/Object;ILjava/lang/Object;II)V" } : Jvm.MethodName)) ∈ zW0 := q_in (List.mem_of_getElem? (i := 862) (by decide +kernel)) (by decide +kernel)
theorem q_871 : (Jvm.Cond.fieldLink "BakedBeforeModel" (11 : Nat) "BakedBeforeModel" "s" "[I") ∈ zW0 := q_in (List.mem_of_getElem? (i := 871) (by decide +kernel)) (by decide +kernel)
theorem q_872 : (Jvm.Cond.fieldLink "BakedBeforeModel" (15 : Nat) "BakedBeforeModel" "image" "[I") ∈ zW0 := q_in (List.mem_of_getElem? (i := 872) (by decide +kernel)) (by decide +kernel)
theorem q_873 : (Jvm.Cond.fieldLink "BakedBeforeModel" (18 : Nat) "BakedBeforeModel" "mind" "[I") ∈ zW0 := q_in (List.mem_of_getElem? (i := 873) (by decide +kernel)) (by decide +kernel)
theorem q_874 : (Jvm.Cond.fieldLink "BakedBeforeModel" (278 : Nat) "BakedBeforeModel" "hasImage" "Z") ∈ zW0 := q_in (List.mem_of_getElem? (i := 874) (by decide +kernel)) (by decide +kernel)
theorem q_875 : (Jvm.Cond.fieldLink "BakedBeforeModel" (21 : Nat) "BakedBeforeModel" "text" "[I") ∈ zW0 := q_in (List.mem_of_getElem? (i := 875) (by decide +kernel)) (by decide +kernel)
theorem q_876 : (Jvm.Cond.fieldLink "BakedBeforeModel" (24 : Nat) "BakedBeforeModel" "kilnText" "[I") ∈ zW0 := q_in (List.mem_of_getElem? (i := 876) (by decide +kernel)) (by decide +kernel)
theorem q_877 : (Jvm.Cond.fieldLink "BakedBeforeModel" (27 : Nat) "BakedBeforeModel" "kilnLong" "[I") ∈ zW0 := q_in (List.mem_of_getElem? (i := 877) (by decide +kernel)) (by decide +kernel)
theorem q_878 : (Jvm.Cond.fieldLink "BakedBeforeModel" (64 : Nat) "BakedBeforeModel" "texted" "I") ∈ zW0 := q_in (List.mem_of_getElem? (i := 878) (by decide +kernel)) (by decide +kernel)
theorem q_879 : (Jvm.Cond.fieldLink "BakedBeforeModel" (173 : Nat) "BakedBeforeModel" "kilns" "I") ∈ zW0 := q_in (List.mem_of_getElem? (i := 879) (by decide +kernel)) (by decide +kernel)
theorem q_880 : (Jvm.Cond.fieldLink "BakedBeforeModel" (74 : Nat) "BakedBeforeModel" "base" "I") ∈ zW0 := q_in (List.mem_of_getElem? (i := 880) (by decide +kernel)) (by decide +kernel)
theorem q_881 : (Jvm.Cond.fieldLink "BakedBeforeModel" (71 : Nat) "BakedBeforeModel" "end" "I") ∈ zW0 := q_in (List.mem_of_getElem? (i := 881) (by decide +kernel)) (by decide +kernel)
theorem q_882 : (Jvm.Cond.fieldLink "BakedBeforeModel" (68 : Nat) "BakedBeforeModel" "at" "I") ∈ zW0 := q_in (List.mem_of_getElem? (i := 882) (by decide +kernel)) (by decide +kernel)
theorem q_883 : (Jvm.Cond.fieldLink "BakedBeforeModel" (89 : Nat) "BakedBeforeModel" "loaf" "I") ∈ zW0 := q_in (List.mem_of_getElem? (i := 883) (by decide +kernel)) (by decide +kernel)
theorem q_884 : (Jvm.Cond.fieldLink "BakedBeforeModel" (99 : Nat) "BakedBeforeModel" "taste" "I") ∈ zW0 := q_in (List.mem_of_getElem? (i := 884) (by decide +kernel)) (by decide +kernel)
theorem q_885 : (Jvm.Cond.fieldLink "BakedBeforeModel" (77 : Nat) "BakedBeforeModel" "wrong" "Z") ∈ zW0 := q_in (List.mem_of_getElem? (i := 885) (by decide +kernel)) (by decide +kernel)
theorem q_886 : (Jvm.Cond.fieldLink "BakedBeforeModel" (96 : Nat) "BakedBeforeModel" "isFee" "Z") ∈ zW0 := q_in (List.mem_of_getElem? (i := 886) (by decide +kernel)) (by decide +kernel)
theorem q_887 : (Jvm.Cond.fieldLink "BakedBeforeModel" (157 : Nat) "BakedBeforeModel" "part" "I") ∈ zW0 := q_in (List.mem_of_getElem? (i := 887) (by decide +kernel)) (by decide +kernel)
theorem q_888 : (Jvm.Cond.fieldLink "BakedBeforeModel" (154 : Nat) "BakedBeforeModel" "parts" "I") ∈ zW0 := q_in (List.mem_of_getElem? (i := 888) (by decide +kernel)) (by decide +kernel)
theorem q_889 : (Jvm.Cond.fieldLink "BakedBeforeModel" (160 : Nat) "BakedBeforeModel" "more" "I") ∈ zW0 := q_in (List.mem_of_getElem? (i := 889) (by decide +kernel)) (by decide +kernel)
theorem q_890 : (Jvm.Cond.fieldLink "BakedBeforeModel" (151 : Nat) "BakedBeforeModel" "cold" "I") ∈ zW0 := q_in (List.mem_of_getElem? (i := 890) (by decide +kernel)) (by decide +kernel)
theorem q_891 : (Jvm.Cond.fieldLink "BakedBeforeModel" (163 : Nat) "BakedBeforeModel" "fee" "I") ∈ zW0 := q_in (List.mem_of_getElem? (i := 891) (by decide +kernel)) (by decide +kernel)
theorem q_892 : (Jvm.Cond.fieldLink "BakedBeforeModel" (30 : Nat) "BakedBeforeModel" "held" "[I") ∈ zW0 := q_in (List.mem_of_getElem? (i := 892) (by decide +kernel)) (by decide +kernel)
theorem q_893 : (Jvm.Cond.fieldLink "BakedBeforeModel" (33 : Nat) "BakedBeforeModel" "line" "[I") ∈ zW0 := q_in (List.mem_of_getElem? (i := 893) (by decide +kernel)) (by decide +kernel)
theorem q_894 : (Jvm.Cond.fieldLink "BakedBeforeModel" (36 : Nat) "BakedBeforeModel" "best" "[I") ∈ zW0 := q_in (List.mem_of_getElem? (i := 894) (by decide +kernel)) (by decide +kernel)
theorem q_895 : (Jvm.Cond.fieldLink "BakedBeforeModel" (223 : Nat) "BakedBeforeModel" "fewest" "I") ∈ zW0 := q_in (List.mem_of_getElem? (i := 895) (by decide +kernel)) (by decide +kernel)
theorem q_896 : (Jvm.Cond.fieldLink "BakedBeforeModel" (39 : Nat) "BakedBeforeModel" "tapeSort" "[I") ∈ zW0 := q_in (List.mem_of_getElem? (i := 896) (by decide +kernel)) (by decide +kernel)
theorem q_897 : (Jvm.Cond.fieldLink "BakedBeforeModel" (42 : Nat) "BakedBeforeModel" "tapeLong" "[I") ∈ zW0 := q_in (List.mem_of_getElem? (i := 897) (by decide +kernel)) (by decide +kernel)
theorem q_898 : (Jvm.Cond.fieldLink "BakedBeforeModel" (45 : Nat) "BakedBeforeModel" "item" "[J") ∈ zW0 := q_in (List.mem_of_getElem? (i := 898) (by decide +kernel)) (by decide +kernel)
theorem q_899 : (Jvm.Cond.fieldLink "BakedBeforeModel" (49 : Nat) "BakedBeforeModel" "trace" "[I") ∈ zW0 := q_in (List.mem_of_getElem? (i := 899) (by decide +kernel)) (by decide +kernel)
theorem q_900 : (Jvm.Cond.fieldLink "BakedBeforeModel" (281 : Nat) "BakedBeforeModel" "ran" "I") ∈ zW0 := q_in (List.mem_of_getElem? (i := 900) (by decide +kernel)) (by decide +kernel)
theorem q_901 : (Jvm.Cond.fieldLink "BakedBeforeModel" (291 : Nat) "BakedBeforeModel" "own" "I") ∈ zW0 := q_in (List.mem_of_getElem? (i := 901) (by decide +kernel)) (by decide +kernel)
theorem q_966 : (Jvm.Cond.instanceMethod ({ cls := "BakedBeforeModel", name := "feed", desc := "(I)I" } : Jvm.MethodName)) ∈ zW0 := q_in (List.mem_of_getElem? (i := 966) (by decide +kernel)) (by decide +kernel)
theorem q_967 : (Jvm.Cond.selects "BakedBeforeModel" ({ cls := "BakedBeforeModel", name := "feed", desc := "(I)I" } : Jvm.MethodName) ({ cls := "BakedBeforeModel", name := "feed", desc := "(I)I" } : Jvm.MethodName)) ∈ zW0 := q_in (List.mem_of_getElem? (i := 967) (by decide +kernel)) (by decide +kernel)
theorem q_968 : (Jvm.Cond.code ({ cls := "BakedBeforeModel", name := "feed", desc := "(I)I" } : Jvm.MethodName) prog_14_method_13_code (2 : Nat) (Option.some Jvm.ClassFile.FieldType.int)) ∈ zW0 := q_in (List.mem_of_getElem? (i := 968) (by decide +kernel)) (by decide +kernel)
theorem q_969 : (Jvm.Cond.methodLink "BakedBeforeModel" (52 : Nat) ({ cls := "BakedBeforeModel", name := "isIn", desc := "(III)Z" } : Jvm.MethodName)) ∈ zW0 := q_in (List.mem_of_getElem? (i := 969) (by decide +kernel)) (by decide +kernel)
theorem q_970 : (Jvm.Cond.static ({ cls := "BakedBeforeModel", name := "isIn", desc := "(III)Z" } : Jvm.MethodName)) ∈ zW0 := q_in (List.mem_of_getElem? (i := 970) (by decide +kernel)) (by decide +kernel)
theorem q_971 : (Jvm.Cond.code ({ cls := "BakedBeforeModel", name := "isIn", desc := "(III)Z" } : Jvm.MethodName) prog_14_method_2_code (3 : Nat) (Option.some Jvm.ClassFile.FieldType.boolean)) ∈ zW0 := q_in (List.mem_of_getElem? (i := 971) (by decide +kernel)) (by decide +kernel)
theorem q_973 : (Jvm.Cond.instanceMethod ({ cls := "BakedBeforeModel", name := "kiln", desc := "()I" } : Jvm.MethodName)) ∈ zW0 := q_in (List.mem_of_getElem? (i := 973) (by decide +kernel)) (by decide +kernel)
theorem q_974 : (Jvm.Cond.selects "BakedBeforeModel" ({ cls := "BakedBeforeModel", name := "kiln", desc := "()I" } : Jvm.MethodName) ({ cls := "BakedBeforeModel", name := "kiln", desc := "()I" } : Jvm.MethodName)) ∈ zW0 := q_in (List.mem_of_getElem? (i := 974) (by decide +kernel)) (by decide +kernel)
theorem q_975 : (Jvm.Cond.code ({ cls := "BakedBeforeModel", name := "kiln", desc := "()I" } : Jvm.MethodName) prog_14_method_28_code (2 : Nat) (Option.some Jvm.ClassFile.FieldType.int)) ∈ zW0 := q_in (List.mem_of_getElem? (i := 975) (by decide +kernel)) (by decide +kernel)
theorem q_976 : (Jvm.Cond.methodLink "BakedBeforeModel" (169 : Nat) ({ cls := "BakedBeforeModel", name := "reads", desc := "(III)V" } : Jvm.MethodName)) ∈ zW0 := q_in (List.mem_of_getElem? (i := 976) (by decide +kernel)) (by decide +kernel)
theorem q_978 : (Jvm.Cond.instanceMethod ({ cls := "BakedBeforeModel", name := "reads", desc := "(III)V" } : Jvm.MethodName)) ∈ zW0 := q_in (List.mem_of_getElem? (i := 978) (by decide +kernel)) (by decide +kernel)
theorem q_979 : (Jvm.Cond.code ({ cls := "BakedBeforeModel", name := "reads", desc := "(III)V" } : Jvm.MethodName) prog_14_method_26_code (5 : Nat) (Option.none : Option Jvm.ClassFile.FieldType)) ∈ zW0 := q_in (List.mem_of_getElem? (i := 979) (by decide +kernel)) (by decide +kernel)
theorem q_980 : (Jvm.Cond.methodLink "BakedBeforeModel" (166 : Nat) ({ cls := "BakedBeforeModel", name := "readsClause", desc := "()V" } : Jvm.MethodName)) ∈ zW0 := q_in (List.mem_of_getElem? (i := 980) (by decide +kernel)) (by decide +kernel)
theorem q_982 : (Jvm.Cond.instanceMethod ({ cls := "BakedBeforeModel", name := "readsClause", desc := "()V" } : Jvm.MethodName)) ∈ zW0 := q_in (List.mem_of_getElem? (i := 982) (by decide +kernel)) (by decide +kernel)
theorem q_983 : (Jvm.Cond.code ({ cls := "BakedBeforeModel", name := "readsClause", desc := "()V" } : Jvm.MethodName) prog_14_method_25_code (4 : Nat) (Option.none : Option Jvm.ClassFile.FieldType)) ∈ zW0 := q_in (List.mem_of_getElem? (i := 983) (by decide +kernel)) (by decide +kernel)
theorem q_984 : (Jvm.Cond.methodLink "BakedBeforeModel" (81 : Nat) ({ cls := "BakedBeforeModel", name := "here", desc := "()I" } : Jvm.MethodName)) ∈ zW0 := q_in (List.mem_of_getElem? (i := 984) (by decide +kernel)) (by decide +kernel)
theorem q_986 : (Jvm.Cond.instanceMethod ({ cls := "BakedBeforeModel", name := "here", desc := "()I" } : Jvm.MethodName)) ∈ zW0 := q_in (List.mem_of_getElem? (i := 986) (by decide +kernel)) (by decide +kernel)
theorem q_987 : (Jvm.Cond.code ({ cls := "BakedBeforeModel", name := "here", desc := "()I" } : Jvm.MethodName) prog_14_method_14_code (1 : Nat) (Option.some Jvm.ClassFile.FieldType.int)) ∈ zW0 := q_in (List.mem_of_getElem? (i := 987) (by decide +kernel)) (by decide +kernel)
theorem q_992 : (Jvm.Cond.methodLink "BakedBeforeModel" (147 : Nat) ({ cls := "BakedBeforeModel", name := "readsWord", desc := "(Ljava/lang/String;)V" } : Jvm.MethodName)) ∈ zW0 := q_in (List.mem_of_getElem? (i := 992) (by decide +kernel)) (by decide +kernel)
theorem q_994 : (Jvm.Cond.instanceMethod ({ cls := "BakedBeforeModel", name := "readsWord", desc := "(Ljava/lang/String;)V" } : Jvm.MethodName)) ∈ zW0 := q_in (List.mem_of_getElem? (i := 994) (by decide +kernel)) (by decide +kernel)
theorem q_995 : (Jvm.Cond.code ({ cls := "BakedBeforeModel", name := "readsWord", desc := "(Ljava/lang/String;)V" } : Jvm.MethodName) prog_14_method_24_code (3 : Nat) (Option.none : Option Jvm.ClassFile.FieldType)) ∈ zW0 := q_in (List.mem_of_getElem? (i := 995) (by decide +kernel)) (by decide +kernel)
theorem q_996 : (Jvm.Cond.methodLink "BakedBeforeModel" (130 : Nat) ({ cls := "java/lang/String", name := "length", desc := "()I" } : Jvm.MethodName)) ∈ zW0 := q_in (List.mem_of_getElem? (i := 996) (by decide +kernel)) (by decide +kernel)
theorem q_997 : (Jvm.Cond.methodLink "BakedBeforeModel" (135 : Nat) ({ cls := "java/lang/String", name := "charAt", desc := "(I)C" } : Jvm.MethodName)) ∈ zW0 := q_in (List.mem_of_getElem? (i := 997) (by decide +kernel)) (by decide +kernel)
theorem q_998 : (Jvm.Cond.methodLink "BakedBeforeModel" (124 : Nat) ({ cls := "BakedBeforeModel", name := "takes", desc := "(I)Z" } : Jvm.MethodName)) ∈ zW0 := q_in (List.mem_of_getElem? (i := 998) (by decide +kernel)) (by decide +kernel)
theorem q_1000 : (Jvm.Cond.instanceMethod ({ cls := "BakedBeforeModel", name := "takes", desc := "(I)Z" } : Jvm.MethodName)) ∈ zW0 := q_in (List.mem_of_getElem? (i := 1000) (by decide +kernel)) (by decide +kernel)
theorem q_1001 : (Jvm.Cond.code ({ cls := "BakedBeforeModel", name := "takes", desc := "(I)Z" } : Jvm.MethodName) prog_14_method_15_code (2 : Nat) (Option.some Jvm.ClassFile.FieldType.boolean)) ∈ zW0 := q_in (List.mem_of_getElem? (i := 1001) (by decide +kernel)) (by decide +kernel)
theorem q_1002 : (Jvm.Cond.methodLink "BakedBeforeModel" (109 : Nat) ({ cls := "BakedBeforeModel", name := "readsNumbe\x72", desc := "()I" } : Jvm.MethodName)) ∈ zW0 := q_in (List.mem_of_getElem? (i := 1002) (by decide +kernel)) (by decide +kernel)
theorem q_1004 : (Jvm.Cond.instanceMethod ({ cls := "BakedBeforeModel", name := "readsNumbe\x72", desc := "()I" } : Jvm.MethodName)) ∈ zW0 := q_in (List.mem_of_getElem? (i := 1004) (by decide +kernel)) (by decide +kernel)
theorem q_1005 : (Jvm.Cond.code ({ cls := "BakedBeforeModel", name := "readsNumbe\x72", desc := "()I" } : Jvm.MethodName) prog_14_method_17_code (2 : Nat) (Option.some Jvm.ClassFile.FieldType.int)) ∈ zW0 := q_in (List.mem_of_getElem? (i := 1005) (by decide +kernel)) (by decide +kernel)
theorem q_1006 : (Jvm.Cond.methodLink "BakedBeforeModel" (85 : Nat) ({ cls := "BakedBeforeModel", name := "isDigit", desc := "()Z" } : Jvm.MethodName)) ∈ zW0 := q_in (List.mem_of_getElem? (i := 1006) (by decide +kernel)) (by decide +kernel)
theorem q_1008 : (Jvm.Cond.instanceMethod ({ cls := "BakedBeforeModel", name := "isDigit", desc := "()Z" } : Jvm.MethodName)) ∈ zW0 := q_in (List.mem_of_getElem? (i := 1008) (by decide +kernel)) (by decide +kernel)
theorem q_1009 : (Jvm.Cond.code ({ cls := "BakedBeforeModel", name := "isDigit", desc := "()Z" } : Jvm.MethodName) prog_14_method_16_code (1 : Nat) (Option.some Jvm.ClassFile.FieldType.boolean)) ∈ zW0 := q_in (List.mem_of_getElem? (i := 1009) (by decide +kernel)) (by decide +kernel)
theorem q_1010 : (Jvm.Cond.methodLink "BakedBeforeModel" (121 : Nat) ({ cls := "BakedBeforeModel", name := "readsE", desc := "(I)Z" } : Jvm.MethodName)) ∈ zW0 := q_in (List.mem_of_getElem? (i := 1010) (by decide +kernel)) (by decide +kernel)
theorem q_1012 : (Jvm.Cond.instanceMethod ({ cls := "BakedBeforeModel", name := "readsE", desc := "(I)Z" } : Jvm.MethodName)) ∈ zW0 := q_in (List.mem_of_getElem? (i := 1012) (by decide +kernel)) (by decide +kernel)
theorem q_1013 : (Jvm.Cond.code ({ cls := "BakedBeforeModel", name := "readsE", desc := "(I)Z" } : Jvm.MethodName) prog_14_method_23_code (4 : Nat) (Option.some Jvm.ClassFile.FieldType.boolean)) ∈ zW0 := q_in (List.mem_of_getElem? (i := 1013) (by decide +kernel)) (by decide +kernel)
theorem q_1014 : (Jvm.Cond.methodLink "BakedBeforeModel" (127 : Nat) ({ cls := "BakedBeforeModel", name := "readsT", desc := "(I)Z" } : Jvm.MethodName)) ∈ zW0 := q_in (List.mem_of_getElem? (i := 1014) (by decide +kernel)) (by decide +kernel)
theorem q_1016 : (Jvm.Cond.instanceMethod ({ cls := "BakedBeforeModel", name := "readsT", desc := "(I)Z" } : Jvm.MethodName)) ∈ zW0 := q_in (List.mem_of_getElem? (i := 1016) (by decide +kernel)) (by decide +kernel)
theorem q_1017 : (Jvm.Cond.code ({ cls := "BakedBeforeModel", name := "readsT", desc := "(I)Z" } : Jvm.MethodName) prog_14_method_22_code (4 : Nat) (Option.some Jvm.ClassFile.FieldType.boolean)) ∈ zW0 := q_in (List.mem_of_getElem? (i := 1017) (by decide +kernel)) (by decide +kernel)
theorem q_1018 : (Jvm.Cond.methodLink "BakedBeforeModel" (118 : Nat) ({ cls := "BakedBeforeModel", name := "readsF", desc := "(I)Z" } : Jvm.MethodName)) ∈ zW0 := q_in (List.mem_of_getElem? (i := 1018) (by decide +kernel)) (by decide +kernel)
theorem q_1020 : (Jvm.Cond.instanceMethod ({ cls := "BakedBeforeModel", name := "readsF", desc := "(I)Z" } : Jvm.MethodName)) ∈ zW0 := q_in (List.mem_of_getElem? (i := 1020) (by decide +kernel)) (by decide +kernel)
theorem q_1021 : (Jvm.Cond.code ({ cls := "BakedBeforeModel", name := "readsF", desc := "(I)Z" } : Jvm.MethodName) prog_14_method_21_code (4 : Nat) (Option.some Jvm.ClassFile.FieldType.boolean)) ∈ zW0 := q_in (List.mem_of_getElem? (i := 1021) (by decide +kernel)) (by decide +kernel)
theorem q_1022 : (Jvm.Cond.methodLink "BakedBeforeModel" (115 : Nat) ({ cls := "BakedBeforeModel", name := "readsTest", desc := "()Z" } : Jvm.MethodName)) ∈ zW0 := q_in (List.mem_of_getElem? (i := 1022) (by decide +kernel)) (by decide +kernel)
theorem q_1024 : (Jvm.Cond.instanceMethod ({ cls := "BakedBeforeModel", name := "readsTest", desc := "()Z" } : Jvm.MethodName)) ∈ zW0 := q_in (List.mem_of_getElem? (i := 1024) (by decide +kernel)) (by decide +kernel)
theorem q_1025 : (Jvm.Cond.code ({ cls := "BakedBeforeModel", name := "readsTest", desc := "()Z" } : Jvm.MethodName) prog_14_method_20_code (5 : Nat) (Option.some Jvm.ClassFile.FieldType.boolean)) ∈ zW0 := q_in (List.mem_of_getElem? (i := 1025) (by decide +kernel)) (by decide +kernel)
theorem q_1026 : (Jvm.Cond.methodLink "BakedBeforeModel" (105 : Nat) ({ cls := "BakedBeforeModel", name := "isLette\x72", desc := "(I)Z" } : Jvm.MethodName)) ∈ zW0 := q_in (List.mem_of_getElem? (i := 1026) (by decide +kernel)) (by decide +kernel)
theorem q_1027 : (Jvm.Cond.static ({ cls := "BakedBeforeModel", name := "isLette\x72", desc := "(I)Z" } : Jvm.MethodName)) ∈ zW0 := q_in (List.mem_of_getElem? (i := 1027) (by decide +kernel)) (by decide +kernel)
theorem q_1028 : (Jvm.Cond.code ({ cls := "BakedBeforeModel", name := "isLette\x72", desc := "(I)Z" } : Jvm.MethodName) prog_14_method_19_code (1 : Nat) (Option.some Jvm.ClassFile.FieldType.boolean)) ∈ zW0 := q_in (List.mem_of_getElem? (i := 1028) (by decide +kernel)) (by decide +kernel)
theorem q_1029 : (Jvm.Cond.methodLink "BakedBeforeModel" (112 : Nat) ({ cls := "BakedBeforeModel", name := "valueOf", desc := "(I)I" } : Jvm.MethodName)) ∈ zW0 := q_in (List.mem_of_getElem? (i := 1029) (by decide +kernel)) (by decide +kernel)
theorem q_1031 : (Jvm.Cond.instanceMethod ({ cls := "BakedBeforeModel", name := "valueOf", desc := "(I)I" } : Jvm.MethodName)) ∈ zW0 := q_in (List.mem_of_getElem? (i := 1031) (by decide +kernel)) (by decide +kernel)
theorem q_1032 : (Jvm.Cond.code ({ cls := "BakedBeforeModel", name := "valueOf", desc := "(I)I" } : Jvm.MethodName) prog_14_method_18_code (2 : Nat) (Option.some Jvm.ClassFile.FieldType.int)) ∈ zW0 := q_in (List.mem_of_getElem? (i := 1032) (by decide +kernel)) (by decide +kernel)
theorem q_1033 : (Jvm.Cond.methodLink "BakedBeforeModel" (92 : Nat) ({ cls := "BakedBeforeModel", name := "kind", desc := "(I)I" } : Jvm.MethodName)) ∈ zW0 := q_in (List.mem_of_getElem? (i := 1033) (by decide +kernel)) (by decide +kernel)
theorem q_1035 : (Jvm.Cond.instanceMethod ({ cls := "BakedBeforeModel", name := "kind", desc := "(I)I" } : Jvm.MethodName)) ∈ zW0 := q_in (List.mem_of_getElem? (i := 1035) (by decide +kernel)) (by decide +kernel)
theorem q_1036 : (Jvm.Cond.code ({ cls := "BakedBeforeModel", name := "kind", desc := "(I)I" } : Jvm.MethodName) prog_14_method_11_code (2 : Nat) (Option.some Jvm.ClassFile.FieldType.int)) ∈ zW0 := q_in (List.mem_of_getElem? (i := 1036) (by decide +kernel)) (by decide +kernel)
theorem q_1037 : (Jvm.Cond.methodLink "BakedBeforeModel" (60 : Nat) ({ cls := "BakedBeforeModel", name := "get", desc := "(II)I" } : Jvm.MethodName)) ∈ zW0 := q_in (List.mem_of_getElem? (i := 1037) (by decide +kernel)) (by decide +kernel)
theorem q_1039 : (Jvm.Cond.instanceMethod ({ cls := "BakedBeforeModel", name := "get", desc := "(II)I" } : Jvm.MethodName)) ∈ zW0 := q_in (List.mem_of_getElem? (i := 1039) (by decide +kernel)) (by decide +kernel)
theorem q_1040 : (Jvm.Cond.code ({ cls := "BakedBeforeModel", name := "get", desc := "(II)I" } : Jvm.MethodName) prog_14_method_10_code (3 : Nat) (Option.some Jvm.ClassFile.FieldType.int)) ∈ zW0 := q_in (List.mem_of_getElem? (i := 1040) (by decide +kernel)) (by decide +kernel)
theorem q_1041 : (Jvm.Cond.methodLink "BakedBeforeModel" (102 : Nat) ({ cls := "BakedBeforeModel", name := "numbe\x72", desc := "(I)I" } : Jvm.MethodName)) ∈ zW0 := q_in (List.mem_of_getElem? (i := 1041) (by decide +kernel)) (by decide +kernel)
theorem q_1043 : (Jvm.Cond.instanceMethod ({ cls := "BakedBeforeModel", name := "numbe\x72", desc := "(I)I" } : Jvm.MethodName)) ∈ zW0 := q_in (List.mem_of_getElem? (i := 1043) (by decide +kernel)) (by decide +kernel)
theorem q_1044 : (Jvm.Cond.code ({ cls := "BakedBeforeModel", name := "numbe\x72", desc := "(I)I" } : Jvm.MethodName) prog_14_method_12_code (2 : Nat) (Option.some Jvm.ClassFile.FieldType.int)) ∈ zW0 := q_in (List.mem_of_getElem? (i := 1044) (by decide +kernel)) (by decide +kernel)
theorem q_1046 : (Jvm.Cond.instanceMethod ({ cls := "BakedBeforeModel", name := "loaf", desc := "(II)I" } : Jvm.MethodName)) ∈ zW0 := q_in (List.mem_of_getElem? (i := 1046) (by decide +kernel)) (by decide +kernel)
theorem q_1047 : (Jvm.Cond.selects "BakedBeforeModel" ({ cls := "BakedBeforeModel", name := "loaf", desc := "(II)I" } : Jvm.MethodName) ({ cls := "BakedBeforeModel", name := "loaf", desc := "(II)I" } : Jvm.MethodName)) ∈ zW0 := q_in (List.mem_of_getElem? (i := 1047) (by decide +kernel)) (by decide +kernel)
theorem q_1048 : (Jvm.Cond.code ({ cls := "BakedBeforeModel", name := "loaf", desc := "(II)I" } : Jvm.MethodName) prog_14_method_39_code (5 : Nat) (Option.some Jvm.ClassFile.FieldType.int)) ∈ zW0 := q_in (List.mem_of_getElem? (i := 1048) (by decide +kernel)) (by decide +kernel)
theorem q_1050 : (Jvm.Cond.instanceMethod ({ cls := "BakedBeforeModel", name := "set", desc := "(IIII)I" } : Jvm.MethodName)) ∈ zW0 := q_in (List.mem_of_getElem? (i := 1050) (by decide +kernel)) (by decide +kernel)
theorem q_1051 : (Jvm.Cond.selects "BakedBeforeModel" ({ cls := "BakedBeforeModel", name := "set", desc := "(IIII)I" } : Jvm.MethodName) ({ cls := "BakedBeforeModel", name := "set", desc := "(IIII)I" } : Jvm.MethodName)) ∈ zW0 := q_in (List.mem_of_getElem? (i := 1051) (by decide +kernel)) (by decide +kernel)
theorem q_1052 : (Jvm.Cond.code ({ cls := "BakedBeforeModel", name := "set", desc := "(IIII)I" } : Jvm.MethodName) prog_14_method_40_code (7 : Nat) (Option.some Jvm.ClassFile.FieldType.int)) ∈ zW0 := q_in (List.mem_of_getElem? (i := 1052) (by decide +kernel)) (by decide +kernel)
theorem q_1053 : (Jvm.Cond.methodLink "BakedBeforeModel" (199 : Nat) ({ cls := "BakedBeforeModel", name := "isLoaf", desc := "(I)Z" } : Jvm.MethodName)) ∈ zW0 := q_in (List.mem_of_getElem? (i := 1053) (by decide +kernel)) (by decide +kernel)
theorem q_1055 : (Jvm.Cond.instanceMethod ({ cls := "BakedBeforeModel", name := "isLoaf", desc := "(I)Z" } : Jvm.MethodName)) ∈ zW0 := q_in (List.mem_of_getElem? (i := 1055) (by decide +kernel)) (by decide +kernel)
theorem q_1056 : (Jvm.Cond.code ({ cls := "BakedBeforeModel", name := "isLoaf", desc := "(I)Z" } : Jvm.MethodName) prog_14_method_4_code (2 : Nat) (Option.some Jvm.ClassFile.FieldType.boolean)) ∈ zW0 := q_in (List.mem_of_getElem? (i := 1056) (by decide +kernel)) (by decide +kernel)
theorem q_1057 : (Jvm.Cond.methodLink "BakedBeforeModel" (202 : Nat) ({ cls := "BakedBeforeModel", name := "isTaste", desc := "(I)Z" } : Jvm.MethodName)) ∈ zW0 := q_in (List.mem_of_getElem? (i := 1057) (by decide +kernel)) (by decide +kernel)
theorem q_1058 : (Jvm.Cond.static ({ cls := "BakedBeforeModel", name := "isTaste", desc := "(I)Z" } : Jvm.MethodName)) ∈ zW0 := q_in (List.mem_of_getElem? (i := 1058) (by decide +kernel)) (by decide +kernel)
theorem q_1059 : (Jvm.Cond.code ({ cls := "BakedBeforeModel", name := "isTaste", desc := "(I)Z" } : Jvm.MethodName) prog_14_method_3_code (1 : Nat) (Option.some Jvm.ClassFile.FieldType.boolean)) ∈ zW0 := q_in (List.mem_of_getElem? (i := 1059) (by decide +kernel)) (by decide +kernel)
theorem q_1061 : (Jvm.Cond.instanceMethod ({ cls := "BakedBeforeModel", name := "of", desc := "(II)I" } : Jvm.MethodName)) ∈ zW0 := q_in (List.mem_of_getElem? (i := 1061) (by decide +kernel)) (by decide +kernel)
theorem q_1062 : (Jvm.Cond.selects "BakedBeforeModel" ({ cls := "BakedBeforeModel", name := "of", desc := "(II)I" } : Jvm.MethodName) ({ cls := "BakedBeforeModel", name := "of", desc := "(II)I" } : Jvm.MethodName)) ∈ zW0 := q_in (List.mem_of_getElem? (i := 1062) (by decide +kernel)) (by decide +kernel)
theorem q_1063 : (Jvm.Cond.code ({ cls := "BakedBeforeModel", name := "of", desc := "(II)I" } : Jvm.MethodName) prog_14_method_41_code (4 : Nat) (Option.some Jvm.ClassFile.FieldType.int)) ∈ zW0 := q_in (List.mem_of_getElem? (i := 1063) (by decide +kernel)) (by decide +kernel)
theorem q_1064 : (Jvm.Cond.methodLink "BakedBeforeModel" (205 : Nat) ({ cls := "BakedBeforeModel", name := "feeOf", desc := "(I)I" } : Jvm.MethodName)) ∈ zW0 := q_in (List.mem_of_getElem? (i := 1064) (by decide +kernel)) (by decide +kernel)
theorem q_1066 : (Jvm.Cond.instanceMethod ({ cls := "BakedBeforeModel", name := "feeOf", desc := "(I)I" } : Jvm.MethodName)) ∈ zW0 := q_in (List.mem_of_getElem? (i := 1066) (by decide +kernel)) (by decide +kernel)
theorem q_1067 : (Jvm.Cond.code ({ cls := "BakedBeforeModel", name := "feeOf", desc := "(I)I" } : Jvm.MethodName) prog_14_method_35_code (2 : Nat) (Option.some Jvm.ClassFile.FieldType.int)) ∈ zW0 := q_in (List.mem_of_getElem? (i := 1067) (by decide +kernel)) (by decide +kernel)
theorem q_1068 : (Jvm.Cond.methodLink "BakedBeforeModel" (176 : Nat) ({ cls := "BakedBeforeModel", name := "readsNow", desc := "(II)V" } : Jvm.MethodName)) ∈ zW0 := q_in (List.mem_of_getElem? (i := 1068) (by decide +kernel)) (by decide +kernel)
theorem q_1070 : (Jvm.Cond.instanceMethod ({ cls := "BakedBeforeModel", name := "readsNow", desc := "(II)V" } : Jvm.MethodName)) ∈ zW0 := q_in (List.mem_of_getElem? (i := 1070) (by decide +kernel)) (by decide +kernel)
theorem q_1071 : (Jvm.Cond.code ({ cls := "BakedBeforeModel", name := "readsNow", desc := "(II)V" } : Jvm.MethodName) prog_14_method_27_code (3 : Nat) (Option.none : Option Jvm.ClassFile.FieldType)) ∈ zW0 := q_in (List.mem_of_getElem? (i := 1071) (by decide +kernel)) (by decide +kernel)
theorem q_1072 : (Jvm.Cond.methodLink "BakedBeforeModel" (190 : Nat) ({ cls := "BakedBeforeModel", name := "isSpoiled", desc := "(I)Z" } : Jvm.MethodName)) ∈ zW0 := q_in (List.mem_of_getElem? (i := 1072) (by decide +kernel)) (by decide +kernel)
theorem q_1074 : (Jvm.Cond.instanceMethod ({ cls := "BakedBeforeModel", name := "isSpoiled", desc := "(I)Z" } : Jvm.MethodName)) ∈ zW0 := q_in (List.mem_of_getElem? (i := 1074) (by decide +kernel)) (by decide +kernel)
theorem q_1075 : (Jvm.Cond.code ({ cls := "BakedBeforeModel", name := "isSpoiled", desc := "(I)Z" } : Jvm.MethodName) prog_14_method_34_code (3 : Nat) (Option.some Jvm.ClassFile.FieldType.boolean)) ∈ zW0 := q_in (List.mem_of_getElem? (i := 1075) (by decide +kernel)) (by decide +kernel)
theorem q_1076 : (Jvm.Cond.methodLink "BakedBeforeModel" (187 : Nat) ({ cls := "BakedBeforeModel", name := "takesOf", desc := "(II)I" } : Jvm.MethodName)) ∈ zW0 := q_in (List.mem_of_getElem? (i := 1076) (by decide +kernel)) (by decide +kernel)
theorem q_1078 : (Jvm.Cond.instanceMethod ({ cls := "BakedBeforeModel", name := "takesOf", desc := "(II)I" } : Jvm.MethodName)) ∈ zW0 := q_in (List.mem_of_getElem? (i := 1078) (by decide +kernel)) (by decide +kernel)
theorem q_1079 : (Jvm.Cond.code ({ cls := "BakedBeforeModel", name := "takesOf", desc := "(II)I" } : Jvm.MethodName) prog_14_method_31_code (3 : Nat) (Option.some Jvm.ClassFile.FieldType.int)) ∈ zW0 := q_in (List.mem_of_getElem? (i := 1079) (by decide +kernel)) (by decide +kernel)
theorem q_1080 : (Jvm.Cond.methodLink "BakedBeforeModel" (180 : Nat) ({ cls := "BakedBeforeModel", name := "partOf", desc := "(II)I" } : Jvm.MethodName)) ∈ zW0 := q_in (List.mem_of_getElem? (i := 1080) (by decide +kernel)) (by decide +kernel)
theorem q_1082 : (Jvm.Cond.instanceMethod ({ cls := "BakedBeforeModel", name := "partOf", desc := "(II)I" } : Jvm.MethodName)) ∈ zW0 := q_in (List.mem_of_getElem? (i := 1082) (by decide +kernel)) (by decide +kernel)
theorem q_1083 : (Jvm.Cond.code ({ cls := "BakedBeforeModel", name := "partOf", desc := "(II)I" } : Jvm.MethodName) prog_14_method_29_code (3 : Nat) (Option.some Jvm.ClassFile.FieldType.int)) ∈ zW0 := q_in (List.mem_of_getElem? (i := 1083) (by decide +kernel)) (by decide +kernel)
theorem q_1084 : (Jvm.Cond.methodLink "BakedBeforeModel" (183 : Nat) ({ cls := "BakedBeforeModel", name := "takesBy", desc := "(IIII)I" } : Jvm.MethodName)) ∈ zW0 := q_in (List.mem_of_getElem? (i := 1084) (by decide +kernel)) (by decide +kernel)
theorem q_1086 : (Jvm.Cond.instanceMethod ({ cls := "BakedBeforeModel", name := "takesBy", desc := "(IIII)I" } : Jvm.MethodName)) ∈ zW0 := q_in (List.mem_of_getElem? (i := 1086) (by decide +kernel)) (by decide +kernel)
theorem q_1087 : (Jvm.Cond.code ({ cls := "BakedBeforeModel", name := "takesBy", desc := "(IIII)I" } : Jvm.MethodName) prog_14_method_30_code (8 : Nat) (Option.some Jvm.ClassFile.FieldType.int)) ∈ zW0 := q_in (List.mem_of_getElem? (i := 1087) (by decide +kernel)) (by decide +kernel)
theorem q_1088 : (Jvm.Cond.methodLink "BakedBeforeModel" (193 : Nat) ({ cls := "BakedBeforeModel", name := "leavesOf", desc := "(II)I" } : Jvm.MethodName)) ∈ zW0 := q_in (List.mem_of_getElem? (i := 1088) (by decide +kernel)) (by decide +kernel)
theorem q_1090 : (Jvm.Cond.instanceMethod ({ cls := "BakedBeforeModel", name := "leavesOf", desc := "(II)I" } : Jvm.MethodName)) ∈ zW0 := q_in (List.mem_of_getElem? (i := 1090) (by decide +kernel)) (by decide +kernel)
theorem q_1091 : (Jvm.Cond.code ({ cls := "BakedBeforeModel", name := "leavesOf", desc := "(II)I" } : Jvm.MethodName) prog_14_method_32_code (5 : Nat) (Option.some Jvm.ClassFile.FieldType.int)) ∈ zW0 := q_in (List.mem_of_getElem? (i := 1091) (by decide +kernel)) (by decide +kernel)
theorem q_1093 : (Jvm.Cond.instanceMethod ({ cls := "BakedBeforeModel", name := "oven", desc := "(II)I" } : Jvm.MethodName)) ∈ zW0 := q_in (List.mem_of_getElem? (i := 1093) (by decide +kernel)) (by decide +kernel)
theorem q_1094 : (Jvm.Cond.selects "BakedBeforeModel" ({ cls := "BakedBeforeModel", name := "oven", desc := "(II)I" } : Jvm.MethodName) ({ cls := "BakedBeforeModel", name := "oven", desc := "(II)I" } : Jvm.MethodName)) ∈ zW0 := q_in (List.mem_of_getElem? (i := 1094) (by decide +kernel)) (by decide +kernel)
theorem q_1095 : (Jvm.Cond.code ({ cls := "BakedBeforeModel", name := "oven", desc := "(II)I" } : Jvm.MethodName) prog_14_method_42_code (4 : Nat) (Option.some Jvm.ClassFile.FieldType.int)) ∈ zW0 := q_in (List.mem_of_getElem? (i := 1095) (by decide +kernel)) (by decide +kernel)
theorem q_1097 : (Jvm.Cond.instanceMethod ({ cls := "BakedBeforeModel", name := "told", desc := "(I)I" } : Jvm.MethodName)) ∈ zW0 := q_in (List.mem_of_getElem? (i := 1097) (by decide +kernel)) (by decide +kernel)
theorem q_1098 : (Jvm.Cond.selects "BakedBeforeModel" ({ cls := "BakedBeforeModel", name := "told", desc := "(I)I" } : Jvm.MethodName) ({ cls := "BakedBeforeModel", name := "told", desc := "(I)I" } : Jvm.MethodName)) ∈ zW0 := q_in (List.mem_of_getElem? (i := 1098) (by decide +kernel)) (by decide +kernel)
theorem q_1099 : (Jvm.Cond.code ({ cls := "BakedBeforeModel", name := "told", desc := "(I)I" } : Jvm.MethodName) prog_14_method_43_code (2 : Nat) (Option.some Jvm.ClassFile.FieldType.int)) ∈ zW0 := q_in (List.mem_of_getElem? (i := 1099) (by decide +kernel)) (by decide +kernel)
theorem q_1101 : (Jvm.Cond.instanceMethod ({ cls := "BakedBeforeModel", name := "bake", desc := "(I)I" } : Jvm.MethodName)) ∈ zW0 := q_in (List.mem_of_getElem? (i := 1101) (by decide +kernel)) (by decide +kernel)
theorem q_1102 : (Jvm.Cond.selects "BakedBeforeModel" ({ cls := "BakedBeforeModel", name := "bake", desc := "(I)I" } : Jvm.MethodName) ({ cls := "BakedBeforeModel", name := "bake", desc := "(I)I" } : Jvm.MethodName)) ∈ zW0 := q_in (List.mem_of_getElem? (i := 1102) (by decide +kernel)) (by decide +kernel)
theorem q_1103 : (Jvm.Cond.code ({ cls := "BakedBeforeModel", name := "bake", desc := "(I)I" } : Jvm.MethodName) prog_14_method_44_code (2 : Nat) (Option.some Jvm.ClassFile.FieldType.int)) ∈ zW0 := q_in (List.mem_of_getElem? (i := 1103) (by decide +kernel)) (by decide +kernel)
theorem q_1104 : (Jvm.Cond.methodLink "BakedBeforeModel" (208 : Nat) ({ cls := "BakedBeforeModel", name := "bakes", desc := "(I)Z" } : Jvm.MethodName)) ∈ zW0 := q_in (List.mem_of_getElem? (i := 1104) (by decide +kernel)) (by decide +kernel)
theorem q_1106 : (Jvm.Cond.instanceMethod ({ cls := "BakedBeforeModel", name := "bakes", desc := "(I)Z" } : Jvm.MethodName)) ∈ zW0 := q_in (List.mem_of_getElem? (i := 1106) (by decide +kernel)) (by decide +kernel)
theorem q_1107 : (Jvm.Cond.code ({ cls := "BakedBeforeModel", name := "bakes", desc := "(I)Z" } : Jvm.MethodName) prog_14_method_37_code (5 : Nat) (Option.some Jvm.ClassFile.FieldType.boolean)) ∈ zW0 := q_in (List.mem_of_getElem? (i := 1107) (by decide +kernel)) (by decide +kernel)
theorem q_1108 : (Jvm.Cond.methodLink "BakedBeforeModel" (196 : Nat) ({ cls := "BakedBeforeModel", name := "ages", desc := "()V" } : Jvm.MethodName)) ∈ zW0 := q_in (List.mem_of_getElem? (i := 1108) (by decide +kernel)) (by decide +kernel)
theorem q_1110 : (Jvm.Cond.instanceMethod ({ cls := "BakedBeforeModel", name := "ages", desc := "()V" } : Jvm.MethodName)) ∈ zW0 := q_in (List.mem_of_getElem? (i := 1110) (by decide +kernel)) (by decide +kernel)
theorem q_1111 : (Jvm.Cond.code ({ cls := "BakedBeforeModel", name := "ages", desc := "()V" } : Jvm.MethodName) prog_14_method_36_code (1 : Nat) (Option.none : Option Jvm.ClassFile.FieldType)) ∈ zW0 := q_in (List.mem_of_getElem? (i := 1111) (by decide +kernel)) (by decide +kernel)
theorem q_1113 : (Jvm.Cond.instanceMethod ({ cls := "BakedBeforeModel", name := "cold", desc := "()I" } : Jvm.MethodName)) ∈ zW0 := q_in (List.mem_of_getElem? (i := 1113) (by decide +kernel)) (by decide +kernel)
theorem q_1114 : (Jvm.Cond.selects "BakedBeforeModel" ({ cls := "BakedBeforeModel", name := "cold", desc := "()I" } : Jvm.MethodName) ({ cls := "BakedBeforeModel", name := "cold", desc := "()I" } : Jvm.MethodName)) ∈ zW0 := q_in (List.mem_of_getElem? (i := 1114) (by decide +kernel)) (by decide +kernel)
theorem q_1115 : (Jvm.Cond.code ({ cls := "BakedBeforeModel", name := "cold", desc := "()I" } : Jvm.MethodName) prog_14_method_45_code (1 : Nat) (Option.some Jvm.ClassFile.FieldType.int)) ∈ zW0 := q_in (List.mem_of_getElem? (i := 1115) (by decide +kernel)) (by decide +kernel)
theorem q_1116 : (Jvm.Cond.methodLink "BakedBeforeModel" (211 : Nat) ({ cls := "BakedBeforeModel", name := "cools", desc := "()V" } : Jvm.MethodName)) ∈ zW0 := q_in (List.mem_of_getElem? (i := 1116) (by decide +kernel)) (by decide +kernel)
theorem q_1118 : (Jvm.Cond.instanceMethod ({ cls := "BakedBeforeModel", name := "cools", desc := "()V" } : Jvm.MethodName)) ∈ zW0 := q_in (List.mem_of_getElem? (i := 1118) (by decide +kernel)) (by decide +kernel)
theorem q_1119 : (Jvm.Cond.code ({ cls := "BakedBeforeModel", name := "cools", desc := "()V" } : Jvm.MethodName) prog_14_method_38_code (4 : Nat) (Option.none : Option Jvm.ClassFile.FieldType)) ∈ zW0 := q_in (List.mem_of_getElem? (i := 1119) (by decide +kernel)) (by decide +kernel)
theorem q_1121 : (Jvm.Cond.instanceMethod ({ cls := "BakedBeforeModel", name := "would", desc := "(III)I" } : Jvm.MethodName)) ∈ zW0 := q_in (List.mem_of_getElem? (i := 1121) (by decide +kernel)) (by decide +kernel)
theorem q_1122 : (Jvm.Cond.selects "BakedBeforeModel" ({ cls := "BakedBeforeModel", name := "would", desc := "(III)I" } : Jvm.MethodName) ({ cls := "BakedBeforeModel", name := "would", desc := "(III)I" } : Jvm.MethodName)) ∈ zW0 := q_in (List.mem_of_getElem? (i := 1122) (by decide +kernel)) (by decide +kernel)
theorem q_1123 : (Jvm.Cond.code ({ cls := "BakedBeforeModel", name := "would", desc := "(III)I" } : Jvm.MethodName) prog_14_method_46_code (6 : Nat) (Option.some Jvm.ClassFile.FieldType.int)) ∈ zW0 := q_in (List.mem_of_getElem? (i := 1123) (by decide +kernel)) (by decide +kernel)
theorem q_1124 : (Jvm.Cond.methodLink "BakedBeforeModel" (214 : Nat) ({ cls := "BakedBeforeModel", name := "begins", desc := "()V" } : Jvm.MethodName)) ∈ zW0 := q_in (List.mem_of_getElem? (i := 1124) (by decide +kernel)) (by decide +kernel)
theorem q_1126 : (Jvm.Cond.instanceMethod ({ cls := "BakedBeforeModel", name := "begins", desc := "()V" } : Jvm.MethodName)) ∈ zW0 := q_in (List.mem_of_getElem? (i := 1126) (by decide +kernel)) (by decide +kernel)
theorem q_1127 : (Jvm.Cond.code ({ cls := "BakedBeforeModel", name := "begins", desc := "()V" } : Jvm.MethodName) prog_14_method_8_code (1 : Nat) (Option.none : Option Jvm.ClassFile.FieldType)) ∈ zW0 := q_in (List.mem_of_getElem? (i := 1127) (by decide +kernel)) (by decide +kernel)
theorem q_1128 : (Jvm.Cond.methodLink "BakedBeforeModel" (56 : Nat) ({ cls := "BakedBeforeModel", name := "lays", desc := "([I[I)V" } : Jvm.MethodName)) ∈ zW0 := q_in (List.mem_of_getElem? (i := 1128) (by decide +kernel)) (by decide +kernel)
theorem q_1129 : (Jvm.Cond.static ({ cls := "BakedBeforeModel", name := "lays", desc := "([I[I)V" } : Jvm.MethodName)) ∈ zW0 := q_in (List.mem_of_getElem? (i := 1129) (by decide +kernel)) (by decide +kernel)
theorem q_1130 : (Jvm.Cond.code ({ cls := "BakedBeforeModel", name := "lays", desc := "([I[I)V" } : Jvm.MethodName) prog_14_method_7_code (3 : Nat) (Option.none : Option Jvm.ClassFile.FieldType)) ∈ zW0 := q_in (List.mem_of_getElem? (i := 1130) (by decide +kernel)) (by decide +kernel)
theorem q_1131 : (Jvm.Cond.methodLink "BakedBeforeModel" (217 : Nat) ({ cls := "BakedBeforeModel", name := "ends", desc := "()V" } : Jvm.MethodName)) ∈ zW0 := q_in (List.mem_of_getElem? (i := 1131) (by decide +kernel)) (by decide +kernel)
theorem q_1133 : (Jvm.Cond.instanceMethod ({ cls := "BakedBeforeModel", name := "ends", desc := "()V" } : Jvm.MethodName)) ∈ zW0 := q_in (List.mem_of_getElem? (i := 1133) (by decide +kernel)) (by decide +kernel)
theorem q_1134 : (Jvm.Cond.code ({ cls := "BakedBeforeModel", name := "ends", desc := "()V" } : Jvm.MethodName) prog_14_method_9_code (1 : Nat) (Option.none : Option Jvm.ClassFile.FieldType)) ∈ zW0 := q_in (List.mem_of_getElem? (i := 1134) (by decide +kernel)) (by decide +kernel)
theorem q_1136 : (Jvm.Cond.instanceMethod ({ cls := "BakedBeforeModel", name := "orde\x72", desc := "(II)I" } : Jvm.MethodName)) ∈ zW0 := q_in (List.mem_of_getElem? (i := 1136) (by decide +kernel)) (by decide +kernel)
theorem q_1137 : (Jvm.Cond.selects "BakedBeforeModel" ({ cls := "BakedBeforeModel", name := "orde\x72", desc := "(II)I" } : Jvm.MethodName) ({ cls := "BakedBeforeModel", name := "orde\x72", desc := "(II)I" } : Jvm.MethodName)) ∈ zW0 := q_in (List.mem_of_getElem? (i := 1137) (by decide +kernel)) (by decide +kernel)
theorem q_1138 : (Jvm.Cond.code ({ cls := "BakedBeforeModel", name := "orde\x72", desc := "(II)I" } : Jvm.MethodName) prog_14_method_49_code (3 : Nat) (Option.some Jvm.ClassFile.FieldType.int)) ∈ zW0 := q_in (List.mem_of_getElem? (i := 1138) (by decide +kernel)) (by decide +kernel)
theorem q_1139 : (Jvm.Cond.methodLink "BakedBeforeModel" (229 : Nat) ({ cls := "BakedBeforeModel", name := "areLoaves", desc := "(I)Z" } : Jvm.MethodName)) ∈ zW0 := q_in (List.mem_of_getElem? (i := 1139) (by decide +kernel)) (by decide +kernel)
theorem q_1141 : (Jvm.Cond.instanceMethod ({ cls := "BakedBeforeModel", name := "areLoaves", desc := "(I)Z" } : Jvm.MethodName)) ∈ zW0 := q_in (List.mem_of_getElem? (i := 1141) (by decide +kernel)) (by decide +kernel)
theorem q_1142 : (Jvm.Cond.code ({ cls := "BakedBeforeModel", name := "areLoaves", desc := "(I)Z" } : Jvm.MethodName) prog_14_method_5_code (2 : Nat) (Option.some Jvm.ClassFile.FieldType.boolean)) ∈ zW0 := q_in (List.mem_of_getElem? (i := 1142) (by decide +kernel)) (by decide +kernel)
theorem q_1143 : (Jvm.Cond.methodLink "BakedBeforeModel" (232 : Nat) ({ cls := "BakedBeforeModel", name := "bits", desc := "(I)I" } : Jvm.MethodName)) ∈ zW0 := q_in (List.mem_of_getElem? (i := 1143) (by decide +kernel)) (by decide +kernel)
theorem q_1144 : (Jvm.Cond.static ({ cls := "BakedBeforeModel", name := "bits", desc := "(I)I" } : Jvm.MethodName)) ∈ zW0 := q_in (List.mem_of_getElem? (i := 1144) (by decide +kernel)) (by decide +kernel)
theorem q_1145 : (Jvm.Cond.code ({ cls := "BakedBeforeModel", name := "bits", desc := "(I)I" } : Jvm.MethodName) prog_14_method_6_code (3 : Nat) (Option.some Jvm.ClassFile.FieldType.int)) ∈ zW0 := q_in (List.mem_of_getElem? (i := 1145) (by decide +kernel)) (by decide +kernel)
theorem q_1146 : (Jvm.Cond.methodLink "BakedBeforeModel" (226 : Nat) ({ cls := "BakedBeforeModel", name := "orders", desc := "(III)V" } : Jvm.MethodName)) ∈ zW0 := q_in (List.mem_of_getElem? (i := 1146) (by decide +kernel)) (by decide +kernel)
theorem q_1148 : (Jvm.Cond.instanceMethod ({ cls := "BakedBeforeModel", name := "orders", desc := "(III)V" } : Jvm.MethodName)) ∈ zW0 := q_in (List.mem_of_getElem? (i := 1148) (by decide +kernel)) (by decide +kernel)
theorem q_1149 : (Jvm.Cond.code ({ cls := "BakedBeforeModel", name := "orders", desc := "(III)V" } : Jvm.MethodName) prog_14_method_48_code (6 : Nat) (Option.none : Option Jvm.ClassFile.FieldType)) ∈ zW0 := q_in (List.mem_of_getElem? (i := 1149) (by decide +kernel)) (by decide +kernel)
theorem q_1150 : (Jvm.Cond.methodLink "BakedBeforeModel" (220 : Nat) ({ cls := "BakedBeforeModel", name := "spoiledBy", desc := "(I)I" } : Jvm.MethodName)) ∈ zW0 := q_in (List.mem_of_getElem? (i := 1150) (by decide +kernel)) (by decide +kernel)
theorem q_1152 : (Jvm.Cond.instanceMethod ({ cls := "BakedBeforeModel", name := "spoiledBy", desc := "(I)I" } : Jvm.MethodName)) ∈ zW0 := q_in (List.mem_of_getElem? (i := 1152) (by decide +kernel)) (by decide +kernel)
theorem q_1153 : (Jvm.Cond.code ({ cls := "BakedBeforeModel", name := "spoiledBy", desc := "(I)I" } : Jvm.MethodName) prog_14_method_47_code (4 : Nat) (Option.some Jvm.ClassFile.FieldType.int)) ∈ zW0 := q_in (List.mem_of_getElem? (i := 1153) (by decide +kernel)) (by decide +kernel)
theorem q_1155 : (Jvm.Cond.instanceMethod ({ cls := "BakedBeforeModel", name := "colds", desc := "(II)I" } : Jvm.MethodName)) ∈ zW0 := q_in (List.mem_of_getElem? (i := 1155) (by decide +kernel)) (by decide +kernel)
theorem q_1156 : (Jvm.Cond.selects "BakedBeforeModel" ({ cls := "BakedBeforeModel", name := "colds", desc := "(II)I" } : Jvm.MethodName) ({ cls := "BakedBeforeModel", name := "colds", desc := "(II)I" } : Jvm.MethodName)) ∈ zW0 := q_in (List.mem_of_getElem? (i := 1156) (by decide +kernel)) (by decide +kernel)
theorem q_1157 : (Jvm.Cond.code ({ cls := "BakedBeforeModel", name := "colds", desc := "(II)I" } : Jvm.MethodName) prog_14_method_52_code (9 : Nat) (Option.some Jvm.ClassFile.FieldType.int)) ∈ zW0 := q_in (List.mem_of_getElem? (i := 1157) (by decide +kernel)) (by decide +kernel)
theorem q_1158 : (Jvm.Cond.methodLink "BakedBeforeModel" (238 : Nat) ({ cls := "BakedBeforeModel", name := "isWellBy", desc := "(III)Z" } : Jvm.MethodName)) ∈ zW0 := q_in (List.mem_of_getElem? (i := 1158) (by decide +kernel)) (by decide +kernel)
theorem q_1160 : (Jvm.Cond.instanceMethod ({ cls := "BakedBeforeModel", name := "isWellBy", desc := "(III)Z" } : Jvm.MethodName)) ∈ zW0 := q_in (List.mem_of_getElem? (i := 1160) (by decide +kernel)) (by decide +kernel)
theorem q_1161 : (Jvm.Cond.code ({ cls := "BakedBeforeModel", name := "isWellBy", desc := "(III)Z" } : Jvm.MethodName) prog_14_method_51_code (8 : Nat) (Option.some Jvm.ClassFile.FieldType.boolean)) ∈ zW0 := q_in (List.mem_of_getElem? (i := 1161) (by decide +kernel)) (by decide +kernel)
theorem q_1162 : (Jvm.Cond.methodLink "BakedBeforeModel" (235 : Nat) ({ cls := "BakedBeforeModel", name := "memberOf", desc := "(II)I" } : Jvm.MethodName)) ∈ zW0 := q_in (List.mem_of_getElem? (i := 1162) (by decide +kernel)) (by decide +kernel)
theorem q_1163 : (Jvm.Cond.static ({ cls := "BakedBeforeModel", name := "memberOf", desc := "(II)I" } : Jvm.MethodName)) ∈ zW0 := q_in (List.mem_of_getElem? (i := 1163) (by decide +kernel)) (by decide +kernel)
theorem q_1164 : (Jvm.Cond.code ({ cls := "BakedBeforeModel", name := "memberOf", desc := "(II)I" } : Jvm.MethodName) prog_14_method_50_code (4 : Nat) (Option.some Jvm.ClassFile.FieldType.int)) ∈ zW0 := q_in (List.mem_of_getElem? (i := 1164) (by decide +kernel)) (by decide +kernel)
theorem q_1166 : (Jvm.Cond.instanceMethod ({ cls := "BakedBeforeModel", name := "place", desc := "(II)I" } : Jvm.MethodName)) ∈ zW0 := q_in (List.mem_of_getElem? (i := 1166) (by decide +kernel)) (by decide +kernel)
theorem q_1167 : (Jvm.Cond.selects "BakedBeforeModel" ({ cls := "BakedBeforeModel", name := "place", desc := "(II)I" } : Jvm.MethodName) ({ cls := "BakedBeforeModel", name := "place", desc := "(II)I" } : Jvm.MethodName)) ∈ zW0 := q_in (List.mem_of_getElem? (i := 1167) (by decide +kernel)) (by decide +kernel)
theorem q_1168 : (Jvm.Cond.code ({ cls := "BakedBeforeModel", name := "place", desc := "(II)I" } : Jvm.MethodName) prog_14_method_54_code (7 : Nat) (Option.some Jvm.ClassFile.FieldType.int)) ∈ zW0 := q_in (List.mem_of_getElem? (i := 1168) (by decide +kernel)) (by decide +kernel)
theorem q_1169 : (Jvm.Cond.methodLink "BakedBeforeModel" (244 : Nat) ({ cls := "BakedBeforeModel", name := "takesAt", desc := "(II)I" } : Jvm.MethodName)) ∈ zW0 := q_in (List.mem_of_getElem? (i := 1169) (by decide +kernel)) (by decide +kernel)
theorem q_1171 : (Jvm.Cond.instanceMethod ({ cls := "BakedBeforeModel", name := "takesAt", desc := "(II)I" } : Jvm.MethodName)) ∈ zW0 := q_in (List.mem_of_getElem? (i := 1171) (by decide +kernel)) (by decide +kernel)
theorem q_1172 : (Jvm.Cond.code ({ cls := "BakedBeforeModel", name := "takesAt", desc := "(II)I" } : Jvm.MethodName) prog_14_method_53_code (6 : Nat) (Option.some Jvm.ClassFile.FieldType.int)) ∈ zW0 := q_in (List.mem_of_getElem? (i := 1172) (by decide +kernel)) (by decide +kernel)
theorem q_1173 : (Jvm.Cond.methodLink "BakedBeforeModel" (241 : Nat) ({ cls := "BakedBeforeModel", name := "allTakes", desc := "(I)I" } : Jvm.MethodName)) ∈ zW0 := q_in (List.mem_of_getElem? (i := 1173) (by decide +kernel)) (by decide +kernel)
theorem q_1175 : (Jvm.Cond.instanceMethod ({ cls := "BakedBeforeModel", name := "allTakes", desc := "(I)I" } : Jvm.MethodName)) ∈ zW0 := q_in (List.mem_of_getElem? (i := 1175) (by decide +kernel)) (by decide +kernel)
theorem q_1176 : (Jvm.Cond.code ({ cls := "BakedBeforeModel", name := "allTakes", desc := "(I)I" } : Jvm.MethodName) prog_14_method_33_code (4 : Nat) (Option.some Jvm.ClassFile.FieldType.int)) ∈ zW0 := q_in (List.mem_of_getElem? (i := 1176) (by decide +kernel)) (by decide +kernel)
theorem q_1178 : (Jvm.Cond.instanceMethod ({ cls := "BakedBeforeModel", name := "guilty", desc := "(I)I" } : Jvm.MethodName)) ∈ zW0 := q_in (List.mem_of_getElem? (i := 1178) (by decide +kernel)) (by decide +kernel)
theorem q_1179 : (Jvm.Cond.selects "BakedBeforeModel" ({ cls := "BakedBeforeModel", name := "guilty", desc := "(I)I" } : Jvm.MethodName) ({ cls := "BakedBeforeModel", name := "guilty", desc := "(I)I" } : Jvm.MethodName)) ∈ zW0 := q_in (List.mem_of_getElem? (i := 1179) (by decide +kernel)) (by decide +kernel)
theorem q_1180 : (Jvm.Cond.code ({ cls := "BakedBeforeModel", name := "guilty", desc := "(I)I" } : Jvm.MethodName) prog_14_method_56_code (4 : Nat) (Option.some Jvm.ClassFile.FieldType.int)) ∈ zW0 := q_in (List.mem_of_getElem? (i := 1180) (by decide +kernel)) (by decide +kernel)
theorem q_1181 : (Jvm.Cond.methodLink "BakedBeforeModel" (247 : Nat) ({ cls := "BakedBeforeModel", name := "isSpoiledBehind", desc := "(II)Z" } : Jvm.MethodName)) ∈ zW0 := q_in (List.mem_of_getElem? (i := 1181) (by decide +kernel)) (by decide +kernel)
theorem q_1183 : (Jvm.Cond.instanceMethod ({ cls := "BakedBeforeModel", name := "isSpoiledBehind", desc := "(II)Z" } : Jvm.MethodName)) ∈ zW0 := q_in (List.mem_of_getElem? (i := 1183) (by decide +kernel)) (by decide +kernel)
theorem q_1184 : (Jvm.Cond.code ({ cls := "BakedBeforeModel", name := "isSpoiledBehind", desc := "(II)Z" } : Jvm.MethodName) prog_14_method_55_code (5 : Nat) (Option.some Jvm.ClassFile.FieldType.boolean)) ∈ zW0 := q_in (List.mem_of_getElem? (i := 1184) (by decide +kernel)) (by decide +kernel)
theorem q_1186 : (Jvm.Cond.instanceMethod ({ cls := "BakedBeforeModel", name := "two", desc := "(I)I" } : Jvm.MethodName)) ∈ zW0 := q_in (List.mem_of_getElem? (i := 1186) (by decide +kernel)) (by decide +kernel)
theorem q_1187 : (Jvm.Cond.selects "BakedBeforeModel" ({ cls := "BakedBeforeModel", name := "two", desc := "(I)I" } : Jvm.MethodName) ({ cls := "BakedBeforeModel", name := "two", desc := "(I)I" } : Jvm.MethodName)) ∈ zW0 := q_in (List.mem_of_getElem? (i := 1187) (by decide +kernel)) (by decide +kernel)
theorem q_1188 : (Jvm.Cond.code ({ cls := "BakedBeforeModel", name := "two", desc := "(I)I" } : Jvm.MethodName) prog_14_method_58_code (7 : Nat) (Option.some Jvm.ClassFile.FieldType.int)) ∈ zW0 := q_in (List.mem_of_getElem? (i := 1188) (by decide +kernel)) (by decide +kernel)
theorem q_1189 : (Jvm.Cond.methodLink "BakedBeforeModel" (251 : Nat) ({ cls := "BakedBeforeModel", name := "spoiledIn", desc := "(I)I" } : Jvm.MethodName)) ∈ zW0 := q_in (List.mem_of_getElem? (i := 1189) (by decide +kernel)) (by decide +kernel)
theorem q_1191 : (Jvm.Cond.instanceMethod ({ cls := "BakedBeforeModel", name := "spoiledIn", desc := "(I)I" } : Jvm.MethodName)) ∈ zW0 := q_in (List.mem_of_getElem? (i := 1191) (by decide +kernel)) (by decide +kernel)
theorem q_1192 : (Jvm.Cond.code ({ cls := "BakedBeforeModel", name := "spoiledIn", desc := "(I)I" } : Jvm.MethodName) prog_14_method_57_code (4 : Nat) (Option.some Jvm.ClassFile.FieldType.int)) ∈ zW0 := q_in (List.mem_of_getElem? (i := 1192) (by decide +kernel)) (by decide +kernel)
theorem q_1194 : (Jvm.Cond.instanceMethod ({ cls := "BakedBeforeModel", name := "has", desc := "(I)I" } : Jvm.MethodName)) ∈ zW0 := q_in (List.mem_of_getElem? (i := 1194) (by decide +kernel)) (by decide +kernel)
theorem q_1195 : (Jvm.Cond.selects "BakedBeforeModel" ({ cls := "BakedBeforeModel", name := "has", desc := "(I)I" } : Jvm.MethodName) ({ cls := "BakedBeforeModel", name := "has", desc := "(I)I" } : Jvm.MethodName)) ∈ zW0 := q_in (List.mem_of_getElem? (i := 1195) (by decide +kernel)) (by decide +kernel)
theorem q_1196 : (Jvm.Cond.code ({ cls := "BakedBeforeModel", name := "has", desc := "(I)I" } : Jvm.MethodName) prog_14_method_60_code (6 : Nat) (Option.some Jvm.ClassFile.FieldType.int)) ∈ zW0 := q_in (List.mem_of_getElem? (i := 1196) (by decide +kernel)) (by decide +kernel)
theorem q_1197 : (Jvm.Cond.constant "BakedBeforeModel" (254 : Nat) (-100001 : Int32)) ∈ zW0 := q_in (List.mem_of_getElem? (i := 1197) (by decide +kernel)) (by decide +kernel)
theorem q_1198 : (Jvm.Cond.methodLink "BakedBeforeModel" (255 : Nat) ({ cls := "BakedBeforeModel", name := "takesBehind", desc := "(II)I" } : Jvm.MethodName)) ∈ zW0 := q_in (List.mem_of_getElem? (i := 1198) (by decide +kernel)) (by decide +kernel)
theorem q_1200 : (Jvm.Cond.instanceMethod ({ cls := "BakedBeforeModel", name := "takesBehind", desc := "(II)I" } : Jvm.MethodName)) ∈ zW0 := q_in (List.mem_of_getElem? (i := 1200) (by decide +kernel)) (by decide +kernel)
theorem q_1201 : (Jvm.Cond.code ({ cls := "BakedBeforeModel", name := "takesBehind", desc := "(II)I" } : Jvm.MethodName) prog_14_method_59_code (5 : Nat) (Option.some Jvm.ClassFile.FieldType.int)) ∈ zW0 := q_in (List.mem_of_getElem? (i := 1201) (by decide +kernel)) (by decide +kernel)
theorem q_1203 : (Jvm.Cond.instanceMethod ({ cls := "BakedBeforeModel", name := "swaps", desc := "(I)I" } : Jvm.MethodName)) ∈ zW0 := q_in (List.mem_of_getElem? (i := 1203) (by decide +kernel)) (by decide +kernel)
theorem q_1204 : (Jvm.Cond.selects "BakedBeforeModel" ({ cls := "BakedBeforeModel", name := "swaps", desc := "(I)I" } : Jvm.MethodName) ({ cls := "BakedBeforeModel", name := "swaps", desc := "(I)I" } : Jvm.MethodName)) ∈ zW0 := q_in (List.mem_of_getElem? (i := 1204) (by decide +kernel)) (by decide +kernel)
theorem q_1205 : (Jvm.Cond.code ({ cls := "BakedBeforeModel", name := "swaps", desc := "(I)I" } : Jvm.MethodName) prog_14_method_62_code (6 : Nat) (Option.some Jvm.ClassFile.FieldType.int)) ∈ zW0 := q_in (List.mem_of_getElem? (i := 1205) (by decide +kernel)) (by decide +kernel)
theorem q_1206 : (Jvm.Cond.methodLink "BakedBeforeModel" (258 : Nat) ({ cls := "BakedBeforeModel", name := "takesInRow", desc := "(II)I" } : Jvm.MethodName)) ∈ zW0 := q_in (List.mem_of_getElem? (i := 1206) (by decide +kernel)) (by decide +kernel)
theorem q_1208 : (Jvm.Cond.instanceMethod ({ cls := "BakedBeforeModel", name := "takesInRow", desc := "(II)I" } : Jvm.MethodName)) ∈ zW0 := q_in (List.mem_of_getElem? (i := 1208) (by decide +kernel)) (by decide +kernel)
theorem q_1209 : (Jvm.Cond.code ({ cls := "BakedBeforeModel", name := "takesInRow", desc := "(II)I" } : Jvm.MethodName) prog_14_method_61_code (7 : Nat) (Option.some Jvm.ClassFile.FieldType.int)) ∈ zW0 := q_in (List.mem_of_getElem? (i := 1209) (by decide +kernel)) (by decide +kernel)
theorem q_1211 : (Jvm.Cond.instanceMethod ({ cls := "BakedBeforeModel", name := "span", desc := "(IIII)I" } : Jvm.MethodName)) ∈ zW0 := q_in (List.mem_of_getElem? (i := 1211) (by decide +kernel)) (by decide +kernel)
theorem q_1212 : (Jvm.Cond.selects "BakedBeforeModel" ({ cls := "BakedBeforeModel", name := "span", desc := "(IIII)I" } : Jvm.MethodName) ({ cls := "BakedBeforeModel", name := "span", desc := "(IIII)I" } : Jvm.MethodName)) ∈ zW0 := q_in (List.mem_of_getElem? (i := 1212) (by decide +kernel)) (by decide +kernel)
theorem q_1213 : (Jvm.Cond.code ({ cls := "BakedBeforeModel", name := "span", desc := "(IIII)I" } : Jvm.MethodName) prog_14_method_63_code (11 : Nat) (Option.some Jvm.ClassFile.FieldType.int)) ∈ zW0 := q_in (List.mem_of_getElem? (i := 1213) (by decide +kernel)) (by decide +kernel)
theorem q_1215 : (Jvm.Cond.instanceMethod ({ cls := "BakedBeforeModel", name := "yea\x72", desc := "(III)I" } : Jvm.MethodName)) ∈ zW0 := q_in (List.mem_of_getElem? (i := 1215) (by decide +kernel)) (by decide +kernel)
theorem q_1216 : (Jvm.Cond.selects "BakedBeforeModel" ({ cls := "BakedBeforeModel", name := "yea\x72", desc := "(III)I" } : Jvm.MethodName) ({ cls := "BakedBeforeModel", name := "yea\x72", desc := "(III)I" } : Jvm.MethodName)) ∈ zW0 := q_in (List.mem_of_getElem? (i := 1216) (by decide +kernel)) (by decide +kernel)
theorem q_1217 : (Jvm.Cond.code ({ cls := "BakedBeforeModel", name := "yea\x72", desc := "(III)I" } : Jvm.MethodName) prog_14_method_64_code (7 : Nat) (Option.some Jvm.ClassFile.FieldType.int)) ∈ zW0 := q_in (List.mem_of_getElem? (i := 1217) (by decide +kernel)) (by decide +kernel)
theorem q_1218 : (Jvm.Cond.constant "BakedBeforeModel" (261 : Nat) (-100002 : Int32)) ∈ zW0 := q_in (List.mem_of_getElem? (i := 1218) (by decide +kernel)) (by decide +kernel)
theorem q_1219 : (Jvm.Cond.constant "BakedBeforeModel" (262 : Nat) (-100003 : Int32)) ∈ zW0 := q_in (List.mem_of_getElem? (i := 1219) (by decide +kernel)) (by decide +kernel)
theorem q_1221 : (Jvm.Cond.instanceMethod ({ cls := "BakedBeforeModel", name := "odds", desc := "(II)J" } : Jvm.MethodName)) ∈ zW0 := q_in (List.mem_of_getElem? (i := 1221) (by decide +kernel)) (by decide +kernel)
theorem q_1222 : (Jvm.Cond.selects "BakedBeforeModel" ({ cls := "BakedBeforeModel", name := "odds", desc := "(II)J" } : Jvm.MethodName) ({ cls := "BakedBeforeModel", name := "odds", desc := "(II)J" } : Jvm.MethodName)) ∈ zW0 := q_in (List.mem_of_getElem? (i := 1222) (by decide +kernel)) (by decide +kernel)
theorem q_1223 : (Jvm.Cond.code ({ cls := "BakedBeforeModel", name := "odds", desc := "(II)J" } : Jvm.MethodName) prog_14_method_67_code (6 : Nat) (Option.some Jvm.ClassFile.FieldType.long)) ∈ zW0 := q_in (List.mem_of_getElem? (i := 1223) (by decide +kernel)) (by decide +kernel)
theorem q_1224 : (Jvm.Cond.constantLong "BakedBeforeModel" (266 : Nat) (-9223372036854775808 : Int64)) ∈ zW0 := q_in (List.mem_of_getElem? (i := 1224) (by decide +kernel)) (by decide +kernel)
theorem q_1225 : (Jvm.Cond.methodLink "BakedBeforeModel" (268 : Nat) ({ cls := "BakedBeforeModel", name := "lowest", desc := "(III)J" } : Jvm.MethodName)) ∈ zW0 := q_in (List.mem_of_getElem? (i := 1225) (by decide +kernel)) (by decide +kernel)
theorem q_1226 : (Jvm.Cond.static ({ cls := "BakedBeforeModel", name := "lowest", desc := "(III)J" } : Jvm.MethodName)) ∈ zW0 := q_in (List.mem_of_getElem? (i := 1226) (by decide +kernel)) (by decide +kernel)
theorem q_1227 : (Jvm.Cond.code ({ cls := "BakedBeforeModel", name := "lowest", desc := "(III)J" } : Jvm.MethodName) prog_14_method_66_code (4 : Nat) (Option.some Jvm.ClassFile.FieldType.long)) ∈ zW0 := q_in (List.mem_of_getElem? (i := 1227) (by decide +kernel)) (by decide +kernel)
theorem q_1228 : (Jvm.Cond.methodLink "BakedBeforeModel" (263 : Nat) ({ cls := "BakedBeforeModel", name := "common", desc := "(II)I" } : Jvm.MethodName)) ∈ zW0 := q_in (List.mem_of_getElem? (i := 1228) (by decide +kernel)) (by decide +kernel)
theorem q_1229 : (Jvm.Cond.static ({ cls := "BakedBeforeModel", name := "common", desc := "(II)I" } : Jvm.MethodName)) ∈ zW0 := q_in (List.mem_of_getElem? (i := 1229) (by decide +kernel)) (by decide +kernel)
theorem q_1230 : (Jvm.Cond.code ({ cls := "BakedBeforeModel", name := "common", desc := "(II)I" } : Jvm.MethodName) prog_14_method_65_code (2 : Nat) (Option.some Jvm.ClassFile.FieldType.int)) ∈ zW0 := q_in (List.mem_of_getElem? (i := 1230) (by decide +kernel)) (by decide +kernel)
theorem q_1232 : (Jvm.Cond.instanceMethod ({ cls := "BakedBeforeModel", name := "mean", desc := "(II)J" } : Jvm.MethodName)) ∈ zW0 := q_in (List.mem_of_getElem? (i := 1232) (by decide +kernel)) (by decide +kernel)
theorem q_1233 : (Jvm.Cond.selects "BakedBeforeModel" ({ cls := "BakedBeforeModel", name := "mean", desc := "(II)J" } : Jvm.MethodName) ({ cls := "BakedBeforeModel", name := "mean", desc := "(II)J" } : Jvm.MethodName)) ∈ zW0 := q_in (List.mem_of_getElem? (i := 1233) (by decide +kernel)) (by decide +kernel)
theorem q_1234 : (Jvm.Cond.code ({ cls := "BakedBeforeModel", name := "mean", desc := "(II)J" } : Jvm.MethodName) prog_14_method_68_code (5 : Nat) (Option.some Jvm.ClassFile.FieldType.long)) ∈ zW0 := q_in (List.mem_of_getElem? (i := 1234) (by decide +kernel)) (by decide +kernel)
theorem q_1236 : (Jvm.Cond.instanceMethod ({ cls := "BakedBeforeModel", name := "book", desc := "(IZ)I" } : Jvm.MethodName)) ∈ zW0 := q_in (List.mem_of_getElem? (i := 1236) (by decide +kernel)) (by decide +kernel)
theorem q_1237 : (Jvm.Cond.selects "BakedBeforeModel" ({ cls := "BakedBeforeModel", name := "book", desc := "(IZ)I" } : Jvm.MethodName) ({ cls := "BakedBeforeModel", name := "book", desc := "(IZ)I" } : Jvm.MethodName)) ∈ zW0 := q_in (List.mem_of_getElem? (i := 1237) (by decide +kernel)) (by decide +kernel)
theorem q_1238 : (Jvm.Cond.code ({ cls := "BakedBeforeModel", name := "book", desc := "(IZ)I" } : Jvm.MethodName) prog_14_method_69_code (3 : Nat) (Option.some Jvm.ClassFile.FieldType.int)) ∈ zW0 := q_in (List.mem_of_getElem? (i := 1238) (by decide +kernel)) (by decide +kernel)
theorem q_1240 : (Jvm.Cond.instanceMethod ({ cls := "BakedBeforeModel", name := "looked", desc := "()I" } : Jvm.MethodName)) ∈ zW0 := q_in (List.mem_of_getElem? (i := 1240) (by decide +kernel)) (by decide +kernel)
theorem q_1241 : (Jvm.Cond.selects "BakedBeforeModel" ({ cls := "BakedBeforeModel", name := "looked", desc := "()I" } : Jvm.MethodName) ({ cls := "BakedBeforeModel", name := "looked", desc := "()I" } : Jvm.MethodName)) ∈ zW0 := q_in (List.mem_of_getElem? (i := 1241) (by decide +kernel)) (by decide +kernel)
theorem q_1242 : (Jvm.Cond.code ({ cls := "BakedBeforeModel", name := "looked", desc := "()I" } : Jvm.MethodName) prog_14_method_71_code (3 : Nat) (Option.some Jvm.ClassFile.FieldType.int)) ∈ zW0 := q_in (List.mem_of_getElem? (i := 1242) (by decide +kernel)) (by decide +kernel)
theorem q_1243 : (Jvm.Cond.methodLink "BakedBeforeModel" (272 : Nat) ({ cls := "BakedBeforeModel", name := "isBookedSo", desc := "(I)Z" } : Jvm.MethodName)) ∈ zW0 := q_in (List.mem_of_getElem? (i := 1243) (by decide +kernel)) (by decide +kernel)
theorem q_1245 : (Jvm.Cond.instanceMethod ({ cls := "BakedBeforeModel", name := "isBookedSo", desc := "(I)Z" } : Jvm.MethodName)) ∈ zW0 := q_in (List.mem_of_getElem? (i := 1245) (by decide +kernel)) (by decide +kernel)
theorem q_1246 : (Jvm.Cond.code ({ cls := "BakedBeforeModel", name := "isBookedSo", desc := "(I)Z" } : Jvm.MethodName) prog_14_method_70_code (4 : Nat) (Option.some Jvm.ClassFile.FieldType.boolean)) ∈ zW0 := q_in (List.mem_of_getElem? (i := 1246) (by decide +kernel)) (by decide +kernel)
theorem q_1248 : (Jvm.Cond.instanceMethod ({ cls := "BakedBeforeModel", name := "judge", desc := "(II)I" } : Jvm.MethodName)) ∈ zW0 := q_in (List.mem_of_getElem? (i := 1248) (by decide +kernel)) (by decide +kernel)
theorem q_1249 : (Jvm.Cond.selects "BakedBeforeModel" ({ cls := "BakedBeforeModel", name := "judge", desc := "(II)I" } : Jvm.MethodName) ({ cls := "BakedBeforeModel", name := "judge", desc := "(II)I" } : Jvm.MethodName)) ∈ zW0 := q_in (List.mem_of_getElem? (i := 1249) (by decide +kernel)) (by decide +kernel)
theorem q_1250 : (Jvm.Cond.code ({ cls := "BakedBeforeModel", name := "judge", desc := "(II)I" } : Jvm.MethodName) prog_14_method_73_code (4 : Nat) (Option.some Jvm.ClassFile.FieldType.int)) ∈ zW0 := q_in (List.mem_of_getElem? (i := 1250) (by decide +kernel)) (by decide +kernel)
theorem q_1251 : (Jvm.Cond.methodLink "BakedBeforeModel" (275 : Nat) ({ cls := "BakedBeforeModel", name := "isTape", desc := "(I)Z" } : Jvm.MethodName)) ∈ zW0 := q_in (List.mem_of_getElem? (i := 1251) (by decide +kernel)) (by decide +kernel)
theorem q_1252 : (Jvm.Cond.static ({ cls := "BakedBeforeModel", name := "isTape", desc := "(I)Z" } : Jvm.MethodName)) ∈ zW0 := q_in (List.mem_of_getElem? (i := 1252) (by decide +kernel)) (by decide +kernel)
theorem q_1253 : (Jvm.Cond.code ({ cls := "BakedBeforeModel", name := "isTape", desc := "(I)Z" } : Jvm.MethodName) prog_14_method_72_code (1 : Nat) (Option.some Jvm.ClassFile.FieldType.boolean)) ∈ zW0 := q_in (List.mem_of_getElem? (i := 1253) (by decide +kernel)) (by decide +kernel)
theorem q_1255 : (Jvm.Cond.instanceMethod ({ cls := "BakedBeforeModel", name := "image", desc := "()I" } : Jvm.MethodName)) ∈ zW0 := q_in (List.mem_of_getElem? (i := 1255) (by decide +kernel)) (by decide +kernel)
theorem q_1256 : (Jvm.Cond.selects "BakedBeforeModel" ({ cls := "BakedBeforeModel", name := "image", desc := "()I" } : Jvm.MethodName) ({ cls := "BakedBeforeModel", name := "image", desc := "()I" } : Jvm.MethodName)) ∈ zW0 := q_in (List.mem_of_getElem? (i := 1256) (by decide +kernel)) (by decide +kernel)
theorem q_1257 : (Jvm.Cond.code ({ cls := "BakedBeforeModel", name := "image", desc := "()I" } : Jvm.MethodName) prog_14_method_74_code (1 : Nat) (Option.some Jvm.ClassFile.FieldType.int)) ∈ zW0 := q_in (List.mem_of_getElem? (i := 1257) (by decide +kernel)) (by decide +kernel)
theorem q_1259 : (Jvm.Cond.instanceMethod ({ cls := "BakedBeforeModel", name := "undo", desc := "()I" } : Jvm.MethodName)) ∈ zW0 := q_in (List.mem_of_getElem? (i := 1259) (by decide +kernel)) (by decide +kernel)
theorem q_1260 : (Jvm.Cond.selects "BakedBeforeModel" ({ cls := "BakedBeforeModel", name := "undo", desc := "()I" } : Jvm.MethodName) ({ cls := "BakedBeforeModel", name := "undo", desc := "()I" } : Jvm.MethodName)) ∈ zW0 := q_in (List.mem_of_getElem? (i := 1260) (by decide +kernel)) (by decide +kernel)
theorem q_1261 : (Jvm.Cond.code ({ cls := "BakedBeforeModel", name := "undo", desc := "()I" } : Jvm.MethodName) prog_14_method_75_code (1 : Nat) (Option.some Jvm.ClassFile.FieldType.int)) ∈ zW0 := q_in (List.mem_of_getElem? (i := 1261) (by decide +kernel)) (by decide +kernel)
theorem q_1263 : (Jvm.Cond.instanceMethod ({ cls := "BakedBeforeModel", name := "act", desc := "(III)I" } : Jvm.MethodName)) ∈ zW0 := q_in (List.mem_of_getElem? (i := 1263) (by decide +kernel)) (by decide +kernel)
theorem q_1264 : (Jvm.Cond.selects "BakedBeforeModel" ({ cls := "BakedBeforeModel", name := "act", desc := "(III)I" } : Jvm.MethodName) ({ cls := "BakedBeforeModel", name := "act", desc := "(III)I" } : Jvm.MethodName)) ∈ zW0 := q_in (List.mem_of_getElem? (i := 1264) (by decide +kernel)) (by decide +kernel)
theorem q_1265 : (Jvm.Cond.code ({ cls := "BakedBeforeModel", name := "act", desc := "(III)I" } : Jvm.MethodName) prog_14_method_80_code (5 : Nat) (Option.some Jvm.ClassFile.FieldType.int)) ∈ zW0 := q_in (List.mem_of_getElem? (i := 1265) (by decide +kernel)) (by decide +kernel)
theorem q_1266 : (Jvm.Cond.methodLink "BakedBeforeModel" (288 : Nat) ({ cls := "BakedBeforeModel", name := "rises", desc := "(II)I" } : Jvm.MethodName)) ∈ zW0 := q_in (List.mem_of_getElem? (i := 1266) (by decide +kernel)) (by decide +kernel)
theorem q_1268 : (Jvm.Cond.instanceMethod ({ cls := "BakedBeforeModel", name := "rises", desc := "(II)I" } : Jvm.MethodName)) ∈ zW0 := q_in (List.mem_of_getElem? (i := 1268) (by decide +kernel)) (by decide +kernel)
theorem q_1269 : (Jvm.Cond.code ({ cls := "BakedBeforeModel", name := "rises", desc := "(II)I" } : Jvm.MethodName) prog_14_method_77_code (3 : Nat) (Option.some Jvm.ClassFile.FieldType.int)) ∈ zW0 := q_in (List.mem_of_getElem? (i := 1269) (by decide +kernel)) (by decide +kernel)
theorem q_1270 : (Jvm.Cond.methodLink "BakedBeforeModel" (284 : Nat) ({ cls := "BakedBeforeModel", name := "runs", desc := "(I)V" } : Jvm.MethodName)) ∈ zW0 := q_in (List.mem_of_getElem? (i := 1270) (by decide +kernel)) (by decide +kernel)
theorem q_1272 : (Jvm.Cond.instanceMethod ({ cls := "BakedBeforeModel", name := "runs", desc := "(I)V" } : Jvm.MethodName)) ∈ zW0 := q_in (List.mem_of_getElem? (i := 1272) (by decide +kernel)) (by decide +kernel)
theorem q_1273 : (Jvm.Cond.code ({ cls := "BakedBeforeModel", name := "runs", desc := "(I)V" } : Jvm.MethodName) prog_14_method_76_code (2 : Nat) (Option.none : Option Jvm.ClassFile.FieldType)) ∈ zW0 := q_in (List.mem_of_getElem? (i := 1273) (by decide +kernel)) (by decide +kernel)
theorem q_1274 : (Jvm.Cond.methodLink "BakedBeforeModel" (294 : Nat) ({ cls := "BakedBeforeModel", name := "bakesFrom", desc := "(II)I" } : Jvm.MethodName)) ∈ zW0 := q_in (List.mem_of_getElem? (i := 1274) (by decide +kernel)) (by decide +kernel)
theorem q_1276 : (Jvm.Cond.instanceMethod ({ cls := "BakedBeforeModel", name := "bakesFrom", desc := "(II)I" } : Jvm.MethodName)) ∈ zW0 := q_in (List.mem_of_getElem? (i := 1276) (by decide +kernel)) (by decide +kernel)
theorem q_1277 : (Jvm.Cond.code ({ cls := "BakedBeforeModel", name := "bakesFrom", desc := "(II)I" } : Jvm.MethodName) prog_14_method_78_code (4 : Nat) (Option.some Jvm.ClassFile.FieldType.int)) ∈ zW0 := q_in (List.mem_of_getElem? (i := 1277) (by decide +kernel)) (by decide +kernel)
theorem q_1278 : (Jvm.Cond.methodLink "BakedBeforeModel" (297 : Nat) ({ cls := "BakedBeforeModel", name := "tells", desc := "(II)I" } : Jvm.MethodName)) ∈ zW0 := q_in (List.mem_of_getElem? (i := 1278) (by decide +kernel)) (by decide +kernel)
theorem q_1280 : (Jvm.Cond.instanceMethod ({ cls := "BakedBeforeModel", name := "tells", desc := "(II)I" } : Jvm.MethodName)) ∈ zW0 := q_in (List.mem_of_getElem? (i := 1280) (by decide +kernel)) (by decide +kernel)
theorem q_1281 : (Jvm.Cond.code ({ cls := "BakedBeforeModel", name := "tells", desc := "(II)I" } : Jvm.MethodName) prog_14_method_79_code (4 : Nat) (Option.some Jvm.ClassFile.FieldType.int)) ∈ zW0 := q_in (List.mem_of_getElem? (i := 1281) (by decide +kernel)) (by decide +kernel)
theorem q_1283 : (Jvm.Cond.instanceMethod ({ cls := "BakedBeforeModel", name := "trace", desc := "(I)I" } : Jvm.MethodName)) ∈ zW0 := q_in (List.mem_of_getElem? (i := 1283) (by decide +kernel)) (by decide +kernel)
theorem q_1284 : (Jvm.Cond.selects "BakedBeforeModel" ({ cls := "BakedBeforeModel", name := "trace", desc := "(I)I" } : Jvm.MethodName) ({ cls := "BakedBeforeModel", name := "trace", desc := "(I)I" } : Jvm.MethodName)) ∈ zW0 := q_in (List.mem_of_getElem? (i := 1284) (by decide +kernel)) (by decide +kernel)
theorem q_1285 : (Jvm.Cond.code ({ cls := "BakedBeforeModel", name := "trace", desc := "(I)I" } : Jvm.MethodName) prog_14_method_81_code (2 : Nat) (Option.some Jvm.ClassFile.FieldType.int)) ∈ zW0 := q_in (List.mem_of_getElem? (i := 1285) (by decide +kernel)) (by decide +kernel)
theorem q_1287 : (Jvm.Cond.instanceMethod ({ cls := "BakedBeforeModel", name := "taken", desc := "(II)I" } : Jvm.MethodName)) ∈ zW0 := q_in (List.mem_of_getElem? (i := 1287) (by decide +kernel)) (by decide +kernel)
theorem q_1288 : (Jvm.Cond.selects "BakedBeforeModel" ({ cls := "BakedBeforeModel", name := "taken", desc := "(II)I" } : Jvm.MethodName) ({ cls := "BakedBeforeModel", name := "taken", desc := "(II)I" } : Jvm.MethodName)) ∈ zW0 := q_in (List.mem_of_getElem? (i := 1288) (by decide +kernel)) (by decide +kernel)
theorem q_1289 : (Jvm.Cond.code ({ cls := "BakedBeforeModel", name := "taken", desc := "(II)I" } : Jvm.MethodName) prog_14_method_83_code (4 : Nat) (Option.some Jvm.ClassFile.FieldType.int)) ∈ zW0 := q_in (List.mem_of_getElem? (i := 1289) (by decide +kernel)) (by decide +kernel)
theorem q_1290 : (Jvm.Cond.methodLink "BakedBeforeModel" (300 : Nat) ({ cls := "BakedBeforeModel", name := "above", desc := "(I)I" } : Jvm.MethodName)) ∈ zW0 := q_in (List.mem_of_getElem? (i := 1290) (by decide +kernel)) (by decide +kernel)
theorem q_1291 : (Jvm.Cond.static ({ cls := "BakedBeforeModel", name := "above", desc := "(I)I" } : Jvm.MethodName)) ∈ zW0 := q_in (List.mem_of_getElem? (i := 1291) (by decide +kernel)) (by decide +kernel)
theorem q_1292 : (Jvm.Cond.code ({ cls := "BakedBeforeModel", name := "above", desc := "(I)I" } : Jvm.MethodName) prog_14_method_82_code (1 : Nat) (Option.some Jvm.ClassFile.FieldType.int)) ∈ zW0 := q_in (List.mem_of_getElem? (i := 1292) (by decide +kernel)) (by decide +kernel)
theorem q_1294 : (Jvm.Cond.instanceMethod ({ cls := "BakedBeforeModel", name := "count", desc := "(I)I" } : Jvm.MethodName)) ∈ zW0 := q_in (List.mem_of_getElem? (i := 1294) (by decide +kernel)) (by decide +kernel)
theorem q_1295 : (Jvm.Cond.selects "BakedBeforeModel" ({ cls := "BakedBeforeModel", name := "count", desc := "(I)I" } : Jvm.MethodName) ({ cls := "BakedBeforeModel", name := "count", desc := "(I)I" } : Jvm.MethodName)) ∈ zW0 := q_in (List.mem_of_getElem? (i := 1295) (by decide +kernel)) (by decide +kernel)
theorem q_1296 : (Jvm.Cond.code ({ cls := "BakedBeforeModel", name := "count", desc := "(I)I" } : Jvm.MethodName) prog_14_method_84_code (2 : Nat) (Option.some Jvm.ClassFile.FieldType.int)) ∈ zW0 := q_in (List.mem_of_getElem? (i := 1296) (by decide +kernel)) (by decide +kernel)
theorem q_1298 : (Jvm.Cond.instanceMethod ({ cls := "BakedBeforeModel", name := "tape", desc := "(III)I" } : Jvm.MethodName)) ∈ zW0 := q_in (List.mem_of_getElem? (i := 1298) (by decide +kernel)) (by decide +kernel)
theorem q_1299 : (Jvm.Cond.selects "BakedBeforeModel" ({ cls := "BakedBeforeModel", name := "tape", desc := "(III)I" } : Jvm.MethodName) ({ cls := "BakedBeforeModel", name := "tape", desc := "(III)I" } : Jvm.MethodName)) ∈ zW0 := q_in (List.mem_of_getElem? (i := 1299) (by decide +kernel)) (by decide +kernel)
theorem q_1300 : (Jvm.Cond.code ({ cls := "BakedBeforeModel", name := "tape", desc := "(III)I" } : Jvm.MethodName) prog_14_method_85_code (5 : Nat) (Option.some Jvm.ClassFile.FieldType.int)) ∈ zW0 := q_in (List.mem_of_getElem? (i := 1300) (by decide +kernel)) (by decide +kernel)
theorem q_1302 : (Jvm.Cond.instanceMethod ({ cls := "BakedBeforeModel", name := "item", desc := "(IIJ)I" } : Jvm.MethodName)) ∈ zW0 := q_in (List.mem_of_getElem? (i := 1302) (by decide +kernel)) (by decide +kernel)
theorem q_1303 : (Jvm.Cond.selects "BakedBeforeModel" ({ cls := "BakedBeforeModel", name := "item", desc := "(IIJ)I" } : Jvm.MethodName) ({ cls := "BakedBeforeModel", name := "item", desc := "(IIJ)I" } : Jvm.MethodName)) ∈ zW0 := q_in (List.mem_of_getElem? (i := 1303) (by decide +kernel)) (by decide +kernel)
theorem q_1304 : (Jvm.Cond.code ({ cls := "BakedBeforeModel", name := "item", desc := "(IIJ)I" } : Jvm.MethodName) prog_14_method_87_code (5 : Nat) (Option.some Jvm.ClassFile.FieldType.int)) ∈ zW0 := q_in (List.mem_of_getElem? (i := 1304) (by decide +kernel)) (by decide +kernel)
theorem q_1305 : (Jvm.Cond.methodLink "BakedBeforeModel" (303 : Nat) ({ cls := "BakedBeforeModel", name := "kept", desc := "(IJ)J" } : Jvm.MethodName)) ∈ zW0 := q_in (List.mem_of_getElem? (i := 1305) (by decide +kernel)) (by decide +kernel)
theorem q_1306 : (Jvm.Cond.static ({ cls := "BakedBeforeModel", name := "kept", desc := "(IJ)J" } : Jvm.MethodName)) ∈ zW0 := q_in (List.mem_of_getElem? (i := 1306) (by decide +kernel)) (by decide +kernel)
theorem q_1307 : (Jvm.Cond.code ({ cls := "BakedBeforeModel", name := "kept", desc := "(IJ)J" } : Jvm.MethodName) prog_14_method_86_code (3 : Nat) (Option.some Jvm.ClassFile.FieldType.long)) ∈ zW0 := q_in (List.mem_of_getElem? (i := 1307) (by decide +kernel)) (by decide +kernel)
theorem q_1309 : (Jvm.Cond.instanceMethod ({ cls := "BakedBeforeModel", name := "read", desc := "(II)J" } : Jvm.MethodName)) ∈ zW0 := q_in (List.mem_of_getElem? (i := 1309) (by decide +kernel)) (by decide +kernel)
theorem q_1310 : (Jvm.Cond.selects "BakedBeforeModel" ({ cls := "BakedBeforeModel", name := "read", desc := "(II)J" } : Jvm.MethodName) ({ cls := "BakedBeforeModel", name := "read", desc := "(II)J" } : Jvm.MethodName)) ∈ zW0 := q_in (List.mem_of_getElem? (i := 1310) (by decide +kernel)) (by decide +kernel)
theorem q_1311 : (Jvm.Cond.code ({ cls := "BakedBeforeModel", name := "read", desc := "(II)J" } : Jvm.MethodName) prog_14_method_88_code (3 : Nat) (Option.some Jvm.ClassFile.FieldType.long)) ∈ zW0 := q_in (List.mem_of_getElem? (i := 1311) (by decide +kernel)) (by decide +kernel)
theorem q_1313 : (Jvm.Cond.instanceMethod ({ cls := "BakedBeforeModel", name := "shift", desc := "(IIIII)I" } : Jvm.MethodName)) ∈ zW0 := q_in (List.mem_of_getElem? (i := 1313) (by decide +kernel)) (by decide +kernel)
theorem q_1314 : (Jvm.Cond.selects "BakedBeforeModel" ({ cls := "BakedBeforeModel", name := "shift", desc := "(IIIII)I" } : Jvm.MethodName) ({ cls := "BakedBeforeModel", name := "shift", desc := "(IIIII)I" } : Jvm.MethodName)) ∈ zW0 := q_in (List.mem_of_getElem? (i := 1314) (by decide +kernel)) (by decide +kernel)
theorem q_1315 : (Jvm.Cond.code ({ cls := "BakedBeforeModel", name := "shift", desc := "(IIIII)I" } : Jvm.MethodName) prog_14_method_89_code (8 : Nat) (Option.some Jvm.ClassFile.FieldType.int)) ∈ zW0 := q_in (List.mem_of_getElem? (i := 1315) (by decide +kernel)) (by decide +kernel)
theorem qs_0 : (Jvm.Cond.selects "BakedBefore" ({ cls := "BakedBefore", name := "isLoaf", desc := "(I)Z" } : Jvm.MethodName) ({ cls := "BakedBefore", name := "isLoaf", desc := "(I)Z" } : Jvm.MethodName)) ∈ zW0 := q_is (List.mem_of_getElem? (i := 0) (by decide +kernel)) (by decide +kernel)
theorem qs_1 : (Jvm.Cond.selects "BakedBefore$Kiln" ({ cls := "BakedBefore$Kiln", name := "holds", desc := "(II)Z" } : Jvm.MethodName) ({ cls := "BakedBefore$Kiln", name := "holds", desc := "(II)Z" } : Jvm.MethodName)) ∈ zW0 := q_is (List.mem_of_getElem? (i := 1) (by decide +kernel)) (by decide +kernel)
theorem qs_2 : (Jvm.Cond.selects "BakedBefore" ({ cls := "BakedBefore", name := "ofTaste", desc := "(LBakedBefore$Loaf;II)I" } : Jvm.MethodName) ({ cls := "BakedBefore", name := "ofTaste", desc := "(LBakedBefore$Loaf;II)I" } : Jvm.MethodName)) ∈ zW0 := q_is (List.mem_of_getElem? (i := 2) (by decide +kernel)) (by decide +kernel)
theorem qs_3 : (Jvm.Cond.selects "BakedBefore$Reade\x72" ({ cls := "BakedBefore$Reade\x72", name := "readClause", desc := "()Z" } : Jvm.MethodName) ({ cls := "BakedBefore$Reade\x72", name := "readClause", desc := "()Z" } : Jvm.MethodName)) ∈ zW0 := q_is (List.mem_of_getElem? (i := 3) (by decide +kernel)) (by decide +kernel)
theorem qs_4 : (Jvm.Cond.selects "BakedBefore$Reade\x72" ({ cls := "BakedBefore$Reade\x72", name := "here", desc := "()I" } : Jvm.MethodName) ({ cls := "BakedBefore$Reade\x72", name := "here", desc := "()I" } : Jvm.MethodName)) ∈ zW0 := q_is (List.mem_of_getElem? (i := 4) (by decide +kernel)) (by decide +kernel)
theorem qs_5 : (Jvm.Cond.selects "BakedBefore$Reade\x72" ({ cls := "BakedBefore$Reade\x72", name := "readWord", desc := "(Ljava/lang/String;)Z" } : Jvm.MethodName) ({ cls := "BakedBefore$Reade\x72", name := "readWord", desc := "(Ljava/lang/String;)Z" } : Jvm.MethodName)) ∈ zW0 := q_is (List.mem_of_getElem? (i := 5) (by decide +kernel)) (by decide +kernel)
theorem qs_6 : (Jvm.Cond.selects "BakedBefore$Reade\x72" ({ cls := "BakedBefore$Reade\x72", name := "skip", desc := "(C)Z" } : Jvm.MethodName) ({ cls := "BakedBefore$Reade\x72", name := "skip", desc := "(C)Z" } : Jvm.MethodName)) ∈ zW0 := q_is (List.mem_of_getElem? (i := 6) (by decide +kernel)) (by decide +kernel)
theorem qs_7 : (Jvm.Cond.selects "BakedBefore$Reade\x72" ({ cls := "BakedBefore$Reade\x72", name := "readNumbe\x72", desc := "()Z" } : Jvm.MethodName) ({ cls := "BakedBefore$Reade\x72", name := "readNumbe\x72", desc := "()Z" } : Jvm.MethodName)) ∈ zW0 := q_is (List.mem_of_getElem? (i := 7) (by decide +kernel)) (by decide +kernel)
theorem qs_8 : (Jvm.Cond.selects "BakedBefore$Reade\x72" ({ cls := "BakedBefore$Reade\x72", name := "readEithe\x72", desc := "(I)Z" } : Jvm.MethodName) ({ cls := "BakedBefore$Reade\x72", name := "readEithe\x72", desc := "(I)Z" } : Jvm.MethodName)) ∈ zW0 := q_is (List.mem_of_getElem? (i := 8) (by decide +kernel)) (by decide +kernel)
theorem qs_9 : (Jvm.Cond.selects "BakedBefore$Reade\x72" ({ cls := "BakedBefore$Reade\x72", name := "readBoth", desc := "(I)Z" } : Jvm.MethodName) ({ cls := "BakedBefore$Reade\x72", name := "readBoth", desc := "(I)Z" } : Jvm.MethodName)) ∈ zW0 := q_is (List.mem_of_getElem? (i := 9) (by decide +kernel)) (by decide +kernel)
theorem qs_10 : (Jvm.Cond.selects "BakedBefore$Reade\x72" ({ cls := "BakedBefore$Reade\x72", name := "readPart", desc := "(I)Z" } : Jvm.MethodName) ({ cls := "BakedBefore$Reade\x72", name := "readPart", desc := "(I)Z" } : Jvm.MethodName)) ∈ zW0 := q_is (List.mem_of_getElem? (i := 10) (by decide +kernel)) (by decide +kernel)
theorem qs_11 : (Jvm.Cond.selects "BakedBefore$Reade\x72" ({ cls := "BakedBefore$Reade\x72", name := "readTest", desc := "()Z" } : Jvm.MethodName) ({ cls := "BakedBefore$Reade\x72", name := "readTest", desc := "()Z" } : Jvm.MethodName)) ∈ zW0 := q_is (List.mem_of_getElem? (i := 11) (by decide +kernel)) (by decide +kernel)
theorem qs_12 : (Jvm.Cond.selects "BakedBefore" ({ cls := "BakedBefore", name := "isSet", desc := "(II)Z" } : Jvm.MethodName) ({ cls := "BakedBefore", name := "isSet", desc := "(II)Z" } : Jvm.MethodName)) ∈ zW0 := q_is (List.mem_of_getElem? (i := 12) (by decide +kernel)) (by decide +kernel)
theorem qs_13 : (Jvm.Cond.selects "BakedBefore$Search" ({ cls := "BakedBefore$Search", name := "keep", desc := "(I)V" } : Jvm.MethodName) ({ cls := "BakedBefore$Search", name := "keep", desc := "(I)V" } : Jvm.MethodName)) ∈ zW0 := q_is (List.mem_of_getElem? (i := 13) (by decide +kernel)) (by decide +kernel)
theorem qs_14 : (Jvm.Cond.selects "BakedBefore$Aske\x72" ({ cls := "BakedBefore$Aske\x72", name := "spoilsWithout", desc := "(II)Z" } : Jvm.MethodName) ({ cls := "BakedBefore$Aske\x72", name := "spoilsWithout", desc := "(II)Z" } : Jvm.MethodName)) ∈ zW0 := q_is (List.mem_of_getElem? (i := 14) (by decide +kernel)) (by decide +kernel)
theorem qs_15 : (Jvm.Cond.selects "BakedBefore$Aske\x72" ({ cls := "BakedBefore$Aske\x72", name := "spoiledIn", desc := "(I)I" } : Jvm.MethodName) ({ cls := "BakedBefore$Aske\x72", name := "spoiledIn", desc := "(I)I" } : Jvm.MethodName)) ∈ zW0 := q_is (List.mem_of_getElem? (i := 15) (by decide +kernel)) (by decide +kernel)
theorem qs_16 : (Jvm.Cond.selects "BakedBefore$Aske\x72" ({ cls := "BakedBefore$Aske\x72", name := "gainOfFirst", desc := "(I)I" } : Jvm.MethodName) ({ cls := "BakedBefore$Aske\x72", name := "gainOfFirst", desc := "(I)I" } : Jvm.MethodName)) ∈ zW0 := q_is (List.mem_of_getElem? (i := 16) (by decide +kernel)) (by decide +kernel)
theorem qs_17 : (Jvm.Cond.selects "BakedBefore$Aske\x72" ({ cls := "BakedBefore$Aske\x72", name := "bakeAhead", desc := "(I)V" } : Jvm.MethodName) ({ cls := "BakedBefore$Aske\x72", name := "bakeAhead", desc := "(I)V" } : Jvm.MethodName)) ∈ zW0 := q_is (List.mem_of_getElem? (i := 17) (by decide +kernel)) (by decide +kernel)
theorem qs_18 : (Jvm.Cond.selects "BakedBefore$Acts" ({ cls := "BakedBefore$Acts", name := "note", desc := "(I)V" } : Jvm.MethodName) ({ cls := "BakedBefore$Acts", name := "note", desc := "(I)V" } : Jvm.MethodName)) ∈ zW0 := q_is (List.mem_of_getElem? (i := 18) (by decide +kernel)) (by decide +kernel)
theorem qs_19 : (Jvm.Cond.selects "BakedBeforeModel" ({ cls := "BakedBeforeModel", name := "reads", desc := "(III)V" } : Jvm.MethodName) ({ cls := "BakedBeforeModel", name := "reads", desc := "(III)V" } : Jvm.MethodName)) ∈ zW0 := q_is (List.mem_of_getElem? (i := 19) (by decide +kernel)) (by decide +kernel)
theorem qs_20 : (Jvm.Cond.selects "BakedBeforeModel" ({ cls := "BakedBeforeModel", name := "readsClause", desc := "()V" } : Jvm.MethodName) ({ cls := "BakedBeforeModel", name := "readsClause", desc := "()V" } : Jvm.MethodName)) ∈ zW0 := q_is (List.mem_of_getElem? (i := 20) (by decide +kernel)) (by decide +kernel)
theorem qs_21 : (Jvm.Cond.selects "BakedBeforeModel" ({ cls := "BakedBeforeModel", name := "here", desc := "()I" } : Jvm.MethodName) ({ cls := "BakedBeforeModel", name := "here", desc := "()I" } : Jvm.MethodName)) ∈ zW0 := q_is (List.mem_of_getElem? (i := 21) (by decide +kernel)) (by decide +kernel)
theorem qs_22 : (Jvm.Cond.selects "BakedBeforeModel" ({ cls := "BakedBeforeModel", name := "readsWord", desc := "(Ljava/lang/String;)V" } : Jvm.MethodName) ({ cls := "BakedBeforeModel", name := "readsWord", desc := "(Ljava/lang/String;)V" } : Jvm.MethodName)) ∈ zW0 := q_is (List.mem_of_getElem? (i := 22) (by decide +kernel)) (by decide +kernel)
theorem qs_23 : (Jvm.Cond.selects "BakedBeforeModel" ({ cls := "BakedBeforeModel", name := "takes", desc := "(I)Z" } : Jvm.MethodName) ({ cls := "BakedBeforeModel", name := "takes", desc := "(I)Z" } : Jvm.MethodName)) ∈ zW0 := q_is (List.mem_of_getElem? (i := 23) (by decide +kernel)) (by decide +kernel)
theorem qs_24 : (Jvm.Cond.selects "BakedBeforeModel" ({ cls := "BakedBeforeModel", name := "readsNumbe\x72", desc := "()I" } : Jvm.MethodName) ({ cls := "BakedBeforeModel", name := "readsNumbe\x72", desc := "()I" } : Jvm.MethodName)) ∈ zW0 := q_is (List.mem_of_getElem? (i := 24) (by decide +kernel)) (by decide +kernel)
theorem qs_25 : (Jvm.Cond.selects "BakedBeforeModel" ({ cls := "BakedBeforeModel", name := "isDigit", desc := "()Z" } : Jvm.MethodName) ({ cls := "BakedBeforeModel", name := "isDigit", desc := "()Z" } : Jvm.MethodName)) ∈ zW0 := q_is (List.mem_of_getElem? (i := 25) (by decide +kernel)) (by decide +kernel)
theorem qs_26 : (Jvm.Cond.selects "BakedBeforeModel" ({ cls := "BakedBeforeModel", name := "readsE", desc := "(I)Z" } : Jvm.MethodName) ({ cls := "BakedBeforeModel", name := "readsE", desc := "(I)Z" } : Jvm.MethodName)) ∈ zW0 := q_is (List.mem_of_getElem? (i := 26) (by decide +kernel)) (by decide +kernel)
theorem qs_27 : (Jvm.Cond.selects "BakedBeforeModel" ({ cls := "BakedBeforeModel", name := "readsT", desc := "(I)Z" } : Jvm.MethodName) ({ cls := "BakedBeforeModel", name := "readsT", desc := "(I)Z" } : Jvm.MethodName)) ∈ zW0 := q_is (List.mem_of_getElem? (i := 27) (by decide +kernel)) (by decide +kernel)
theorem qs_28 : (Jvm.Cond.selects "BakedBeforeModel" ({ cls := "BakedBeforeModel", name := "readsF", desc := "(I)Z" } : Jvm.MethodName) ({ cls := "BakedBeforeModel", name := "readsF", desc := "(I)Z" } : Jvm.MethodName)) ∈ zW0 := q_is (List.mem_of_getElem? (i := 28) (by decide +kernel)) (by decide +kernel)
theorem qs_29 : (Jvm.Cond.selects "BakedBeforeModel" ({ cls := "BakedBeforeModel", name := "readsTest", desc := "()Z" } : Jvm.MethodName) ({ cls := "BakedBeforeModel", name := "readsTest", desc := "()Z" } : Jvm.MethodName)) ∈ zW0 := q_is (List.mem_of_getElem? (i := 29) (by decide +kernel)) (by decide +kernel)
theorem qs_30 : (Jvm.Cond.selects "BakedBeforeModel" ({ cls := "BakedBeforeModel", name := "valueOf", desc := "(I)I" } : Jvm.MethodName) ({ cls := "BakedBeforeModel", name := "valueOf", desc := "(I)I" } : Jvm.MethodName)) ∈ zW0 := q_is (List.mem_of_getElem? (i := 30) (by decide +kernel)) (by decide +kernel)
theorem qs_31 : (Jvm.Cond.selects "BakedBeforeModel" ({ cls := "BakedBeforeModel", name := "kind", desc := "(I)I" } : Jvm.MethodName) ({ cls := "BakedBeforeModel", name := "kind", desc := "(I)I" } : Jvm.MethodName)) ∈ zW0 := q_is (List.mem_of_getElem? (i := 31) (by decide +kernel)) (by decide +kernel)
theorem qs_32 : (Jvm.Cond.selects "BakedBeforeModel" ({ cls := "BakedBeforeModel", name := "get", desc := "(II)I" } : Jvm.MethodName) ({ cls := "BakedBeforeModel", name := "get", desc := "(II)I" } : Jvm.MethodName)) ∈ zW0 := q_is (List.mem_of_getElem? (i := 32) (by decide +kernel)) (by decide +kernel)
theorem qs_33 : (Jvm.Cond.selects "BakedBeforeModel" ({ cls := "BakedBeforeModel", name := "numbe\x72", desc := "(I)I" } : Jvm.MethodName) ({ cls := "BakedBeforeModel", name := "numbe\x72", desc := "(I)I" } : Jvm.MethodName)) ∈ zW0 := q_is (List.mem_of_getElem? (i := 33) (by decide +kernel)) (by decide +kernel)
theorem qs_34 : (Jvm.Cond.selects "BakedBeforeModel" ({ cls := "BakedBeforeModel", name := "isLoaf", desc := "(I)Z" } : Jvm.MethodName) ({ cls := "BakedBeforeModel", name := "isLoaf", desc := "(I)Z" } : Jvm.MethodName)) ∈ zW0 := q_is (List.mem_of_getElem? (i := 34) (by decide +kernel)) (by decide +kernel)
theorem qs_35 : (Jvm.Cond.selects "BakedBeforeModel" ({ cls := "BakedBeforeModel", name := "feeOf", desc := "(I)I" } : Jvm.MethodName) ({ cls := "BakedBeforeModel", name := "feeOf", desc := "(I)I" } : Jvm.MethodName)) ∈ zW0 := q_is (List.mem_of_getElem? (i := 35) (by decide +kernel)) (by decide +kernel)
theorem qs_36 : (Jvm.Cond.selects "BakedBeforeModel" ({ cls := "BakedBeforeModel", name := "readsNow", desc := "(II)V" } : Jvm.MethodName) ({ cls := "BakedBeforeModel", name := "readsNow", desc := "(II)V" } : Jvm.MethodName)) ∈ zW0 := q_is (List.mem_of_getElem? (i := 36) (by decide +kernel)) (by decide +kernel)
theorem qs_37 : (Jvm.Cond.selects "BakedBeforeModel" ({ cls := "BakedBeforeModel", name := "isSpoiled", desc := "(I)Z" } : Jvm.MethodName) ({ cls := "BakedBeforeModel", name := "isSpoiled", desc := "(I)Z" } : Jvm.MethodName)) ∈ zW0 := q_is (List.mem_of_getElem? (i := 37) (by decide +kernel)) (by decide +kernel)
theorem qs_38 : (Jvm.Cond.selects "BakedBeforeModel" ({ cls := "BakedBeforeModel", name := "takesOf", desc := "(II)I" } : Jvm.MethodName) ({ cls := "BakedBeforeModel", name := "takesOf", desc := "(II)I" } : Jvm.MethodName)) ∈ zW0 := q_is (List.mem_of_getElem? (i := 38) (by decide +kernel)) (by decide +kernel)
theorem qs_39 : (Jvm.Cond.selects "BakedBeforeModel" ({ cls := "BakedBeforeModel", name := "partOf", desc := "(II)I" } : Jvm.MethodName) ({ cls := "BakedBeforeModel", name := "partOf", desc := "(II)I" } : Jvm.MethodName)) ∈ zW0 := q_is (List.mem_of_getElem? (i := 39) (by decide +kernel)) (by decide +kernel)
theorem qs_40 : (Jvm.Cond.selects "BakedBeforeModel" ({ cls := "BakedBeforeModel", name := "takesBy", desc := "(IIII)I" } : Jvm.MethodName) ({ cls := "BakedBeforeModel", name := "takesBy", desc := "(IIII)I" } : Jvm.MethodName)) ∈ zW0 := q_is (List.mem_of_getElem? (i := 40) (by decide +kernel)) (by decide +kernel)
theorem qs_41 : (Jvm.Cond.selects "BakedBeforeModel" ({ cls := "BakedBeforeModel", name := "leavesOf", desc := "(II)I" } : Jvm.MethodName) ({ cls := "BakedBeforeModel", name := "leavesOf", desc := "(II)I" } : Jvm.MethodName)) ∈ zW0 := q_is (List.mem_of_getElem? (i := 41) (by decide +kernel)) (by decide +kernel)
theorem qs_42 : (Jvm.Cond.selects "BakedBeforeModel" ({ cls := "BakedBeforeModel", name := "bakes", desc := "(I)Z" } : Jvm.MethodName) ({ cls := "BakedBeforeModel", name := "bakes", desc := "(I)Z" } : Jvm.MethodName)) ∈ zW0 := q_is (List.mem_of_getElem? (i := 42) (by decide +kernel)) (by decide +kernel)
theorem qs_43 : (Jvm.Cond.selects "BakedBeforeModel" ({ cls := "BakedBeforeModel", name := "ages", desc := "()V" } : Jvm.MethodName) ({ cls := "BakedBeforeModel", name := "ages", desc := "()V" } : Jvm.MethodName)) ∈ zW0 := q_is (List.mem_of_getElem? (i := 43) (by decide +kernel)) (by decide +kernel)
theorem qs_44 : (Jvm.Cond.selects "BakedBeforeModel" ({ cls := "BakedBeforeModel", name := "cools", desc := "()V" } : Jvm.MethodName) ({ cls := "BakedBeforeModel", name := "cools", desc := "()V" } : Jvm.MethodName)) ∈ zW0 := q_is (List.mem_of_getElem? (i := 44) (by decide +kernel)) (by decide +kernel)
theorem qs_45 : (Jvm.Cond.selects "BakedBeforeModel" ({ cls := "BakedBeforeModel", name := "begins", desc := "()V" } : Jvm.MethodName) ({ cls := "BakedBeforeModel", name := "begins", desc := "()V" } : Jvm.MethodName)) ∈ zW0 := q_is (List.mem_of_getElem? (i := 45) (by decide +kernel)) (by decide +kernel)
theorem qs_46 : (Jvm.Cond.selects "BakedBeforeModel" ({ cls := "BakedBeforeModel", name := "ends", desc := "()V" } : Jvm.MethodName) ({ cls := "BakedBeforeModel", name := "ends", desc := "()V" } : Jvm.MethodName)) ∈ zW0 := q_is (List.mem_of_getElem? (i := 46) (by decide +kernel)) (by decide +kernel)
theorem qs_47 : (Jvm.Cond.selects "BakedBeforeModel" ({ cls := "BakedBeforeModel", name := "areLoaves", desc := "(I)Z" } : Jvm.MethodName) ({ cls := "BakedBeforeModel", name := "areLoaves", desc := "(I)Z" } : Jvm.MethodName)) ∈ zW0 := q_is (List.mem_of_getElem? (i := 47) (by decide +kernel)) (by decide +kernel)
theorem qs_48 : (Jvm.Cond.selects "BakedBeforeModel" ({ cls := "BakedBeforeModel", name := "orders", desc := "(III)V" } : Jvm.MethodName) ({ cls := "BakedBeforeModel", name := "orders", desc := "(III)V" } : Jvm.MethodName)) ∈ zW0 := q_is (List.mem_of_getElem? (i := 48) (by decide +kernel)) (by decide +kernel)
theorem qs_49 : (Jvm.Cond.selects "BakedBeforeModel" ({ cls := "BakedBeforeModel", name := "spoiledBy", desc := "(I)I" } : Jvm.MethodName) ({ cls := "BakedBeforeModel", name := "spoiledBy", desc := "(I)I" } : Jvm.MethodName)) ∈ zW0 := q_is (List.mem_of_getElem? (i := 49) (by decide +kernel)) (by decide +kernel)
theorem qs_50 : (Jvm.Cond.selects "BakedBeforeModel" ({ cls := "BakedBeforeModel", name := "isWellBy", desc := "(III)Z" } : Jvm.MethodName) ({ cls := "BakedBeforeModel", name := "isWellBy", desc := "(III)Z" } : Jvm.MethodName)) ∈ zW0 := q_is (List.mem_of_getElem? (i := 50) (by decide +kernel)) (by decide +kernel)
theorem qs_51 : (Jvm.Cond.selects "BakedBeforeModel" ({ cls := "BakedBeforeModel", name := "takesAt", desc := "(II)I" } : Jvm.MethodName) ({ cls := "BakedBeforeModel", name := "takesAt", desc := "(II)I" } : Jvm.MethodName)) ∈ zW0 := q_is (List.mem_of_getElem? (i := 51) (by decide +kernel)) (by decide +kernel)
theorem qs_52 : (Jvm.Cond.selects "BakedBeforeModel" ({ cls := "BakedBeforeModel", name := "allTakes", desc := "(I)I" } : Jvm.MethodName) ({ cls := "BakedBeforeModel", name := "allTakes", desc := "(I)I" } : Jvm.MethodName)) ∈ zW0 := q_is (List.mem_of_getElem? (i := 52) (by decide +kernel)) (by decide +kernel)
theorem qs_53 : (Jvm.Cond.selects "BakedBeforeModel" ({ cls := "BakedBeforeModel", name := "isSpoiledBehind", desc := "(II)Z" } : Jvm.MethodName) ({ cls := "BakedBeforeModel", name := "isSpoiledBehind", desc := "(II)Z" } : Jvm.MethodName)) ∈ zW0 := q_is (List.mem_of_getElem? (i := 53) (by decide +kernel)) (by decide +kernel)
theorem qs_54 : (Jvm.Cond.selects "BakedBeforeModel" ({ cls := "BakedBeforeModel", name := "spoiledIn", desc := "(I)I" } : Jvm.MethodName) ({ cls := "BakedBeforeModel", name := "spoiledIn", desc := "(I)I" } : Jvm.MethodName)) ∈ zW0 := q_is (List.mem_of_getElem? (i := 54) (by decide +kernel)) (by decide +kernel)
theorem qs_55 : (Jvm.Cond.selects "BakedBeforeModel" ({ cls := "BakedBeforeModel", name := "takesBehind", desc := "(II)I" } : Jvm.MethodName) ({ cls := "BakedBeforeModel", name := "takesBehind", desc := "(II)I" } : Jvm.MethodName)) ∈ zW0 := q_is (List.mem_of_getElem? (i := 55) (by decide +kernel)) (by decide +kernel)
theorem qs_56 : (Jvm.Cond.selects "BakedBeforeModel" ({ cls := "BakedBeforeModel", name := "takesInRow", desc := "(II)I" } : Jvm.MethodName) ({ cls := "BakedBeforeModel", name := "takesInRow", desc := "(II)I" } : Jvm.MethodName)) ∈ zW0 := q_is (List.mem_of_getElem? (i := 56) (by decide +kernel)) (by decide +kernel)
theorem qs_57 : (Jvm.Cond.selects "BakedBeforeModel" ({ cls := "BakedBeforeModel", name := "isBookedSo", desc := "(I)Z" } : Jvm.MethodName) ({ cls := "BakedBeforeModel", name := "isBookedSo", desc := "(I)Z" } : Jvm.MethodName)) ∈ zW0 := q_is (List.mem_of_getElem? (i := 57) (by decide +kernel)) (by decide +kernel)
theorem qs_58 : (Jvm.Cond.selects "BakedBeforeModel" ({ cls := "BakedBeforeModel", name := "rises", desc := "(II)I" } : Jvm.MethodName) ({ cls := "BakedBeforeModel", name := "rises", desc := "(II)I" } : Jvm.MethodName)) ∈ zW0 := q_is (List.mem_of_getElem? (i := 58) (by decide +kernel)) (by decide +kernel)
theorem qs_59 : (Jvm.Cond.selects "BakedBeforeModel" ({ cls := "BakedBeforeModel", name := "runs", desc := "(I)V" } : Jvm.MethodName) ({ cls := "BakedBeforeModel", name := "runs", desc := "(I)V" } : Jvm.MethodName)) ∈ zW0 := q_is (List.mem_of_getElem? (i := 59) (by decide +kernel)) (by decide +kernel)
theorem qs_60 : (Jvm.Cond.selects "BakedBeforeModel" ({ cls := "BakedBeforeModel", name := "bakesFrom", desc := "(II)I" } : Jvm.MethodName) ({ cls := "BakedBeforeModel", name := "bakesFrom", desc := "(II)I" } : Jvm.MethodName)) ∈ zW0 := q_is (List.mem_of_getElem? (i := 60) (by decide +kernel)) (by decide +kernel)
theorem qs_61 : (Jvm.Cond.selects "BakedBeforeModel" ({ cls := "BakedBeforeModel", name := "tells", desc := "(II)I" } : Jvm.MethodName) ({ cls := "BakedBeforeModel", name := "tells", desc := "(II)I" } : Jvm.MethodName)) ∈ zW0 := q_is (List.mem_of_getElem? (i := 61) (by decide +kernel)) (by decide +kernel)
abbrev b_BB_loaf : ByteArray := prog_1_method_2_code
def y_BB_loaf : MethodName := ⟨"BakedBefore", "loaf", "(II)I"⟩
theorem cf_BB_loaf : zcfV y_BB_loaf b_BB_loaf 3 (some .int) 2 := ⟨⟨q_343, q_1, by decide, by decide, by decide +kernel⟩, q_341, q_342⟩
abbrev b_BB_set : ByteArray := prog_1_method_3_code
def y_BB_set : MethodName := ⟨"BakedBefore", "set", "(IIII)I"⟩
theorem cf_BB_set : zcfV y_BB_set b_BB_set 7 (some .int) 4 := ⟨⟨q_351, q_1, by decide, by decide, by decide +kernel⟩, q_349, q_350⟩
abbrev b_BB_of : ByteArray := prog_1_method_4_code
def y_BB_of : MethodName := ⟨"BakedBefore", "of", "(II)I"⟩
theorem cf_BB_of : zcfV y_BB_of b_BB_of 4 (some .int) 2 := ⟨⟨q_362, q_1, by decide, by decide, by decide +kernel⟩, q_360, q_361⟩
abbrev b_BB_ofTaste : ByteArray := prog_1_method_5_code
def y_BB_ofTaste : MethodName := ⟨"BakedBefore", "ofTaste", "(LBakedBefore$Loaf;II)I"⟩
theorem cf_BB_ofTaste : zcfV y_BB_ofTaste b_BB_ofTaste 4 (some .int) 3 := ⟨⟨q_407, q_1, by decide, by decide, by decide +kernel⟩, q_406, qs_2⟩
abbrev b_BB_oven : ByteArray := prog_1_method_6_code
def y_BB_oven : MethodName := ⟨"BakedBefore", "oven", "(II)I"⟩
theorem cf_BB_oven : zcfV y_BB_oven b_BB_oven 4 (some .int) 2 := ⟨⟨q_416, q_1, by decide, by decide, by decide +kernel⟩, q_414, q_415⟩
abbrev b_BB_feed : ByteArray := prog_1_method_7_code
def y_BB_feed : MethodName := ⟨"BakedBefore", "feed", "(I)I"⟩
theorem cf_BB_feed : zcfV y_BB_feed b_BB_feed 2 (some .int) 1 := ⟨⟨q_420, q_1, by decide, by decide, by decide +kernel⟩, q_418, q_419⟩
abbrev b_BB_kiln : ByteArray := prog_1_method_8_code
def y_BB_kiln : MethodName := ⟨"BakedBefore", "kiln", "()I"⟩
theorem cf_BB_kiln : zcfV y_BB_kiln b_BB_kiln 2 (some .int) 0 := ⟨⟨q_428, q_1, by decide, by decide, by decide +kernel⟩, q_426, q_427⟩
abbrev b_BB_told : ByteArray := prog_1_method_9_code
def y_BB_told : MethodName := ⟨"BakedBefore", "told", "(I)I"⟩
theorem cf_BB_told : zcfV y_BB_told b_BB_told 2 (some .int) 1 := ⟨⟨q_549, q_1, by decide, by decide, by decide +kernel⟩, q_547, q_548⟩
abbrev b_BB_bake : ByteArray := prog_1_method_10_code
def y_BB_bake : MethodName := ⟨"BakedBefore", "bake", "(I)I"⟩
theorem cf_BB_bake : zcfV y_BB_bake b_BB_bake 2 (some .int) 1 := ⟨⟨q_553, q_1, by decide, by decide, by decide +kernel⟩, q_551, q_552⟩
abbrev b_BB_cold : ByteArray := prog_1_method_11_code
def y_BB_cold : MethodName := ⟨"BakedBefore", "cold", "()I"⟩
theorem cf_BB_cold : zcfV y_BB_cold b_BB_cold 1 (some .int) 0 := ⟨⟨q_567, q_1, by decide, by decide, by decide +kernel⟩, q_565, q_566⟩
abbrev b_BB_would : ByteArray := prog_1_method_12_code
def y_BB_would : MethodName := ⟨"BakedBefore", "would", "(III)I"⟩
theorem cf_BB_would : zcfV y_BB_would b_BB_would 4 (some .int) 3 := ⟨⟨q_575, q_1, by decide, by decide, by decide +kernel⟩, q_573, q_574⟩
abbrev b_BB_order : ByteArray := prog_1_method_13_code
def y_BB_order : MethodName := ⟨"BakedBefore", "orde\x72", "(II)I"⟩
theorem cf_BB_order : zcfV y_BB_order b_BB_order 3 (some .int) 2 := ⟨⟨q_591, q_1, by decide, by decide, by decide +kernel⟩, q_589, q_590⟩
abbrev b_BB_colds : ByteArray := prog_1_method_14_code
def y_BB_colds : MethodName := ⟨"BakedBefore", "colds", "(II)I"⟩
theorem cf_BB_colds : zcfV y_BB_colds b_BB_colds 3 (some .int) 2 := ⟨⟨q_619, q_1, by decide, by decide, by decide +kernel⟩, q_617, q_618⟩
abbrev b_BB_place : ByteArray := prog_1_method_15_code
def y_BB_place : MethodName := ⟨"BakedBefore", "place", "(II)I"⟩
theorem cf_BB_place : zcfV y_BB_place b_BB_place 3 (some .int) 2 := ⟨⟨q_634, q_1, by decide, by decide, by decide +kernel⟩, q_632, q_633⟩
abbrev b_BB_guilty : ByteArray := prog_1_method_16_code
def y_BB_guilty : MethodName := ⟨"BakedBefore", "guilty", "(I)I"⟩
theorem cf_BB_guilty : zcfV y_BB_guilty b_BB_guilty 2 (some .int) 1 := ⟨⟨q_646, q_1, by decide, by decide, by decide +kernel⟩, q_644, q_645⟩
abbrev b_BB_two : ByteArray := prog_1_method_17_code
def y_BB_two : MethodName := ⟨"BakedBefore", "two", "(I)I"⟩
theorem cf_BB_two : zcfV y_BB_two b_BB_two 2 (some .int) 1 := ⟨⟨q_658, q_1, by decide, by decide, by decide +kernel⟩, q_656, q_657⟩
abbrev b_BB_has : ByteArray := prog_1_method_18_code
def y_BB_has : MethodName := ⟨"BakedBefore", "has", "(I)I"⟩
theorem cf_BB_has : zcfV y_BB_has b_BB_has 2 (some .int) 1 := ⟨⟨q_670, q_1, by decide, by decide, by decide +kernel⟩, q_668, q_669⟩
abbrev b_BB_swaps : ByteArray := prog_1_method_19_code
def y_BB_swaps : MethodName := ⟨"BakedBefore", "swaps", "(I)I"⟩
theorem cf_BB_swaps : zcfV y_BB_swaps b_BB_swaps 2 (some .int) 1 := ⟨⟨q_684, q_1, by decide, by decide, by decide +kernel⟩, q_682, q_683⟩
abbrev b_BB_span : ByteArray := prog_1_method_20_code
def y_BB_span : MethodName := ⟨"BakedBefore", "span", "(IIII)I"⟩
theorem cf_BB_span : zcfV y_BB_span b_BB_span 5 (some .int) 4 := ⟨⟨q_696, q_1, by decide, by decide, by decide +kernel⟩, q_694, q_695⟩
abbrev b_BB_year : ByteArray := prog_1_method_21_code
def y_BB_year : MethodName := ⟨"BakedBefore", "yea\x72", "(III)I"⟩
theorem cf_BB_year : zcfV y_BB_year b_BB_year 4 (some .int) 3 := ⟨⟨q_709, q_1, by decide, by decide, by decide +kernel⟩, q_707, q_708⟩
abbrev b_BB_odds : ByteArray := prog_1_method_22_code
def y_BB_odds : MethodName := ⟨"BakedBefore", "odds", "(II)J"⟩
theorem cf_BB_odds : zcfV y_BB_odds b_BB_odds 3 (some .long) 2 := ⟨⟨q_720, q_1, by decide, by decide, by decide +kernel⟩, q_718, q_719⟩
abbrev b_BB_mean : ByteArray := prog_1_method_23_code
def y_BB_mean : MethodName := ⟨"BakedBefore", "mean", "(II)J"⟩
theorem cf_BB_mean : zcfV y_BB_mean b_BB_mean 3 (some .long) 2 := ⟨⟨q_733, q_1, by decide, by decide, by decide +kernel⟩, q_731, q_732⟩
abbrev b_BB_book : ByteArray := prog_1_method_24_code
def y_BB_book : MethodName := ⟨"BakedBefore", "book", "(IZ)I"⟩
theorem cf_BB_book : zcfV y_BB_book b_BB_book 3 (some .int) 2 := ⟨⟨q_741, q_1, by decide, by decide, by decide +kernel⟩, q_739, q_740⟩
abbrev b_BB_looked : ByteArray := prog_1_method_25_code
def y_BB_looked : MethodName := ⟨"BakedBefore", "looked", "()I"⟩
theorem cf_BB_looked : zcfV y_BB_looked b_BB_looked 1 (some .int) 0 := ⟨⟨q_749, q_1, by decide, by decide, by decide +kernel⟩, q_747, q_748⟩
abbrev b_BB_judge : ByteArray := prog_1_method_26_code
def y_BB_judge : MethodName := ⟨"BakedBefore", "judge", "(II)I"⟩
theorem cf_BB_judge : zcfV y_BB_judge b_BB_judge 3 (some .int) 2 := ⟨⟨q_757, q_1, by decide, by decide, by decide +kernel⟩, q_755, q_756⟩
abbrev b_BB_image : ByteArray := prog_1_method_27_code
def y_BB_image : MethodName := ⟨"BakedBefore", "image", "()I"⟩
theorem cf_BB_image : zcfV y_BB_image b_BB_image 1 (some .int) 0 := ⟨⟨q_768, q_1, by decide, by decide, by decide +kernel⟩, q_766, q_767⟩
abbrev b_BB_undo : ByteArray := prog_1_method_28_code
def y_BB_undo : MethodName := ⟨"BakedBefore", "undo", "()I"⟩
theorem cf_BB_undo : zcfV y_BB_undo b_BB_undo 1 (some .int) 0 := ⟨⟨q_785, q_1, by decide, by decide, by decide +kernel⟩, q_783, q_784⟩
abbrev b_BB_act : ByteArray := prog_1_method_29_code
def y_BB_act : MethodName := ⟨"BakedBefore", "act", "(III)I"⟩
theorem cf_BB_act : zcfV y_BB_act b_BB_act 4 (some .int) 3 := ⟨⟨q_789, q_1, by decide, by decide, by decide +kernel⟩, q_787, q_788⟩
abbrev b_BB_trace : ByteArray := prog_1_method_30_code
def y_BB_trace : MethodName := ⟨"BakedBefore", "trace", "(I)I"⟩
theorem cf_BB_trace : zcfV y_BB_trace b_BB_trace 2 (some .int) 1 := ⟨⟨q_812, q_1, by decide, by decide, by decide +kernel⟩, q_810, q_811⟩
abbrev b_BB_taken : ByteArray := prog_1_method_31_code
def y_BB_taken : MethodName := ⟨"BakedBefore", "taken", "(II)I"⟩
theorem cf_BB_taken : zcfV y_BB_taken b_BB_taken 3 (some .int) 2 := ⟨⟨q_816, q_1, by decide, by decide, by decide +kernel⟩, q_814, q_815⟩
abbrev b_BB_count : ByteArray := prog_1_method_32_code
def y_BB_count : MethodName := ⟨"BakedBefore", "count", "(I)I"⟩
theorem cf_BB_count : zcfV y_BB_count b_BB_count 2 (some .int) 1 := ⟨⟨q_825, q_1, by decide, by decide, by decide +kernel⟩, q_823, q_824⟩
abbrev b_BB_tape : ByteArray := prog_1_method_33_code
def y_BB_tape : MethodName := ⟨"BakedBefore", "tape", "(III)I"⟩
theorem cf_BB_tape : zcfV y_BB_tape b_BB_tape 4 (some .int) 3 := ⟨⟨q_829, q_1, by decide, by decide, by decide +kernel⟩, q_827, q_828⟩
abbrev b_BB_item : ByteArray := prog_1_method_34_code
def y_BB_item : MethodName := ⟨"BakedBefore", "item", "(IIJ)I"⟩
theorem cf_BB_item : zcfV y_BB_item b_BB_item 5 (some .int) 3 := ⟨⟨q_837, q_1, by decide, by decide, by decide +kernel⟩, q_835, q_836⟩
abbrev b_BB_read : ByteArray := prog_1_method_35_code
def y_BB_read : MethodName := ⟨"BakedBefore", "read", "(II)J"⟩
theorem cf_BB_read : zcfV y_BB_read b_BB_read 3 (some .long) 2 := ⟨⟨q_848, q_1, by decide, by decide, by decide +kernel⟩, q_846, q_847⟩
abbrev b_BB_shift : ByteArray := prog_1_method_36_code
def y_BB_shift : MethodName := ⟨"BakedBefore", "shift", "(IIIII)I"⟩
theorem cf_BB_shift : zcfV y_BB_shift b_BB_shift 6 (some .int) 5 := ⟨⟨q_857, q_1, by decide, by decide, by decide +kernel⟩, q_855, q_856⟩
abbrev b_BB_isLoaf : ByteArray := prog_1_method_37_code
def y_BB_isLoaf : MethodName := ⟨"BakedBefore", "isLoaf", "(I)Z"⟩
theorem cf_BB_isLoaf : zcfV y_BB_isLoaf b_BB_isLoaf 2 (some .boolean) 1 := ⟨⟨q_355, q_1, by decide, by decide, by decide +kernel⟩, q_354, qs_0⟩
abbrev b_BB_isSet : ByteArray := prog_1_method_38_code
def y_BB_isSet : MethodName := ⟨"BakedBefore", "isSet", "(II)Z"⟩
theorem cf_BB_isSet : zcfV y_BB_isSet b_BB_isSet 3 (some .boolean) 2 := ⟨⟨q_595, q_1, by decide, by decide, by decide +kernel⟩, q_594, qs_12⟩
abbrev b_BB_isTaste : ByteArray := prog_1_method_39_code
def y_BB_isTaste : MethodName := ⟨"BakedBefore", "isTaste", "(I)Z"⟩
theorem cf_BB_isTaste : zcfS y_BB_isTaste b_BB_isTaste 1 (some .boolean) 1 := ⟨⟨q_358, q_1, by decide, by decide, by decide +kernel⟩, q_357⟩
abbrev b_BB_flag : ByteArray := prog_1_method_40_code
def y_BB_flag : MethodName := ⟨"BakedBefore", "flag", "(Z)I"⟩
theorem cf_BB_flag : zcfS y_BB_flag b_BB_flag 1 (some .int) 1 := ⟨⟨q_403, q_1, by decide, by decide, by decide +kernel⟩, q_402⟩
abbrev b_BB_lowest : ByteArray := prog_1_method_41_code
def y_BB_lowest : MethodName := ⟨"BakedBefore", "lowest", "(III)J"⟩
theorem cf_BB_lowest : zcfS y_BB_lowest b_BB_lowest 4 (some .long) 3 := ⟨⟨q_729, q_1, by decide, by decide, by decide +kernel⟩, q_728⟩
abbrev b_Model_isIn : ByteArray := prog_14_method_2_code
def y_Model_isIn : MethodName := ⟨"BakedBeforeModel", "isIn", "(III)Z"⟩
theorem cf_Model_isIn : zcfS y_Model_isIn b_Model_isIn 3 (some .boolean) 3 := ⟨⟨q_971, q_13, by decide, by decide, by decide +kernel⟩, q_970⟩
abbrev b_Model_isTaste : ByteArray := prog_14_method_3_code
def y_Model_isTaste : MethodName := ⟨"BakedBeforeModel", "isTaste", "(I)Z"⟩
theorem cf_Model_isTaste : zcfS y_Model_isTaste b_Model_isTaste 1 (some .boolean) 1 := ⟨⟨q_1059, q_13, by decide, by decide, by decide +kernel⟩, q_1058⟩
abbrev b_Model_isLoaf : ByteArray := prog_14_method_4_code
def y_Model_isLoaf : MethodName := ⟨"BakedBeforeModel", "isLoaf", "(I)Z"⟩
theorem cf_Model_isLoaf : zcfV y_Model_isLoaf b_Model_isLoaf 2 (some .boolean) 1 := ⟨⟨q_1056, q_13, by decide, by decide, by decide +kernel⟩, q_1055, qs_34⟩
abbrev b_Model_areLoaves : ByteArray := prog_14_method_5_code
def y_Model_areLoaves : MethodName := ⟨"BakedBeforeModel", "areLoaves", "(I)Z"⟩
theorem cf_Model_areLoaves : zcfV y_Model_areLoaves b_Model_areLoaves 2 (some .boolean) 1 := ⟨⟨q_1142, q_13, by decide, by decide, by decide +kernel⟩, q_1141, qs_47⟩
abbrev b_Model_bits : ByteArray := prog_14_method_6_code
def y_Model_bits : MethodName := ⟨"BakedBeforeModel", "bits", "(I)I"⟩
theorem cf_Model_bits : zcfS y_Model_bits b_Model_bits 3 (some .int) 1 := ⟨⟨q_1145, q_13, by decide, by decide, by decide +kernel⟩, q_1144⟩
abbrev b_Model_lays : ByteArray := prog_14_method_7_code
def y_Model_lays : MethodName := ⟨"BakedBeforeModel", "lays", "([I[I)V"⟩
theorem cf_Model_lays : zcfS y_Model_lays b_Model_lays 3 none 2 := ⟨⟨q_1130, q_13, by decide, by decide, by decide +kernel⟩, q_1129⟩
abbrev b_Model_begins : ByteArray := prog_14_method_8_code
def y_Model_begins : MethodName := ⟨"BakedBeforeModel", "begins", "()V"⟩
theorem cf_Model_begins : zcfV y_Model_begins b_Model_begins 1 none 0 := ⟨⟨q_1127, q_13, by decide, by decide, by decide +kernel⟩, q_1126, qs_45⟩
abbrev b_Model_ends : ByteArray := prog_14_method_9_code
def y_Model_ends : MethodName := ⟨"BakedBeforeModel", "ends", "()V"⟩
theorem cf_Model_ends : zcfV y_Model_ends b_Model_ends 1 none 0 := ⟨⟨q_1134, q_13, by decide, by decide, by decide +kernel⟩, q_1133, qs_46⟩
abbrev b_Model_get : ByteArray := prog_14_method_10_code
def y_Model_get : MethodName := ⟨"BakedBeforeModel", "get", "(II)I"⟩
theorem cf_Model_get : zcfV y_Model_get b_Model_get 3 (some .int) 2 := ⟨⟨q_1040, q_13, by decide, by decide, by decide +kernel⟩, q_1039, qs_32⟩
abbrev b_Model_kind : ByteArray := prog_14_method_11_code
def y_Model_kind : MethodName := ⟨"BakedBeforeModel", "kind", "(I)I"⟩
theorem cf_Model_kind : zcfV y_Model_kind b_Model_kind 2 (some .int) 1 := ⟨⟨q_1036, q_13, by decide, by decide, by decide +kernel⟩, q_1035, qs_31⟩
abbrev b_Model_number : ByteArray := prog_14_method_12_code
def y_Model_number : MethodName := ⟨"BakedBeforeModel", "numbe\x72", "(I)I"⟩
theorem cf_Model_number : zcfV y_Model_number b_Model_number 2 (some .int) 1 := ⟨⟨q_1044, q_13, by decide, by decide, by decide +kernel⟩, q_1043, qs_33⟩
abbrev b_Model_feed : ByteArray := prog_14_method_13_code
def y_Model_feed : MethodName := ⟨"BakedBeforeModel", "feed", "(I)I"⟩
theorem cf_Model_feed : zcfV y_Model_feed b_Model_feed 2 (some .int) 1 := ⟨⟨q_968, q_13, by decide, by decide, by decide +kernel⟩, q_966, q_967⟩
abbrev b_Model_here : ByteArray := prog_14_method_14_code
def y_Model_here : MethodName := ⟨"BakedBeforeModel", "here", "()I"⟩
theorem cf_Model_here : zcfV y_Model_here b_Model_here 1 (some .int) 0 := ⟨⟨q_987, q_13, by decide, by decide, by decide +kernel⟩, q_986, qs_21⟩
abbrev b_Model_takes : ByteArray := prog_14_method_15_code
def y_Model_takes : MethodName := ⟨"BakedBeforeModel", "takes", "(I)Z"⟩
theorem cf_Model_takes : zcfV y_Model_takes b_Model_takes 2 (some .boolean) 1 := ⟨⟨q_1001, q_13, by decide, by decide, by decide +kernel⟩, q_1000, qs_23⟩
abbrev b_Model_isDigit : ByteArray := prog_14_method_16_code
def y_Model_isDigit : MethodName := ⟨"BakedBeforeModel", "isDigit", "()Z"⟩
theorem cf_Model_isDigit : zcfV y_Model_isDigit b_Model_isDigit 1 (some .boolean) 0 := ⟨⟨q_1009, q_13, by decide, by decide, by decide +kernel⟩, q_1008, qs_25⟩
abbrev b_Model_readsNumber : ByteArray := prog_14_method_17_code
def y_Model_readsNumber : MethodName := ⟨"BakedBeforeModel", "readsNumbe\x72", "()I"⟩
theorem cf_Model_readsNumber : zcfV y_Model_readsNumber b_Model_readsNumber 2 (some .int) 0 := ⟨⟨q_1005, q_13, by decide, by decide, by decide +kernel⟩, q_1004, qs_24⟩
abbrev b_Model_valueOf : ByteArray := prog_14_method_18_code
def y_Model_valueOf : MethodName := ⟨"BakedBeforeModel", "valueOf", "(I)I"⟩
theorem cf_Model_valueOf : zcfV y_Model_valueOf b_Model_valueOf 2 (some .int) 1 := ⟨⟨q_1032, q_13, by decide, by decide, by decide +kernel⟩, q_1031, qs_30⟩
abbrev b_Model_isLetter : ByteArray := prog_14_method_19_code
def y_Model_isLetter : MethodName := ⟨"BakedBeforeModel", "isLette\x72", "(I)Z"⟩
theorem cf_Model_isLetter : zcfS y_Model_isLetter b_Model_isLetter 1 (some .boolean) 1 := ⟨⟨q_1028, q_13, by decide, by decide, by decide +kernel⟩, q_1027⟩
abbrev b_Model_readsTest : ByteArray := prog_14_method_20_code
def y_Model_readsTest : MethodName := ⟨"BakedBeforeModel", "readsTest", "()Z"⟩
theorem cf_Model_readsTest : zcfV y_Model_readsTest b_Model_readsTest 5 (some .boolean) 0 := ⟨⟨q_1025, q_13, by decide, by decide, by decide +kernel⟩, q_1024, qs_29⟩
abbrev b_Model_readsF : ByteArray := prog_14_method_21_code
def y_Model_readsF : MethodName := ⟨"BakedBeforeModel", "readsF", "(I)Z"⟩
theorem cf_Model_readsF : zcfV y_Model_readsF b_Model_readsF 4 (some .boolean) 1 := ⟨⟨q_1021, q_13, by decide, by decide, by decide +kernel⟩, q_1020, qs_28⟩
abbrev b_Model_readsT : ByteArray := prog_14_method_22_code
def y_Model_readsT : MethodName := ⟨"BakedBeforeModel", "readsT", "(I)Z"⟩
theorem cf_Model_readsT : zcfV y_Model_readsT b_Model_readsT 4 (some .boolean) 1 := ⟨⟨q_1017, q_13, by decide, by decide, by decide +kernel⟩, q_1016, qs_27⟩
abbrev b_Model_readsE : ByteArray := prog_14_method_23_code
def y_Model_readsE : MethodName := ⟨"BakedBeforeModel", "readsE", "(I)Z"⟩
theorem cf_Model_readsE : zcfV y_Model_readsE b_Model_readsE 4 (some .boolean) 1 := ⟨⟨q_1013, q_13, by decide, by decide, by decide +kernel⟩, q_1012, qs_26⟩
abbrev b_Model_readsWord : ByteArray := prog_14_method_24_code
def y_Model_readsWord : MethodName := ⟨"BakedBeforeModel", "readsWord", "(Ljava/lang/String;)V"⟩
theorem cf_Model_readsWord : zcfV y_Model_readsWord b_Model_readsWord 3 none 1 := ⟨⟨q_995, q_13, by decide, by decide, by decide +kernel⟩, q_994, qs_22⟩
abbrev b_Model_readsClause : ByteArray := prog_14_method_25_code
def y_Model_readsClause : MethodName := ⟨"BakedBeforeModel", "readsClause", "()V"⟩
theorem cf_Model_readsClause : zcfV y_Model_readsClause b_Model_readsClause 4 none 0 := ⟨⟨q_983, q_13, by decide, by decide, by decide +kernel⟩, q_982, qs_20⟩
abbrev b_Model_reads : ByteArray := prog_14_method_26_code
def y_Model_reads : MethodName := ⟨"BakedBeforeModel", "reads", "(III)V"⟩
theorem cf_Model_reads : zcfV y_Model_reads b_Model_reads 5 none 3 := ⟨⟨q_979, q_13, by decide, by decide, by decide +kernel⟩, q_978, qs_19⟩
abbrev b_Model_readsNow : ByteArray := prog_14_method_27_code
def y_Model_readsNow : MethodName := ⟨"BakedBeforeModel", "readsNow", "(II)V"⟩
theorem cf_Model_readsNow : zcfV y_Model_readsNow b_Model_readsNow 3 none 2 := ⟨⟨q_1071, q_13, by decide, by decide, by decide +kernel⟩, q_1070, qs_36⟩
abbrev b_Model_kiln : ByteArray := prog_14_method_28_code
def y_Model_kiln : MethodName := ⟨"BakedBeforeModel", "kiln", "()I"⟩
theorem cf_Model_kiln : zcfV y_Model_kiln b_Model_kiln 2 (some .int) 0 := ⟨⟨q_975, q_13, by decide, by decide, by decide +kernel⟩, q_973, q_974⟩
abbrev b_Model_partOf : ByteArray := prog_14_method_29_code
def y_Model_partOf : MethodName := ⟨"BakedBeforeModel", "partOf", "(II)I"⟩
theorem cf_Model_partOf : zcfV y_Model_partOf b_Model_partOf 3 (some .int) 2 := ⟨⟨q_1083, q_13, by decide, by decide, by decide +kernel⟩, q_1082, qs_39⟩
abbrev b_Model_takesBy : ByteArray := prog_14_method_30_code
def y_Model_takesBy : MethodName := ⟨"BakedBeforeModel", "takesBy", "(IIII)I"⟩
theorem cf_Model_takesBy : zcfV y_Model_takesBy b_Model_takesBy 8 (some .int) 4 := ⟨⟨q_1087, q_13, by decide, by decide, by decide +kernel⟩, q_1086, qs_40⟩
abbrev b_Model_takesOf : ByteArray := prog_14_method_31_code
def y_Model_takesOf : MethodName := ⟨"BakedBeforeModel", "takesOf", "(II)I"⟩
theorem cf_Model_takesOf : zcfV y_Model_takesOf b_Model_takesOf 3 (some .int) 2 := ⟨⟨q_1079, q_13, by decide, by decide, by decide +kernel⟩, q_1078, qs_38⟩
abbrev b_Model_leavesOf : ByteArray := prog_14_method_32_code
def y_Model_leavesOf : MethodName := ⟨"BakedBeforeModel", "leavesOf", "(II)I"⟩
theorem cf_Model_leavesOf : zcfV y_Model_leavesOf b_Model_leavesOf 5 (some .int) 2 := ⟨⟨q_1091, q_13, by decide, by decide, by decide +kernel⟩, q_1090, qs_41⟩
abbrev b_Model_allTakes : ByteArray := prog_14_method_33_code
def y_Model_allTakes : MethodName := ⟨"BakedBeforeModel", "allTakes", "(I)I"⟩
theorem cf_Model_allTakes : zcfV y_Model_allTakes b_Model_allTakes 4 (some .int) 1 := ⟨⟨q_1176, q_13, by decide, by decide, by decide +kernel⟩, q_1175, qs_52⟩
abbrev b_Model_isSpoiled : ByteArray := prog_14_method_34_code
def y_Model_isSpoiled : MethodName := ⟨"BakedBeforeModel", "isSpoiled", "(I)Z"⟩
theorem cf_Model_isSpoiled : zcfV y_Model_isSpoiled b_Model_isSpoiled 3 (some .boolean) 1 := ⟨⟨q_1075, q_13, by decide, by decide, by decide +kernel⟩, q_1074, qs_37⟩
abbrev b_Model_feeOf : ByteArray := prog_14_method_35_code
def y_Model_feeOf : MethodName := ⟨"BakedBeforeModel", "feeOf", "(I)I"⟩
theorem cf_Model_feeOf : zcfV y_Model_feeOf b_Model_feeOf 2 (some .int) 1 := ⟨⟨q_1067, q_13, by decide, by decide, by decide +kernel⟩, q_1066, qs_35⟩
abbrev b_Model_ages : ByteArray := prog_14_method_36_code
def y_Model_ages : MethodName := ⟨"BakedBeforeModel", "ages", "()V"⟩
theorem cf_Model_ages : zcfV y_Model_ages b_Model_ages 1 none 0 := ⟨⟨q_1111, q_13, by decide, by decide, by decide +kernel⟩, q_1110, qs_43⟩
abbrev b_Model_bakes : ByteArray := prog_14_method_37_code
def y_Model_bakes : MethodName := ⟨"BakedBeforeModel", "bakes", "(I)Z"⟩
theorem cf_Model_bakes : zcfV y_Model_bakes b_Model_bakes 5 (some .boolean) 1 := ⟨⟨q_1107, q_13, by decide, by decide, by decide +kernel⟩, q_1106, qs_42⟩
abbrev b_Model_cools : ByteArray := prog_14_method_38_code
def y_Model_cools : MethodName := ⟨"BakedBeforeModel", "cools", "()V"⟩
theorem cf_Model_cools : zcfV y_Model_cools b_Model_cools 4 none 0 := ⟨⟨q_1119, q_13, by decide, by decide, by decide +kernel⟩, q_1118, qs_44⟩
abbrev b_Model_loaf : ByteArray := prog_14_method_39_code
def y_Model_loaf : MethodName := ⟨"BakedBeforeModel", "loaf", "(II)I"⟩
theorem cf_Model_loaf : zcfV y_Model_loaf b_Model_loaf 5 (some .int) 2 := ⟨⟨q_1048, q_13, by decide, by decide, by decide +kernel⟩, q_1046, q_1047⟩
abbrev b_Model_set : ByteArray := prog_14_method_40_code
def y_Model_set : MethodName := ⟨"BakedBeforeModel", "set", "(IIII)I"⟩
theorem cf_Model_set : zcfV y_Model_set b_Model_set 7 (some .int) 4 := ⟨⟨q_1052, q_13, by decide, by decide, by decide +kernel⟩, q_1050, q_1051⟩
abbrev b_Model_of : ByteArray := prog_14_method_41_code
def y_Model_of : MethodName := ⟨"BakedBeforeModel", "of", "(II)I"⟩
theorem cf_Model_of : zcfV y_Model_of b_Model_of 4 (some .int) 2 := ⟨⟨q_1063, q_13, by decide, by decide, by decide +kernel⟩, q_1061, q_1062⟩
abbrev b_Model_oven : ByteArray := prog_14_method_42_code
def y_Model_oven : MethodName := ⟨"BakedBeforeModel", "oven", "(II)I"⟩
theorem cf_Model_oven : zcfV y_Model_oven b_Model_oven 4 (some .int) 2 := ⟨⟨q_1095, q_13, by decide, by decide, by decide +kernel⟩, q_1093, q_1094⟩
abbrev b_Model_told : ByteArray := prog_14_method_43_code
def y_Model_told : MethodName := ⟨"BakedBeforeModel", "told", "(I)I"⟩
theorem cf_Model_told : zcfV y_Model_told b_Model_told 2 (some .int) 1 := ⟨⟨q_1099, q_13, by decide, by decide, by decide +kernel⟩, q_1097, q_1098⟩
abbrev b_Model_bake : ByteArray := prog_14_method_44_code
def y_Model_bake : MethodName := ⟨"BakedBeforeModel", "bake", "(I)I"⟩
theorem cf_Model_bake : zcfV y_Model_bake b_Model_bake 2 (some .int) 1 := ⟨⟨q_1103, q_13, by decide, by decide, by decide +kernel⟩, q_1101, q_1102⟩
abbrev b_Model_cold : ByteArray := prog_14_method_45_code
def y_Model_cold : MethodName := ⟨"BakedBeforeModel", "cold", "()I"⟩
theorem cf_Model_cold : zcfV y_Model_cold b_Model_cold 1 (some .int) 0 := ⟨⟨q_1115, q_13, by decide, by decide, by decide +kernel⟩, q_1113, q_1114⟩
abbrev b_Model_would : ByteArray := prog_14_method_46_code
def y_Model_would : MethodName := ⟨"BakedBeforeModel", "would", "(III)I"⟩
theorem cf_Model_would : zcfV y_Model_would b_Model_would 6 (some .int) 3 := ⟨⟨q_1123, q_13, by decide, by decide, by decide +kernel⟩, q_1121, q_1122⟩
abbrev b_Model_spoiledBy : ByteArray := prog_14_method_47_code
def y_Model_spoiledBy : MethodName := ⟨"BakedBeforeModel", "spoiledBy", "(I)I"⟩
theorem cf_Model_spoiledBy : zcfV y_Model_spoiledBy b_Model_spoiledBy 4 (some .int) 1 := ⟨⟨q_1153, q_13, by decide, by decide, by decide +kernel⟩, q_1152, qs_49⟩
abbrev b_Model_orders : ByteArray := prog_14_method_48_code
def y_Model_orders : MethodName := ⟨"BakedBeforeModel", "orders", "(III)V"⟩
theorem cf_Model_orders : zcfV y_Model_orders b_Model_orders 6 none 3 := ⟨⟨q_1149, q_13, by decide, by decide, by decide +kernel⟩, q_1148, qs_48⟩
abbrev b_Model_order : ByteArray := prog_14_method_49_code
def y_Model_order : MethodName := ⟨"BakedBeforeModel", "orde\x72", "(II)I"⟩
theorem cf_Model_order : zcfV y_Model_order b_Model_order 3 (some .int) 2 := ⟨⟨q_1138, q_13, by decide, by decide, by decide +kernel⟩, q_1136, q_1137⟩
abbrev b_Model_memberOf : ByteArray := prog_14_method_50_code
def y_Model_memberOf : MethodName := ⟨"BakedBeforeModel", "memberOf", "(II)I"⟩
theorem cf_Model_memberOf : zcfS y_Model_memberOf b_Model_memberOf 4 (some .int) 2 := ⟨⟨q_1164, q_13, by decide, by decide, by decide +kernel⟩, q_1163⟩
abbrev b_Model_isWellBy : ByteArray := prog_14_method_51_code
def y_Model_isWellBy : MethodName := ⟨"BakedBeforeModel", "isWellBy", "(III)Z"⟩
theorem cf_Model_isWellBy : zcfV y_Model_isWellBy b_Model_isWellBy 8 (some .boolean) 3 := ⟨⟨q_1161, q_13, by decide, by decide, by decide +kernel⟩, q_1160, qs_50⟩
abbrev b_Model_colds : ByteArray := prog_14_method_52_code
def y_Model_colds : MethodName := ⟨"BakedBeforeModel", "colds", "(II)I"⟩
theorem cf_Model_colds : zcfV y_Model_colds b_Model_colds 9 (some .int) 2 := ⟨⟨q_1157, q_13, by decide, by decide, by decide +kernel⟩, q_1155, q_1156⟩
abbrev b_Model_takesAt : ByteArray := prog_14_method_53_code
def y_Model_takesAt : MethodName := ⟨"BakedBeforeModel", "takesAt", "(II)I"⟩
theorem cf_Model_takesAt : zcfV y_Model_takesAt b_Model_takesAt 6 (some .int) 2 := ⟨⟨q_1172, q_13, by decide, by decide, by decide +kernel⟩, q_1171, qs_51⟩
abbrev b_Model_place : ByteArray := prog_14_method_54_code
def y_Model_place : MethodName := ⟨"BakedBeforeModel", "place", "(II)I"⟩
theorem cf_Model_place : zcfV y_Model_place b_Model_place 7 (some .int) 2 := ⟨⟨q_1168, q_13, by decide, by decide, by decide +kernel⟩, q_1166, q_1167⟩
abbrev b_Model_isSpoiledBehind : ByteArray := prog_14_method_55_code
def y_Model_isSpoiledBehind : MethodName := ⟨"BakedBeforeModel", "isSpoiledBehind", "(II)Z"⟩
theorem cf_Model_isSpoiledBehind : zcfV y_Model_isSpoiledBehind b_Model_isSpoiledBehind 5 (some .boolean) 2 := ⟨⟨q_1184, q_13, by decide, by decide, by decide +kernel⟩, q_1183, qs_53⟩
abbrev b_Model_guilty : ByteArray := prog_14_method_56_code
def y_Model_guilty : MethodName := ⟨"BakedBeforeModel", "guilty", "(I)I"⟩
theorem cf_Model_guilty : zcfV y_Model_guilty b_Model_guilty 4 (some .int) 1 := ⟨⟨q_1180, q_13, by decide, by decide, by decide +kernel⟩, q_1178, q_1179⟩
abbrev b_Model_spoiledIn : ByteArray := prog_14_method_57_code
def y_Model_spoiledIn : MethodName := ⟨"BakedBeforeModel", "spoiledIn", "(I)I"⟩
theorem cf_Model_spoiledIn : zcfV y_Model_spoiledIn b_Model_spoiledIn 4 (some .int) 1 := ⟨⟨q_1192, q_13, by decide, by decide, by decide +kernel⟩, q_1191, qs_54⟩
abbrev b_Model_two : ByteArray := prog_14_method_58_code
def y_Model_two : MethodName := ⟨"BakedBeforeModel", "two", "(I)I"⟩
theorem cf_Model_two : zcfV y_Model_two b_Model_two 7 (some .int) 1 := ⟨⟨q_1188, q_13, by decide, by decide, by decide +kernel⟩, q_1186, q_1187⟩
abbrev b_Model_takesBehind : ByteArray := prog_14_method_59_code
def y_Model_takesBehind : MethodName := ⟨"BakedBeforeModel", "takesBehind", "(II)I"⟩
theorem cf_Model_takesBehind : zcfV y_Model_takesBehind b_Model_takesBehind 5 (some .int) 2 := ⟨⟨q_1201, q_13, by decide, by decide, by decide +kernel⟩, q_1200, qs_55⟩
abbrev b_Model_has : ByteArray := prog_14_method_60_code
def y_Model_has : MethodName := ⟨"BakedBeforeModel", "has", "(I)I"⟩
theorem cf_Model_has : zcfV y_Model_has b_Model_has 6 (some .int) 1 := ⟨⟨q_1196, q_13, by decide, by decide, by decide +kernel⟩, q_1194, q_1195⟩
abbrev b_Model_takesInRow : ByteArray := prog_14_method_61_code
def y_Model_takesInRow : MethodName := ⟨"BakedBeforeModel", "takesInRow", "(II)I"⟩
theorem cf_Model_takesInRow : zcfV y_Model_takesInRow b_Model_takesInRow 7 (some .int) 2 := ⟨⟨q_1209, q_13, by decide, by decide, by decide +kernel⟩, q_1208, qs_56⟩
abbrev b_Model_swaps : ByteArray := prog_14_method_62_code
def y_Model_swaps : MethodName := ⟨"BakedBeforeModel", "swaps", "(I)I"⟩
theorem cf_Model_swaps : zcfV y_Model_swaps b_Model_swaps 6 (some .int) 1 := ⟨⟨q_1205, q_13, by decide, by decide, by decide +kernel⟩, q_1203, q_1204⟩
abbrev b_Model_span : ByteArray := prog_14_method_63_code
def y_Model_span : MethodName := ⟨"BakedBeforeModel", "span", "(IIII)I"⟩
theorem cf_Model_span : zcfV y_Model_span b_Model_span 11 (some .int) 4 := ⟨⟨q_1213, q_13, by decide, by decide, by decide +kernel⟩, q_1211, q_1212⟩
abbrev b_Model_year : ByteArray := prog_14_method_64_code
def y_Model_year : MethodName := ⟨"BakedBeforeModel", "yea\x72", "(III)I"⟩
theorem cf_Model_year : zcfV y_Model_year b_Model_year 7 (some .int) 3 := ⟨⟨q_1217, q_13, by decide, by decide, by decide +kernel⟩, q_1215, q_1216⟩
abbrev b_Model_common : ByteArray := prog_14_method_65_code
def y_Model_common : MethodName := ⟨"BakedBeforeModel", "common", "(II)I"⟩
theorem cf_Model_common : zcfS y_Model_common b_Model_common 2 (some .int) 2 := ⟨⟨q_1230, q_13, by decide, by decide, by decide +kernel⟩, q_1229⟩
abbrev b_Model_lowest : ByteArray := prog_14_method_66_code
def y_Model_lowest : MethodName := ⟨"BakedBeforeModel", "lowest", "(III)J"⟩
theorem cf_Model_lowest : zcfS y_Model_lowest b_Model_lowest 4 (some .long) 3 := ⟨⟨q_1227, q_13, by decide, by decide, by decide +kernel⟩, q_1226⟩
abbrev b_Model_odds : ByteArray := prog_14_method_67_code
def y_Model_odds : MethodName := ⟨"BakedBeforeModel", "odds", "(II)J"⟩
theorem cf_Model_odds : zcfV y_Model_odds b_Model_odds 6 (some .long) 2 := ⟨⟨q_1223, q_13, by decide, by decide, by decide +kernel⟩, q_1221, q_1222⟩
abbrev b_Model_mean : ByteArray := prog_14_method_68_code
def y_Model_mean : MethodName := ⟨"BakedBeforeModel", "mean", "(II)J"⟩
theorem cf_Model_mean : zcfV y_Model_mean b_Model_mean 5 (some .long) 2 := ⟨⟨q_1234, q_13, by decide, by decide, by decide +kernel⟩, q_1232, q_1233⟩
abbrev b_Model_book : ByteArray := prog_14_method_69_code
def y_Model_book : MethodName := ⟨"BakedBeforeModel", "book", "(IZ)I"⟩
theorem cf_Model_book : zcfV y_Model_book b_Model_book 3 (some .int) 2 := ⟨⟨q_1238, q_13, by decide, by decide, by decide +kernel⟩, q_1236, q_1237⟩
abbrev b_Model_isBookedSo : ByteArray := prog_14_method_70_code
def y_Model_isBookedSo : MethodName := ⟨"BakedBeforeModel", "isBookedSo", "(I)Z"⟩
theorem cf_Model_isBookedSo : zcfV y_Model_isBookedSo b_Model_isBookedSo 4 (some .boolean) 1 := ⟨⟨q_1246, q_13, by decide, by decide, by decide +kernel⟩, q_1245, qs_57⟩
abbrev b_Model_looked : ByteArray := prog_14_method_71_code
def y_Model_looked : MethodName := ⟨"BakedBeforeModel", "looked", "()I"⟩
theorem cf_Model_looked : zcfV y_Model_looked b_Model_looked 3 (some .int) 0 := ⟨⟨q_1242, q_13, by decide, by decide, by decide +kernel⟩, q_1240, q_1241⟩
abbrev b_Model_isTape : ByteArray := prog_14_method_72_code
def y_Model_isTape : MethodName := ⟨"BakedBeforeModel", "isTape", "(I)Z"⟩
theorem cf_Model_isTape : zcfS y_Model_isTape b_Model_isTape 1 (some .boolean) 1 := ⟨⟨q_1253, q_13, by decide, by decide, by decide +kernel⟩, q_1252⟩
abbrev b_Model_judge : ByteArray := prog_14_method_73_code
def y_Model_judge : MethodName := ⟨"BakedBeforeModel", "judge", "(II)I"⟩
theorem cf_Model_judge : zcfV y_Model_judge b_Model_judge 4 (some .int) 2 := ⟨⟨q_1250, q_13, by decide, by decide, by decide +kernel⟩, q_1248, q_1249⟩
abbrev b_Model_image : ByteArray := prog_14_method_74_code
def y_Model_image : MethodName := ⟨"BakedBeforeModel", "image", "()I"⟩
theorem cf_Model_image : zcfV y_Model_image b_Model_image 1 (some .int) 0 := ⟨⟨q_1257, q_13, by decide, by decide, by decide +kernel⟩, q_1255, q_1256⟩
abbrev b_Model_undo : ByteArray := prog_14_method_75_code
def y_Model_undo : MethodName := ⟨"BakedBeforeModel", "undo", "()I"⟩
theorem cf_Model_undo : zcfV y_Model_undo b_Model_undo 1 (some .int) 0 := ⟨⟨q_1261, q_13, by decide, by decide, by decide +kernel⟩, q_1259, q_1260⟩
abbrev b_Model_runs : ByteArray := prog_14_method_76_code
def y_Model_runs : MethodName := ⟨"BakedBeforeModel", "runs", "(I)V"⟩
theorem cf_Model_runs : zcfV y_Model_runs b_Model_runs 2 none 1 := ⟨⟨q_1273, q_13, by decide, by decide, by decide +kernel⟩, q_1272, qs_59⟩
abbrev b_Model_rises : ByteArray := prog_14_method_77_code
def y_Model_rises : MethodName := ⟨"BakedBeforeModel", "rises", "(II)I"⟩
theorem cf_Model_rises : zcfV y_Model_rises b_Model_rises 3 (some .int) 2 := ⟨⟨q_1269, q_13, by decide, by decide, by decide +kernel⟩, q_1268, qs_58⟩
abbrev b_Model_bakesFrom : ByteArray := prog_14_method_78_code
def y_Model_bakesFrom : MethodName := ⟨"BakedBeforeModel", "bakesFrom", "(II)I"⟩
theorem cf_Model_bakesFrom : zcfV y_Model_bakesFrom b_Model_bakesFrom 4 (some .int) 2 := ⟨⟨q_1277, q_13, by decide, by decide, by decide +kernel⟩, q_1276, qs_60⟩
abbrev b_Model_tells : ByteArray := prog_14_method_79_code
def y_Model_tells : MethodName := ⟨"BakedBeforeModel", "tells", "(II)I"⟩
theorem cf_Model_tells : zcfV y_Model_tells b_Model_tells 4 (some .int) 2 := ⟨⟨q_1281, q_13, by decide, by decide, by decide +kernel⟩, q_1280, qs_61⟩
abbrev b_Model_act : ByteArray := prog_14_method_80_code
def y_Model_act : MethodName := ⟨"BakedBeforeModel", "act", "(III)I"⟩
theorem cf_Model_act : zcfV y_Model_act b_Model_act 5 (some .int) 3 := ⟨⟨q_1265, q_13, by decide, by decide, by decide +kernel⟩, q_1263, q_1264⟩
abbrev b_Model_trace : ByteArray := prog_14_method_81_code
def y_Model_trace : MethodName := ⟨"BakedBeforeModel", "trace", "(I)I"⟩
theorem cf_Model_trace : zcfV y_Model_trace b_Model_trace 2 (some .int) 1 := ⟨⟨q_1285, q_13, by decide, by decide, by decide +kernel⟩, q_1283, q_1284⟩
abbrev b_Model_above : ByteArray := prog_14_method_82_code
def y_Model_above : MethodName := ⟨"BakedBeforeModel", "above", "(I)I"⟩
theorem cf_Model_above : zcfS y_Model_above b_Model_above 1 (some .int) 1 := ⟨⟨q_1292, q_13, by decide, by decide, by decide +kernel⟩, q_1291⟩
abbrev b_Model_taken : ByteArray := prog_14_method_83_code
def y_Model_taken : MethodName := ⟨"BakedBeforeModel", "taken", "(II)I"⟩
theorem cf_Model_taken : zcfV y_Model_taken b_Model_taken 4 (some .int) 2 := ⟨⟨q_1289, q_13, by decide, by decide, by decide +kernel⟩, q_1287, q_1288⟩
abbrev b_Model_count : ByteArray := prog_14_method_84_code
def y_Model_count : MethodName := ⟨"BakedBeforeModel", "count", "(I)I"⟩
theorem cf_Model_count : zcfV y_Model_count b_Model_count 2 (some .int) 1 := ⟨⟨q_1296, q_13, by decide, by decide, by decide +kernel⟩, q_1294, q_1295⟩
abbrev b_Model_tape : ByteArray := prog_14_method_85_code
def y_Model_tape : MethodName := ⟨"BakedBeforeModel", "tape", "(III)I"⟩
theorem cf_Model_tape : zcfV y_Model_tape b_Model_tape 5 (some .int) 3 := ⟨⟨q_1300, q_13, by decide, by decide, by decide +kernel⟩, q_1298, q_1299⟩
abbrev b_Model_kept : ByteArray := prog_14_method_86_code
def y_Model_kept : MethodName := ⟨"BakedBeforeModel", "kept", "(IJ)J"⟩
theorem cf_Model_kept : zcfS y_Model_kept b_Model_kept 3 (some .long) 2 := ⟨⟨q_1307, q_13, by decide, by decide, by decide +kernel⟩, q_1306⟩
abbrev b_Model_item : ByteArray := prog_14_method_87_code
def y_Model_item : MethodName := ⟨"BakedBeforeModel", "item", "(IIJ)I"⟩
theorem cf_Model_item : zcfV y_Model_item b_Model_item 5 (some .int) 3 := ⟨⟨q_1304, q_13, by decide, by decide, by decide +kernel⟩, q_1302, q_1303⟩
abbrev b_Model_read : ByteArray := prog_14_method_88_code
def y_Model_read : MethodName := ⟨"BakedBeforeModel", "read", "(II)J"⟩
theorem cf_Model_read : zcfV y_Model_read b_Model_read 3 (some .long) 2 := ⟨⟨q_1311, q_13, by decide, by decide, by decide +kernel⟩, q_1309, q_1310⟩
abbrev b_Model_shift : ByteArray := prog_14_method_89_code
def y_Model_shift : MethodName := ⟨"BakedBeforeModel", "shift", "(IIIII)I"⟩
theorem cf_Model_shift : zcfV y_Model_shift b_Model_shift 8 (some .int) 5 := ⟨⟨q_1315, q_13, by decide, by decide, by decide +kernel⟩, q_1313, q_1314⟩
abbrev b_Acts_play : ByteArray := prog_2_method_2_code
def y_Acts_play : MethodName := ⟨"BakedBefore$Acts", "play", "(LBakedBefore$Loaf;II)I"⟩
theorem cf_Acts_play : zcfV y_Acts_play b_Acts_play 4 (some .int) 3 := ⟨⟨q_793, q_11, by decide, by decide, by decide +kernel⟩, q_791, q_792⟩
abbrev b_Acts_run : ByteArray := prog_2_method_3_code
def y_Acts_run : MethodName := ⟨"BakedBefore$Acts", "run", "(LBakedBefore$Acts;LBakedBefore$Loaf;IIII)I"⟩
theorem cf_Acts_run : zcfS y_Acts_run b_Acts_run 10 (some .int) 6 := ⟨⟨q_796, q_11, by decide, by decide, by decide +kernel⟩, q_795⟩
abbrev b_Acts_bodyOf : ByteArray := prog_2_method_4_code
def y_Acts_bodyOf : MethodName := ⟨"BakedBefore$Acts", "bodyOf", "(II)I"⟩
theorem cf_Acts_bodyOf : zcfS y_Acts_bodyOf b_Acts_bodyOf 4 (some .int) 2 := ⟨⟨q_799, q_11, by decide, by decide, by decide +kernel⟩, q_798⟩
abbrev b_Acts_note : ByteArray := prog_2_method_5_code
def y_Acts_note : MethodName := ⟨"BakedBefore$Acts", "note", "(I)V"⟩
theorem cf_Acts_note : zcfV y_Acts_note b_Acts_note 2 none 1 := ⟨⟨q_807, q_11, by decide, by decide, by decide +kernel⟩, q_806, qs_18⟩
abbrev b_Asker_behind : ByteArray := prog_3_method_2_code
def y_Asker_behind : MethodName := ⟨"BakedBefore$Aske\x72", "behind", "(III)I"⟩
theorem cf_Asker_behind : zcfV y_Asker_behind b_Asker_behind 4 (some .int) 3 := ⟨⟨q_579, q_9, by decide, by decide, by decide +kernel⟩, q_577, q_578⟩
abbrev b_Asker_bestPlace : ByteArray := prog_3_method_3_code
def y_Asker_bestPlace : MethodName := ⟨"BakedBefore$Aske\x72", "bestPlace", "(IZ)I"⟩
theorem cf_Asker_bestPlace : zcfV y_Asker_bestPlace b_Asker_bestPlace 8 (some .int) 2 := ⟨⟨q_638, q_9, by decide, by decide, by decide +kernel⟩, q_636, q_637⟩
abbrev b_Asker_guiltyOf : ByteArray := prog_3_method_4_code
def y_Asker_guiltyOf : MethodName := ⟨"BakedBefore$Aske\x72", "guiltyOf", "(I)I"⟩
theorem cf_Asker_guiltyOf : zcfV y_Asker_guiltyOf b_Asker_guiltyOf 4 (some .int) 1 := ⟨⟨q_650, q_9, by decide, by decide, by decide +kernel⟩, q_648, q_649⟩
abbrev b_Asker_spoilsWithout : ByteArray := prog_3_method_5_code
def y_Asker_spoilsWithout : MethodName := ⟨"BakedBefore$Aske\x72", "spoilsWithout", "(II)Z"⟩
theorem cf_Asker_spoilsWithout : zcfV y_Asker_spoilsWithout b_Asker_spoilsWithout 4 (some .boolean) 2 := ⟨⟨q_654, q_9, by decide, by decide, by decide +kernel⟩, q_653, qs_14⟩
abbrev b_Asker_bestParting : ByteArray := prog_3_method_6_code
def y_Asker_bestParting : MethodName := ⟨"BakedBefore$Aske\x72", "bestParting", "(Z)I"⟩
theorem cf_Asker_bestParting : zcfV y_Asker_bestParting b_Asker_bestParting 7 (some .int) 1 := ⟨⟨q_662, q_9, by decide, by decide, by decide +kernel⟩, q_660, q_661⟩
abbrev b_Asker_spoiledIn : ByteArray := prog_3_method_7_code
def y_Asker_spoiledIn : MethodName := ⟨"BakedBefore$Aske\x72", "spoiledIn", "(I)I"⟩
theorem cf_Asker_spoiledIn : zcfV y_Asker_spoiledIn b_Asker_spoiledIn 4 (some .int) 1 := ⟨⟨q_666, q_9, by decide, by decide, by decide +kernel⟩, q_665, qs_15⟩
abbrev b_Asker_purse : ByteArray := prog_3_method_8_code
def y_Asker_purse : MethodName := ⟨"BakedBefore$Aske\x72", "purse", "(I)I"⟩
theorem cf_Asker_purse : zcfV y_Asker_purse b_Asker_purse 3 (some .int) 1 := ⟨⟨q_675, q_9, by decide, by decide, by decide +kernel⟩, q_673, q_674⟩
abbrev b_Asker_gainOfFirst : ByteArray := prog_3_method_9_code
def y_Asker_gainOfFirst : MethodName := ⟨"BakedBefore$Aske\x72", "gainOfFirst", "(I)I"⟩
theorem cf_Asker_gainOfFirst : zcfV y_Asker_gainOfFirst b_Asker_gainOfFirst 4 (some .int) 1 := ⟨⟨q_679, q_9, by decide, by decide, by decide +kernel⟩, q_678, qs_16⟩
abbrev b_Asker_bothAgree : ByteArray := prog_3_method_10_code
def y_Asker_bothAgree : MethodName := ⟨"BakedBefore$Aske\x72", "bothAgree", "(I)Z"⟩
theorem cf_Asker_bothAgree : zcfV y_Asker_bothAgree b_Asker_bothAgree 8 (some .boolean) 1 := ⟨⟨q_688, q_9, by decide, by decide, by decide +kernel⟩, q_686, q_687⟩
abbrev b_Asker_bakeAhead : ByteArray := prog_3_method_11_code
def y_Asker_bakeAhead : MethodName := ⟨"BakedBefore$Aske\x72", "bakeAhead", "(I)V"⟩
theorem cf_Asker_bakeAhead : zcfV y_Asker_bakeAhead b_Asker_bakeAhead 3 none 1 := ⟨⟨q_692, q_9, by decide, by decide, by decide +kernel⟩, q_691, qs_17⟩
abbrev b_Asker_heldBy : ByteArray := prog_3_method_12_code
def y_Asker_heldBy : MethodName := ⟨"BakedBefore$Aske\x72", "heldBy", "(LBakedBefore$Loaf;IIZ)I"⟩
theorem cf_Asker_heldBy : zcfV y_Asker_heldBy b_Asker_heldBy 11 (some .int) 4 := ⟨⟨q_700, q_9, by decide, by decide, by decide +kernel⟩, q_698, q_699⟩
abbrev b_Asker_reaching : ByteArray := prog_3_method_13_code
def y_Asker_reaching : MethodName := ⟨"BakedBefore$Aske\x72", "reaching", "(LBakedBefore$Loaf;IIIII)I"⟩
theorem cf_Asker_reaching : zcfS y_Asker_reaching b_Asker_reaching 9 (some .int) 6 := ⟨⟨q_704, q_9, by decide, by decide, by decide +kernel⟩, q_703⟩
abbrev b_Asker_afterYear : ByteArray := prog_3_method_14_code
def y_Asker_afterYear : MethodName := ⟨"BakedBefore$Aske\x72", "afterYea\x72", "(III)I"⟩
theorem cf_Asker_afterYear : zcfV y_Asker_afterYear b_Asker_afterYear 7 (some .int) 3 := ⟨⟨q_715, q_9, by decide, by decide, by decide +kernel⟩, q_713, q_714⟩
abbrev b_Asker_spoilers : ByteArray := prog_3_method_15_code
def y_Asker_spoilers : MethodName := ⟨"BakedBefore$Aske\x72", "spoilers", "(I)I"⟩
theorem cf_Asker_spoilers : zcfV y_Asker_spoilers b_Asker_spoilers 4 (some .int) 1 := ⟨⟨q_725, q_9, by decide, by decide, by decide +kernel⟩, q_723, q_724⟩
abbrev b_Asker_takenByAll : ByteArray := prog_3_method_16_code
def y_Asker_takenByAll : MethodName := ⟨"BakedBefore$Aske\x72", "takenByAll", "(I)I"⟩
theorem cf_Asker_takenByAll : zcfV y_Asker_takenByAll b_Asker_takenByAll 4 (some .int) 1 := ⟨⟨q_737, q_9, by decide, by decide, by decide +kernel⟩, q_735, q_736⟩
abbrev b_Asker_firstOtherwise : ByteArray := prog_3_method_17_code
def y_Asker_firstOtherwise : MethodName := ⟨"BakedBefore$Aske\x72", "firstOtherwise", "()I"⟩
theorem cf_Asker_firstOtherwise : zcfV y_Asker_firstOtherwise b_Asker_firstOtherwise 4 (some .int) 0 := ⟨⟨q_753, q_9, by decide, by decide, by decide +kernel⟩, q_751, q_752⟩
abbrev b_Baker_partOf : ByteArray := prog_4_method_2_code
def y_Baker_partOf : MethodName := ⟨"BakedBefore$Bake\x72", "partOf", "(LBakedBefore$Loaf;III)I"⟩
theorem cf_Baker_partOf : zcfV y_Baker_partOf b_Baker_partOf 5 (some .int) 4 := ⟨⟨q_391, q_8, by decide, by decide, by decide +kernel⟩, q_389, q_390⟩
abbrev b_Baker_amount : ByteArray := prog_4_method_3_code
def y_Baker_amount : MethodName := ⟨"BakedBefore$Bake\x72", "amount", "(LBakedBefore$Loaf;III)I"⟩
theorem cf_Baker_amount : zcfS y_Baker_amount b_Baker_amount 6 (some .int) 4 := ⟨⟨q_394, q_8, by decide, by decide, by decide +kernel⟩, q_393⟩
abbrev b_Baker_takes : ByteArray := prog_4_method_4_code
def y_Baker_takes : MethodName := ⟨"BakedBefore$Bake\x72", "takes", "(LBakedBefore$Loaf;ILBakedBefore$Oven;)I"⟩
theorem cf_Baker_takes : zcfV y_Baker_takes b_Baker_takes 5 (some .int) 3 := ⟨⟨q_387, q_8, by decide, by decide, by decide +kernel⟩, q_385, q_386⟩
abbrev b_Baker_takesOfAll : ByteArray := prog_4_method_5_code
def y_Baker_takesOfAll : MethodName := ⟨"BakedBefore$Bake\x72", "takesOfAll", "(LBakedBefore$Loaf;LBakedBefore$Oven;)I"⟩
theorem cf_Baker_takesOfAll : zcfV y_Baker_takesOfAll b_Baker_takesOfAll 5 (some .int) 2 := ⟨⟨q_642, q_8, by decide, by decide, by decide +kernel⟩, q_640, q_641⟩
abbrev b_Baker_leaves : ByteArray := prog_4_method_6_code
def y_Baker_leaves : MethodName := ⟨"BakedBefore$Bake\x72", "leaves", "(LBakedBefore$Loaf;ILBakedBefore$Oven;)I"⟩
theorem cf_Baker_leaves : zcfV y_Baker_leaves b_Baker_leaves 5 (some .int) 3 := ⟨⟨q_412, q_8, by decide, by decide, by decide +kernel⟩, q_410, q_411⟩
abbrev b_Baker_spoils : ByteArray := prog_4_method_7_code
def y_Baker_spoils : MethodName := ⟨"BakedBefore$Bake\x72", "spoils", "(LBakedBefore$Loaf;LBakedBefore$Oven;)Z"⟩
theorem cf_Baker_spoils : zcfV y_Baker_spoils b_Baker_spoils 4 (some .boolean) 2 := ⟨⟨q_383, q_8, by decide, by decide, by decide +kernel⟩, q_381, q_382⟩
abbrev b_Baker_bakeIn : ByteArray := prog_4_method_8_code
def y_Baker_bakeIn : MethodName := ⟨"BakedBefore$Bake\x72", "bakeIn", "(LBakedBefore$Oven;LBakedBefore$Loaf;)Z"⟩
theorem cf_Baker_bakeIn : zcfV y_Baker_bakeIn b_Baker_bakeIn 7 (some .boolean) 2 := ⟨⟨q_557, q_8, by decide, by decide, by decide +kernel⟩, q_555, q_556⟩
abbrev b_Baker_chill : ByteArray := prog_4_method_9_code
def y_Baker_chill : MethodName := ⟨"BakedBefore$Bake\x72", "chill", "(LBakedBefore$Oven;)V"⟩
theorem cf_Baker_chill : zcfV y_Baker_chill b_Baker_chill 3 none 1 := ⟨⟨q_571, q_8, by decide, by decide, by decide +kernel⟩, q_569, q_570⟩
abbrev b_Baker_feeOf : ByteArray := prog_4_method_10_code
def y_Baker_feeOf : MethodName := ⟨"BakedBefore$Bake\x72", "feeOf", "(LBakedBefore$Loaf;I)I"⟩
theorem cf_Baker_feeOf : zcfV y_Baker_feeOf b_Baker_feeOf 3 (some .int) 2 := ⟨⟨q_366, q_8, by decide, by decide, by decide +kernel⟩, q_364, q_365⟩
abbrev b_Book_append : ByteArray := prog_5_method_2_code
def y_Book_append : MethodName := ⟨"BakedBefore$Book", "append", "(IZ)I"⟩
theorem cf_Book_append : zcfV y_Book_append b_Book_append 3 (some .int) 2 := ⟨⟨q_745, q_4, by decide, by decide, by decide +kernel⟩, q_743, q_744⟩
abbrev b_Book_become : ByteArray := prog_5_method_3_code
def y_Book_become : MethodName := ⟨"BakedBefore$Book", "become", "(LBakedBefore$Book;)V"⟩
theorem cf_Book_become : zcfV y_Book_become b_Book_become 3 none 1 := ⟨⟨q_781, q_4, by decide, by decide, by decide +kernel⟩, q_779, q_780⟩
abbrev b_Kiln_empty : ByteArray := prog_6_method_2_code
def y_Kiln_empty : MethodName := ⟨"BakedBefore$Kiln", "empty", "()V"⟩
theorem cf_Kiln_empty : zcfV y_Kiln_empty b_Kiln_empty 1 none 0 := ⟨⟨q_436, q_7, by decide, by decide, by decide +kernel⟩, q_434, q_435⟩
abbrev b_Kiln_begin : ByteArray := prog_6_method_3_code
def y_Kiln_begin : MethodName := ⟨"BakedBefore$Kiln", "begin", "(II)V"⟩
theorem cf_Kiln_begin : zcfV y_Kiln_begin b_Kiln_begin 3 none 2 := ⟨⟨q_521, q_7, by decide, by decide, by decide +kernel⟩, q_519, q_520⟩
abbrev b_Kiln_append : ByteArray := prog_6_method_4_code
def y_Kiln_append : MethodName := ⟨"BakedBefore$Kiln", "append", "(I)V"⟩
theorem cf_Kiln_append : zcfV y_Kiln_append b_Kiln_append 2 none 1 := ⟨⟨q_544, q_7, by decide, by decide, by decide +kernel⟩, q_542, q_543⟩
abbrev b_Kiln_lookAt : ByteArray := prog_6_method_5_code
def y_Kiln_lookAt : MethodName := ⟨"BakedBefore$Kiln", "lookAt", "(LBakedBefore$Loaf;III)V"⟩
theorem cf_Kiln_lookAt : zcfV y_Kiln_lookAt b_Kiln_lookAt 5 none 4 := ⟨⟨q_370, q_7, by decide, by decide, by decide +kernel⟩, q_368, q_369⟩
abbrev b_Kiln_sum : ByteArray := prog_6_method_6_code
def y_Kiln_sum : MethodName := ⟨"BakedBefore$Kiln", "sum", "(I)I"⟩
theorem cf_Kiln_sum : zcfV y_Kiln_sum b_Kiln_sum 5 (some .int) 1 := ⟨⟨q_374, q_7, by decide, by decide, by decide +kernel⟩, q_372, q_373⟩
abbrev b_Kiln_holds : ByteArray := prog_6_method_7_code
def y_Kiln_holds : MethodName := ⟨"BakedBefore$Kiln", "holds", "(II)Z"⟩
theorem cf_Kiln_holds : zcfV y_Kiln_holds b_Kiln_holds 13 (some .boolean) 2 := ⟨⟨q_378, q_7, by decide, by decide, by decide +kernel⟩, q_377, qs_1⟩
abbrev b_Loaf_begin : ByteArray := prog_7_method_2_code
def y_Loaf_begin : MethodName := ⟨"BakedBefore$Loaf", "begin", "(II)V"⟩
theorem cf_Loaf_begin : zcfV y_Loaf_begin b_Loaf_begin 4 none 2 := ⟨⟨q_347, q_5, by decide, by decide, by decide +kernel⟩, q_345, q_346⟩
abbrev b_Loaf_become : ByteArray := prog_7_method_3_code
def y_Loaf_become : MethodName := ⟨"BakedBefore$Loaf", "become", "(LBakedBefore$Loaf;)V"⟩
theorem cf_Loaf_become : zcfV y_Loaf_become b_Loaf_become 3 none 1 := ⟨⟨q_776, q_5, by decide, by decide, by decide +kernel⟩, q_774, q_775⟩
abbrev b_Loaf_isUnder : ByteArray := prog_7_method_4_code
def y_Loaf_isUnder : MethodName := ⟨"BakedBefore$Loaf", "isUnde\x72", "(I)Z"⟩
theorem cf_Loaf_isUnder : zcfV y_Loaf_isUnder b_Loaf_isUnder 4 (some .boolean) 1 := ⟨⟨q_820, q_5, by decide, by decide, by decide +kernel⟩, q_818, q_819⟩
abbrev b_Oven_become : ByteArray := prog_8_method_2_code
def y_Oven_become : MethodName := ⟨"BakedBefore$Oven", "become", "(LBakedBefore$Oven;)V"⟩
theorem cf_Oven_become : zcfV y_Oven_become b_Oven_become 3 none 1 := ⟨⟨q_583, q_3, by decide, by decide, by decide +kernel⟩, q_581, q_582⟩
abbrev b_Oven_strike : ByteArray := prog_8_method_3_code
def y_Oven_strike : MethodName := ⟨"BakedBefore$Oven", "strike", "()V"⟩
theorem cf_Oven_strike : zcfV y_Oven_strike b_Oven_strike 1 none 0 := ⟨⟨q_562, q_3, by decide, by decide, by decide +kernel⟩, q_560, q_561⟩
abbrev b_Reader_append : ByteArray := prog_9_method_2_code
def y_Reader_append : MethodName := ⟨"BakedBefore$Reade\x72", "append", "(I)I"⟩
theorem cf_Reader_append : zcfV y_Reader_append b_Reader_append 2 (some .int) 1 := ⟨⟨q_424, q_6, by decide, by decide, by decide +kernel⟩, q_422, q_423⟩
abbrev b_Reader_readInto : ByteArray := prog_9_method_3_code
def y_Reader_readInto : MethodName := ⟨"BakedBefore$Reade\x72", "readInto", "(LBakedBefore$Kiln;)I"⟩
theorem cf_Reader_readInto : zcfV y_Reader_readInto b_Reader_readInto 4 (some .int) 1 := ⟨⟨q_432, q_6, by decide, by decide, by decide +kernel⟩, q_430, q_431⟩
abbrev b_Reader_readClause : ByteArray := prog_9_method_4_code
def y_Reader_readClause : MethodName := ⟨"BakedBefore$Reade\x72", "readClause", "()Z"⟩
theorem cf_Reader_readClause : zcfV y_Reader_readClause b_Reader_readClause 2 (some .boolean) 0 := ⟨⟨q_440, q_6, by decide, by decide, by decide +kernel⟩, q_439, qs_3⟩
abbrev b_Reader_readWord : ByteArray := prog_9_method_5_code
def y_Reader_readWord : MethodName := ⟨"BakedBefore$Reade\x72", "readWord", "(Ljava/lang/String;)Z"⟩
theorem cf_Reader_readWord : zcfV y_Reader_readWord b_Reader_readWord 3 (some .boolean) 1 := ⟨⟨q_458, q_6, by decide, by decide, by decide +kernel⟩, q_457, qs_5⟩
abbrev b_Reader_readNumber : ByteArray := prog_9_method_6_code
def y_Reader_readNumber : MethodName := ⟨"BakedBefore$Reade\x72", "readNumbe\x72", "()Z"⟩
theorem cf_Reader_readNumber : zcfV y_Reader_readNumber b_Reader_readNumber 1 (some .boolean) 0 := ⟨⟨q_514, q_6, by decide, by decide, by decide +kernel⟩, q_513, qs_7⟩
abbrev b_Reader_readEither : ByteArray := prog_9_method_7_code
def y_Reader_readEither : MethodName := ⟨"BakedBefore$Reade\x72", "readEithe\x72", "(I)Z"⟩
theorem cf_Reader_readEither : zcfV y_Reader_readEither b_Reader_readEither 3 (some .boolean) 1 := ⟨⟨q_525, q_6, by decide, by decide, by decide +kernel⟩, q_524, qs_8⟩
abbrev b_Reader_readBoth : ByteArray := prog_9_method_8_code
def y_Reader_readBoth : MethodName := ⟨"BakedBefore$Reade\x72", "readBoth", "(I)Z"⟩
theorem cf_Reader_readBoth : zcfV y_Reader_readBoth b_Reader_readBoth 3 (some .boolean) 1 := ⟨⟨q_529, q_6, by decide, by decide, by decide +kernel⟩, q_528, qs_9⟩
abbrev b_Reader_readPart : ByteArray := prog_9_method_9_code
def y_Reader_readPart : MethodName := ⟨"BakedBefore$Reade\x72", "readPart", "(I)Z"⟩
theorem cf_Reader_readPart : zcfV y_Reader_readPart b_Reader_readPart 6 (some .boolean) 1 := ⟨⟨q_533, q_6, by decide, by decide, by decide +kernel⟩, q_532, qs_10⟩
abbrev b_Reader_readTest : ByteArray := prog_9_method_10_code
def y_Reader_readTest : MethodName := ⟨"BakedBefore$Reade\x72", "readTest", "()Z"⟩
theorem cf_Reader_readTest : zcfV y_Reader_readTest b_Reader_readTest 3 (some .boolean) 0 := ⟨⟨q_537, q_6, by decide, by decide, by decide +kernel⟩, q_536, qs_11⟩
abbrev b_Reader_here : ByteArray := prog_9_method_11_code
def y_Reader_here : MethodName := ⟨"BakedBefore$Reade\x72", "here", "()I"⟩
theorem cf_Reader_here : zcfV y_Reader_here b_Reader_here 1 (some .int) 0 := ⟨⟨q_444, q_6, by decide, by decide, by decide +kernel⟩, q_443, qs_4⟩
abbrev b_Reader_skip : ByteArray := prog_9_method_12_code
def y_Reader_skip : MethodName := ⟨"BakedBefore$Reade\x72", "skip", "(C)Z"⟩
theorem cf_Reader_skip : zcfV y_Reader_skip b_Reader_skip 2 (some .boolean) 1 := ⟨⟨q_510, q_6, by decide, by decide, by decide +kernel⟩, q_509, qs_6⟩
abbrev b_Reader_isDigit : ByteArray := prog_9_method_13_code
def y_Reader_isDigit : MethodName := ⟨"BakedBefore$Reade\x72", "isDigit", "(I)Z"⟩
theorem cf_Reader_isDigit : zcfS y_Reader_isDigit b_Reader_isDigit 1 (some .boolean) 1 := ⟨⟨q_517, q_6, by decide, by decide, by decide +kernel⟩, q_516⟩
abbrev b_Reader_wordFrom : ByteArray := prog_9_method_14_code
def y_Reader_wordFrom : MethodName := ⟨"BakedBefore$Reade\x72", "wordFrom", "(I)I"⟩
theorem cf_Reader_wordFrom : zcfS y_Reader_wordFrom b_Reader_wordFrom 1 (some .int) 1 := ⟨⟨q_447, q_6, by decide, by decide, by decide +kernel⟩, q_446⟩
abbrev b_Reader_spelling : ByteArray := prog_9_method_15_code
def y_Reader_spelling : MethodName := ⟨"BakedBefore$Reade\x72", "spelling", "(I)Ljava/lang/String;"⟩
theorem cf_Reader_spelling : zcfS y_Reader_spelling b_Reader_spelling 1 (some (.object "java/lang/String")) 1 := ⟨⟨q_450, q_6, by decide, by decide, by decide +kernel⟩, q_449⟩
abbrev b_Reader_letterOf : ByteArray := prog_9_method_16_code
def y_Reader_letterOf : MethodName := ⟨"BakedBefore$Reade\x72", "letterOf", "(I)I"⟩
theorem cf_Reader_letterOf : zcfS y_Reader_letterOf b_Reader_letterOf 1 (some .int) 1 := ⟨⟨q_540, q_6, by decide, by decide, by decide +kernel⟩, q_539⟩
abbrev b_Search_seekOrder : ByteArray := prog_10_method_2_code
def y_Search_seekOrder : MethodName := ⟨"BakedBefore$Search", "seekOrde\x72", "(I)V"⟩
theorem cf_Search_seekOrder : zcfV y_Search_seekOrder b_Search_seekOrder 2 none 1 := ⟨⟨q_605, q_10, by decide, by decide, by decide +kernel⟩, q_603, q_604⟩
abbrev b_Search_goOnOrder : ByteArray := prog_10_method_3_code
def y_Search_goOnOrder : MethodName := ⟨"BakedBefore$Search", "goOnOrde\x72", "(LBakedBefore$Search;III)V"⟩
theorem cf_Search_goOnOrder : zcfS y_Search_goOnOrder b_Search_goOnOrder 8 none 4 := ⟨⟨q_610, q_10, by decide, by decide, by decide +kernel⟩, q_609⟩
abbrev b_Search_seekColds : ByteArray := prog_10_method_4_code
def y_Search_seekColds : MethodName := ⟨"BakedBefore$Search", "seekColds", "(I)Z"⟩
theorem cf_Search_seekColds : zcfV y_Search_seekColds b_Search_seekColds 3 (some .boolean) 1 := ⟨⟨q_623, q_10, by decide, by decide, by decide +kernel⟩, q_621, q_622⟩
abbrev b_Search_goOnColds : ByteArray := prog_10_method_5_code
def y_Search_goOnColds : MethodName := ⟨"BakedBefore$Search", "goOnColds", "(LBakedBefore$Search;III)V"⟩
theorem cf_Search_goOnColds : zcfS y_Search_goOnColds b_Search_goOnColds 8 none 4 := ⟨⟨q_626, q_10, by decide, by decide, by decide +kernel⟩, q_625⟩
abbrev b_Search_lowestOf : ByteArray := prog_10_method_6_code
def y_Search_lowestOf : MethodName := ⟨"BakedBefore$Search", "lowestOf", "(I)I"⟩
theorem cf_Search_lowestOf : zcfS y_Search_lowestOf b_Search_lowestOf 2 (some .int) 1 := ⟨⟨q_629, q_10, by decide, by decide, by decide +kernel⟩, q_628⟩
abbrev b_Search_keep : ByteArray := prog_10_method_7_code
def y_Search_keep : MethodName := ⟨"BakedBefore$Search", "keep", "(I)V"⟩
theorem cf_Search_keep : zcfV y_Search_keep b_Search_keep 3 none 1 := ⟨⟨q_614, q_10, by decide, by decide, by decide +kernel⟩, q_613, qs_13⟩
abbrev b_Stand_become : ByteArray := prog_11_method_2_code
def y_Stand_become : MethodName := ⟨"BakedBefore$Stand", "become", "(LBakedBefore$Stand;)V"⟩
theorem cf_Stand_become : zcfV y_Stand_become b_Stand_become 3 none 1 := ⟨⟨q_772, q_2, by decide, by decide, by decide +kernel⟩, q_770, q_771⟩
abbrev b_Tapes_isTape : ByteArray := prog_12_method_2_code
def y_Tapes_isTape : MethodName := ⟨"BakedBefore$Tapes", "isTape", "(I)Z"⟩
theorem cf_Tapes_isTape : zcfS y_Tapes_isTape b_Tapes_isTape 1 (some .boolean) 1 := ⟨⟨q_760, q_12, by decide, by decide, by decide +kernel⟩, q_759⟩
abbrev b_Tapes_begin : ByteArray := prog_12_method_3_code
def y_Tapes_begin : MethodName := ⟨"BakedBefore$Tapes", "begin", "(III)I"⟩
theorem cf_Tapes_begin : zcfV y_Tapes_begin b_Tapes_begin 5 (some .int) 3 := ⟨⟨q_833, q_12, by decide, by decide, by decide +kernel⟩, q_831, q_832⟩
abbrev b_Tapes_write : ByteArray := prog_12_method_4_code
def y_Tapes_write : MethodName := ⟨"BakedBefore$Tapes", "write", "(IIJ)I"⟩
theorem cf_Tapes_write : zcfV y_Tapes_write b_Tapes_write 5 (some .int) 3 := ⟨⟨q_841, q_12, by decide, by decide, by decide +kernel⟩, q_839, q_840⟩
abbrev b_Tapes_asItem : ByteArray := prog_12_method_5_code
def y_Tapes_asItem : MethodName := ⟨"BakedBefore$Tapes", "asItem", "(IJ)J"⟩
theorem cf_Tapes_asItem : zcfS y_Tapes_asItem b_Tapes_asItem 3 (some .long) 2 := ⟨⟨q_844, q_12, by decide, by decide, by decide +kernel⟩, q_843⟩
abbrev b_Tapes_valueAt : ByteArray := prog_12_method_6_code
def y_Tapes_valueAt : MethodName := ⟨"BakedBefore$Tapes", "valueAt", "(II)J"⟩
theorem cf_Tapes_valueAt : zcfV y_Tapes_valueAt b_Tapes_valueAt 3 (some .long) 2 := ⟨⟨q_852, q_12, by decide, by decide, by decide +kernel⟩, q_850, q_851⟩
abbrev b_Tapes_move : ByteArray := prog_12_method_7_code
def y_Tapes_move : MethodName := ⟨"BakedBefore$Tapes", "move", "(IIIII)I"⟩
theorem cf_Tapes_move : zcfV y_Tapes_move b_Tapes_move 6 (some .int) 5 := ⟨⟨q_861, q_12, by decide, by decide, by decide +kernel⟩, q_859, q_860⟩
abbrev b_Tapes_firstUnlike : ByteArray := prog_12_method_8_code
def y_Tapes_firstUnlike : MethodName := ⟨"BakedBefore$Tapes", "firstUnlike", "(IILBakedBefore$Oven;)I"⟩
theorem cf_Tapes_firstUnlike : zcfV y_Tapes_firstUnlike b_Tapes_firstUnlike 5 (some .int) 3 := ⟨⟨q_764, q_12, by decide, by decide, by decide +kernel⟩, q_762, q_763⟩
abbrev b_Integer_bitCount : ByteArray := prog_15_method_49_code
def y_Integer_bitCount : MethodName := ⟨"java/lang/Intege\x72", "bitCount", "(I)I"⟩
theorem cf_Integer_bitCount : zcfS y_Integer_bitCount b_Integer_bitCount 1 (some .int) 1 := ⟨⟨q_598, q_19, by decide, by decide, by decide +kernel⟩, q_597⟩
