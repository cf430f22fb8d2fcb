/-! The words by their places (written by program). -/
theorem GW_1 {w : Cond} (i : Nat) (h : tables_1_1[i]? = some w) (hg : goodWord w = true) : w ∈ GW := GW_of (List.mem_append_right _ (List.mem_append_left _ (List.mem_of_getElem? h))) hg
theorem GW_2 {w : Cond} (i : Nat) (h : tables_1_2[i]? = some w) (hg : goodWord w = true) : w ∈ GW := GW_of (List.mem_append_right _ (List.mem_append_right _ (List.mem_append_left _ (List.mem_of_getElem? h)))) hg
theorem GW_3 {w : Cond} (i : Nat) (h : tables_1_3[i]? = some w) (hg : goodWord w = true) : w ∈ GW := GW_of (List.mem_append_right _ (List.mem_append_right _ (List.mem_append_right _ (List.mem_append_left _ (List.mem_of_getElem? h))))) hg
theorem GW_4 {w : Cond} (i : Nat) (h : tables_1_4[i]? = some w) (hg : goodWord w = true) : w ∈ GW := GW_of (List.mem_append_right _ (List.mem_append_right _ (List.mem_append_right _ (List.mem_append_right _ (List.mem_append_left _ (List.mem_of_getElem? h)))))) hg
theorem GW_5 {w : Cond} (i : Nat) (h : tables_1_5[i]? = some w) (hg : goodWord w = true) : w ∈ GW := GW_of (List.mem_append_right _ (List.mem_append_right _ (List.mem_append_right _ (List.mem_append_right _ (List.mem_append_right _ (List.mem_append_left _ (List.mem_of_getElem? h))))))) hg
theorem GW_6 {w : Cond} (i : Nat) (h : tables_1_6[i]? = some w) (hg : goodWord w = true) : w ∈ GW := GW_of (List.mem_append_right _ (List.mem_append_right _ (List.mem_append_right _ (List.mem_append_right _ (List.mem_append_right _ (List.mem_append_right _ (List.mem_append_left _ (List.mem_of_getElem? h)))))))) hg
theorem GW_7 {w : Cond} (i : Nat) (h : tables_1_7[i]? = some w) (hg : goodWord w = true) : w ∈ GW := GW_of (List.mem_append_right _ (List.mem_append_right _ (List.mem_append_right _ (List.mem_append_right _ (List.mem_append_right _ (List.mem_append_right _ (List.mem_append_right _ (List.mem_append_left _ (List.mem_of_getElem? h))))))))) hg
theorem GW_8 {w : Cond} (i : Nat) (h : tables_1_8[i]? = some w) (hg : goodWord w = true) : w ∈ GW := GW_of (List.mem_append_right _ (List.mem_append_right _ (List.mem_append_right _ (List.mem_append_right _ (List.mem_append_right _ (List.mem_append_right _ (List.mem_append_right _ (List.mem_append_right _ (List.mem_of_getElem? h))))))))) hg
theorem lk_X9_10 : Cond.fieldLink RX9 10 "VowelChoir" "tape" "LVowelChoir$Tape;" ∈ GW := GW_2 80 rfl rfl
theorem lk_X9_19 : Cond.fieldLink RX9 19 "VowelChoir" "stage" "LVowelChoir$Stage;" ∈ GW := GW_2 81 rfl rfl
theorem lk_X9_26 : Cond.fieldLink RX9 26 "VowelChoir" "plan" "LVowelChoir$Plan;" ∈ GW := GW_2 82 rfl rfl
theorem lk_X9_33 : Cond.fieldLink RX9 33 "VowelChoir" "life" "LVowelChoir$Life;" ∈ GW := GW_2 83 rfl rfl
theorem lk_X9_37 : Cond.fieldLink RX9 37 "VowelChoir" "images" "[LVowelChoir$Life;" ∈ GW := GW_2 84 rfl rfl
theorem lk_X9_44 : Cond.fieldLink RX9 44 "VowelChoir" "trial" "LVowelChoir$Scene;" ∈ GW := GW_2 85 rfl rfl
theorem lk_X9_51 : Cond.fieldLink RX9 51 "VowelChoir" "seats" "LVowelChoir$Bench;" ∈ GW := GW_2 86 rfl rfl
theorem lk_X9_55 : Cond.fieldLink RX9 55 "VowelChoir" "tally" "[I" ∈ GW := GW_2 87 rfl rfl
theorem lk_X9_62 : Cond.fieldLink RX9 62 "VowelChoir" "nextRoll" "LVowelChoir$Roll;" ∈ GW := GW_2 88 rfl rfl
theorem lk_X9_69 : Cond.fieldLink RX9 69 "VowelChoir" "nextRule" "LVowelChoir$Law;" ∈ GW := GW_2 89 rfl rfl
theorem lk_X9_76 : Cond.fieldLink RX9 76 "VowelChoir" "lines" "LVowelChoir$Book;" ∈ GW := GW_2 90 rfl rfl
theorem lk_X9_80 : Cond.fieldLink RX9 80 "VowelChoir" "nextLines" "LVowelChoir$Book;" ∈ GW := GW_2 91 rfl rfl
theorem lk_X9_83 : Cond.fieldLink RX9 83 "VowelChoir$Tape" "size" "I" ∈ GW := GW_1 38 rfl rfl
theorem lk_X9_103 : Cond.fieldLink RX9 103 "VowelChoir$Tape" "kind" "I" ∈ GW := GW_1 41 rfl rfl
theorem lk_X9_106 : Cond.fieldLink RX9 106 "VowelChoir$Stage" "roll" "LVowelChoir$Roll;" ∈ GW := GW_1 172 rfl rfl
theorem lk_X9_112 : Cond.fieldLink RX9 112 "VowelChoir$Roll" "singers" "I" ∈ GW := GW_1 85 rfl rfl
theorem lk_X9_116 : Cond.fieldLink RX9 116 "VowelChoir$Stage" "rule" "LVowelChoir$Law;" ∈ GW := GW_1 174 rfl rfl
theorem lk_X9_119 : Cond.fieldLink RX9 119 "VowelChoir$Life" "works" "I" ∈ GW := GW_2 30 rfl rfl
theorem lk_X9_128 : Cond.fieldLink RX9 128 "VowelChoir$Life" "now" "LVowelChoir$Scene;" ∈ GW := GW_2 32 rfl rfl
theorem lk_X9_131 : Cond.fieldLink RX9 131 "VowelChoir$Plan" "steps" "I" ∈ GW := GW_1 187 rfl rfl
theorem lk_X9_138 : Cond.fieldLink RX9 138 "VowelChoir$Plan" "refused" "I" ∈ GW := GW_1 191 rfl rfl
theorem lk_X9_141 : Cond.fieldLink RX9 141 "VowelChoir" "refusedSteps" "I" ∈ GW := GW_2 93 rfl rfl
theorem lk_X9_144 : Cond.fieldLink RX9 144 "VowelChoir$Plan" "done" "I" ∈ GW := GW_1 189 rfl rfl
theorem lk_X9_147 : Cond.fieldLink RX9 147 "VowelChoir$Roll" "notes" "I" ∈ GW := GW_1 90 rfl rfl
theorem lk_X9_153 : Cond.fieldLink RX9 153 "VowelChoir$Book" "asked" "I" ∈ GW := GW_2 73 rfl rfl
theorem lk_X9_162 : Cond.fieldLink RX9 162 "VowelChoir$Tape" "place" "I" ∈ GW := GW_1 43 rfl rfl
theorem lk_X9_176 : Cond.fieldLink RX9 176 "VowelChoir$Roll" "likes" "I" ∈ GW := GW_1 92 rfl rfl
theorem lk_X9_179 : Cond.fieldLink RX9 179 "VowelChoir$Scene" "day" "I" ∈ GW := GW_1 229 rfl rfl
theorem lk_X9_182 : Cond.fieldLink RX9 182 "VowelChoir$Scene" "hoarse" "I" ∈ GW := GW_1 232 rfl rfl
theorem lk_X9_185 : Cond.fieldLink RX9 185 "VowelChoir$Scene" "dropped" "I" ∈ GW := GW_1 235 rfl rfl
theorem lk_X9_188 : Cond.fieldLink RX9 188 "VowelChoir$Scene" "sang" "[I" ∈ GW := GW_2 1 rfl rfl
theorem lk_X9_195 : Cond.fieldLink RX9 195 "VowelChoir$Scene" "owed" "[I" ∈ GW := GW_2 4 rfl rfl
theorem lk_X9_198 : Cond.fieldLink RX9 198 "VowelChoir$Scene" "left" "[I" ∈ GW := GW_1 238 rfl rfl
theorem lk_X9_212 : Cond.fieldLink RX9 212 "VowelChoir$Roll" "vowel" "[I" ∈ GW := GW_1 97 rfl rfl
theorem lk_X9_215 : Cond.fieldLink RX9 215 "VowelChoir$Roll" "pay" "[I" ∈ GW := GW_1 100 rfl rfl
theorem lk_X9_218 : Cond.fieldLink RX9 218 "VowelChoir$Roll" "breath" "[I" ∈ GW := GW_1 104 rfl rfl
theorem lk_X9_221 : Cond.fieldLink RX9 221 "VowelChoir$Scene" "today" "[I" ∈ GW := GW_2 7 rfl rfl
theorem lk_X9_227 : Cond.fieldLink RX9 227 "VowelChoir$Scene" "sound" "[I" ∈ GW := GW_2 10 rfl rfl
theorem lk_X9_230 : Cond.fieldLink RX9 230 "VowelChoir$Roll" "sound" "[I" ∈ GW := GW_1 107 rfl rfl
theorem lk_X9_231 : Cond.fieldLink RX9 231 "VowelChoir$Roll" "length" "[I" ∈ GW := GW_1 110 rfl rfl
theorem lk_X9_237 : Cond.fieldLink RX9 237 "VowelChoir$Roll" "likedNote" "[I" ∈ GW := GW_1 115 rfl rfl
theorem lk_X9_240 : Cond.fieldLink RX9 240 "VowelChoir$Roll" "likedVowel" "[I" ∈ GW := GW_1 117 rfl rfl
theorem lk_X9_250 : Cond.fieldLink RX9 250 "VowelChoir$Law" "facts" "[I" ∈ GW := GW_1 152 rfl rfl
theorem lk_X9_336 : Cond.fieldLink RX9 336 "VowelChoir$Roll" "allowed" "[I" ∈ GW := GW_1 113 rfl rfl
theorem lk_X9_346 : Cond.fieldLink RX9 346 "VowelChoir" "imagesKept" "I" ∈ GW := GW_2 92 rfl rfl
theorem lk_X9_352 : Cond.fieldLink RX9 352 "VowelChoir" "notFound" "I" ∈ GW := GW_2 95 rfl rfl
theorem lk_X9_355 : Cond.fieldLink RX9 355 "VowelChoir" "notTaken" "I" ∈ GW := GW_2 96 rfl rfl
theorem lk_X9_393 : Cond.fieldLink RX9 393 "VowelChoir$Bench" "singers" "I" ∈ GW := GW_2 51 rfl rfl
theorem lk_X9_394 : Cond.fieldLink RX9 394 "VowelChoir$Bench" "between" "[I" ∈ GW := GW_2 53 rfl rfl
theorem lk_X9_400 : Cond.fieldLink RX9 400 "VowelChoir" "lot" "I" ∈ GW := GW_2 94 rfl rfl
theorem lk_X0_9 : Cond.fieldLink RX0 9 "VowelChoir$Bench" "between" "[I" ∈ GW := GW_2 52 rfl rfl
theorem lk_X0_15 : Cond.fieldLink RX0 15 "VowelChoir$Bench" "best" "[I" ∈ GW := GW_2 54 rfl rfl
theorem lk_X0_18 : Cond.fieldLink RX0 18 "VowelChoir$Bench" "singers" "I" ∈ GW := GW_2 50 rfl rfl
theorem lk_X1_9 : Cond.fieldLink RX1 9 "VowelChoir$Book" "asked" "I" ∈ GW := GW_2 72 rfl rfl
theorem lk_X1_15 : Cond.fieldLink RX1 15 "VowelChoir$Book" "heard" "I" ∈ GW := GW_2 74 rfl rfl
theorem lk_X1_31 : Cond.fieldLink RX1 31 "VowelChoir$Tape" "start" "I" ∈ GW := GW_1 48 rfl rfl
theorem lk_X2_11 : Cond.fieldLink RX2 11 "VowelChoir$Law" "facts" "[I" ∈ GW := GW_1 150 rfl rfl
theorem lk_X2_15 : Cond.fieldLink RX2 15 "VowelChoir$Law" "kind" "[I" ∈ GW := GW_1 153 rfl rfl
theorem lk_X2_18 : Cond.fieldLink RX2 18 "VowelChoir$Law" "first" "[I" ∈ GW := GW_1 154 rfl rfl
theorem lk_X2_21 : Cond.fieldLink RX2 21 "VowelChoir$Law" "second" "[I" ∈ GW := GW_1 155 rfl rfl
theorem lk_X2_24 : Cond.fieldLink RX2 24 "VowelChoir$Law" "value" "[I" ∈ GW := GW_1 156 rfl rfl
theorem lk_X2_27 : Cond.fieldLink RX2 27 "VowelChoir$Law" "nodes" "I" ∈ GW := GW_1 157 rfl rfl
theorem lk_X2_45 : Cond.fieldLink RX2 45 "VowelChoir$Tape" "at" "I" ∈ GW := GW_1 46 rfl rfl
theorem lk_X2_92 : Cond.fieldLink RX2 92 "VowelChoir$Tape" "start" "I" ∈ GW := GW_1 51 rfl rfl
theorem lk_X3_12 : Cond.fieldLink RX3 12 "VowelChoir$Life" "now" "LVowelChoir$Scene;" ∈ GW := GW_2 31 rfl rfl
theorem lk_X3_18 : Cond.fieldLink RX3 18 "VowelChoir$Life" "before" "[LVowelChoir$Scene;" ∈ GW := GW_2 33 rfl rfl
theorem lk_X3_22 : Cond.fieldLink RX3 22 "VowelChoir$Life" "works" "I" ∈ GW := GW_2 29 rfl rfl
theorem lk_X4_9 : Cond.fieldLink RX4 9 "VowelChoir$Plan" "kind" "[I" ∈ GW := GW_1 193 rfl rfl
theorem lk_X4_15 : Cond.fieldLink RX4 15 "VowelChoir$Plan" "first" "[I" ∈ GW := GW_1 194 rfl rfl
theorem lk_X4_18 : Cond.fieldLink RX4 18 "VowelChoir$Plan" "second" "[I" ∈ GW := GW_1 195 rfl rfl
theorem lk_X4_21 : Cond.fieldLink RX4 21 "VowelChoir$Plan" "behind" "[I" ∈ GW := GW_1 196 rfl rfl
theorem lk_X4_24 : Cond.fieldLink RX4 24 "VowelChoir$Plan" "steps" "I" ∈ GW := GW_1 186 rfl rfl
theorem lk_X4_28 : Cond.fieldLink RX4 28 "VowelChoir$Plan" "done" "I" ∈ GW := GW_1 188 rfl rfl
theorem lk_X4_31 : Cond.fieldLink RX4 31 "VowelChoir$Plan" "refused" "I" ∈ GW := GW_1 190 rfl rfl
theorem lk_X4_34 : Cond.fieldLink RX4 34 "VowelChoir$Plan" "begun" "I" ∈ GW := GW_1 192 rfl rfl
theorem lk_X4_47 : Cond.fieldLink RX4 47 "VowelChoir$Tape" "at" "I" ∈ GW := GW_1 44 rfl rfl
theorem lk_X4_68 : Cond.fieldLink RX4 68 "VowelChoir$Tape" "start" "I" ∈ GW := GW_1 50 rfl rfl
theorem lk_X4_102 : Cond.fieldLink RX4 102 "VowelChoir$Roll" "notes" "I" ∈ GW := GW_1 89 rfl rfl
theorem lk_X4_107 : Cond.fieldLink RX4 107 "VowelChoir$Roll" "singers" "I" ∈ GW := GW_1 86 rfl rfl
theorem lk_X4_141 : Cond.fieldLink RX4 141 "VowelChoir$Scene" "day" "I" ∈ GW := GW_1 228 rfl rfl
theorem lk_X5_9 : Cond.fieldLink RX5 9 "VowelChoir$Roll" "back" "I" ∈ GW := GW_1 93 rfl rfl
theorem lk_X5_15 : Cond.fieldLink RX5 15 "VowelChoir$Roll" "vowel" "[I" ∈ GW := GW_1 95 rfl rfl
theorem lk_X5_19 : Cond.fieldLink RX5 19 "VowelChoir$Roll" "pay" "[I" ∈ GW := GW_1 98 rfl rfl
theorem lk_X5_22 : Cond.fieldLink RX5 22 "VowelChoir$Roll" "breath" "[I" ∈ GW := GW_1 101 rfl rfl
theorem lk_X5_25 : Cond.fieldLink RX5 25 "VowelChoir$Roll" "sound" "[I" ∈ GW := GW_1 105 rfl rfl
theorem lk_X5_28 : Cond.fieldLink RX5 28 "VowelChoir$Roll" "length" "[I" ∈ GW := GW_1 108 rfl rfl
theorem lk_X5_31 : Cond.fieldLink RX5 31 "VowelChoir$Roll" "allowed" "[I" ∈ GW := GW_1 111 rfl rfl
theorem lk_X5_34 : Cond.fieldLink RX5 34 "VowelChoir$Roll" "likedNote" "[I" ∈ GW := GW_1 114 rfl rfl
theorem lk_X5_37 : Cond.fieldLink RX5 37 "VowelChoir$Roll" "likedVowel" "[I" ∈ GW := GW_1 116 rfl rfl
theorem lk_X5_40 : Cond.fieldLink RX5 40 "VowelChoir$Roll" "singers" "I" ∈ GW := GW_1 82 rfl rfl
theorem lk_X5_43 : Cond.fieldLink RX5 43 "VowelChoir$Roll" "notes" "I" ∈ GW := GW_1 87 rfl rfl
theorem lk_X5_46 : Cond.fieldLink RX5 46 "VowelChoir$Roll" "likes" "I" ∈ GW := GW_1 91 rfl rfl
theorem lk_X5_86 : Cond.fieldLink RX5 86 "VowelChoir$Tape" "start" "I" ∈ GW := GW_1 49 rfl rfl
theorem lk_X6_9 : Cond.fieldLink RX6 9 "VowelChoir$Scene" "left" "[I" ∈ GW := GW_1 236 rfl rfl
theorem lk_X6_15 : Cond.fieldLink RX6 15 "VowelChoir$Scene" "sang" "[I" ∈ GW := GW_1 239 rfl rfl
theorem lk_X6_18 : Cond.fieldLink RX6 18 "VowelChoir$Scene" "owed" "[I" ∈ GW := GW_2 2 rfl rfl
theorem lk_X6_21 : Cond.fieldLink RX6 21 "VowelChoir$Scene" "today" "[I" ∈ GW := GW_2 5 rfl rfl
theorem lk_X6_24 : Cond.fieldLink RX6 24 "VowelChoir$Scene" "sound" "[I" ∈ GW := GW_2 8 rfl rfl
theorem lk_X6_27 : Cond.fieldLink RX6 27 "VowelChoir$Scene" "day" "I" ∈ GW := GW_1 226 rfl rfl
theorem lk_X6_31 : Cond.fieldLink RX6 31 "VowelChoir$Scene" "hoarse" "I" ∈ GW := GW_1 230 rfl rfl
theorem lk_X6_34 : Cond.fieldLink RX6 34 "VowelChoir$Scene" "dropped" "I" ∈ GW := GW_1 233 rfl rfl
theorem lk_X6_37 : Cond.fieldLink RX6 37 "VowelChoir$Roll" "singers" "I" ∈ GW := GW_1 83 rfl rfl
theorem lk_X6_42 : Cond.fieldLink RX6 42 "VowelChoir$Roll" "breath" "[I" ∈ GW := GW_1 102 rfl rfl
theorem lk_X6_45 : Cond.fieldLink RX6 45 "VowelChoir$Roll" "sound" "[I" ∈ GW := GW_1 106 rfl rfl
theorem lk_X7_12 : Cond.fieldLink RX7 12 "VowelChoir$Stage" "roll" "LVowelChoir$Roll;" ∈ GW := GW_1 171 rfl rfl
theorem lk_X7_21 : Cond.fieldLink RX7 21 "VowelChoir$Stage" "rule" "LVowelChoir$Law;" ∈ GW := GW_1 173 rfl rfl
theorem lk_X7_25 : Cond.fieldLink RX7 25 "VowelChoir$Law" "facts" "[I" ∈ GW := GW_1 151 rfl rfl
theorem lk_X7_29 : Cond.fieldLink RX7 29 "VowelChoir$Roll" "length" "[I" ∈ GW := GW_1 109 rfl rfl
theorem lk_X7_32 : Cond.fieldLink RX7 32 "VowelChoir$Roll" "pay" "[I" ∈ GW := GW_1 99 rfl rfl
theorem lk_X7_35 : Cond.fieldLink RX7 35 "VowelChoir$Scene" "left" "[I" ∈ GW := GW_1 237 rfl rfl
theorem lk_X7_40 : Cond.fieldLink RX7 40 "VowelChoir$Scene" "sang" "[I" ∈ GW := GW_2 0 rfl rfl
theorem lk_X7_43 : Cond.fieldLink RX7 43 "VowelChoir$Scene" "sound" "[I" ∈ GW := GW_2 9 rfl rfl
theorem lk_X7_46 : Cond.fieldLink RX7 46 "VowelChoir$Scene" "day" "I" ∈ GW := GW_1 227 rfl rfl
theorem lk_X7_54 : Cond.fieldLink RX7 54 "VowelChoir$Roll" "singers" "I" ∈ GW := GW_1 84 rfl rfl
theorem lk_X7_57 : Cond.fieldLink RX7 57 "VowelChoir$Roll" "vowel" "[I" ∈ GW := GW_1 96 rfl rfl
theorem lk_X7_60 : Cond.fieldLink RX7 60 "VowelChoir$Scene" "hoarse" "I" ∈ GW := GW_1 231 rfl rfl
theorem lk_X7_67 : Cond.fieldLink RX7 67 "VowelChoir$Scene" "today" "[I" ∈ GW := GW_2 6 rfl rfl
theorem lk_X7_70 : Cond.fieldLink RX7 70 "VowelChoir$Roll" "notes" "I" ∈ GW := GW_1 88 rfl rfl
theorem lk_X7_77 : Cond.fieldLink RX7 77 "VowelChoir$Scene" "dropped" "I" ∈ GW := GW_1 234 rfl rfl
theorem lk_X7_80 : Cond.fieldLink RX7 80 "VowelChoir$Roll" "breath" "[I" ∈ GW := GW_1 103 rfl rfl
theorem lk_X7_83 : Cond.fieldLink RX7 83 "VowelChoir$Roll" "back" "I" ∈ GW := GW_1 94 rfl rfl
theorem lk_X7_92 : Cond.fieldLink RX7 92 "VowelChoir$Roll" "allowed" "[I" ∈ GW := GW_1 112 rfl rfl
theorem lk_X7_99 : Cond.fieldLink RX7 99 "VowelChoir$Scene" "owed" "[I" ∈ GW := GW_2 3 rfl rfl
theorem lk_X8_9 : Cond.fieldLink RX8 9 "VowelChoir$Tape" "place" "I" ∈ GW := GW_1 42 rfl rfl
theorem lk_X8_15 : Cond.fieldLink RX8 15 "VowelChoir$Tape" "bytes" "[B" ∈ GW := GW_1 53 rfl rfl
theorem lk_X8_19 : Cond.fieldLink RX8 19 "VowelChoir$Tape" "size" "I" ∈ GW := GW_1 39 rfl rfl
theorem lk_X8_22 : Cond.fieldLink RX8 22 "VowelChoir$Tape" "end" "I" ∈ GW := GW_1 52 rfl rfl
theorem lk_X8_25 : Cond.fieldLink RX8 25 "VowelChoir$Tape" "at" "I" ∈ GW := GW_1 45 rfl rfl
theorem lk_X8_28 : Cond.fieldLink RX8 28 "VowelChoir$Tape" "start" "I" ∈ GW := GW_1 47 rfl rfl
theorem lk_X8_31 : Cond.fieldLink RX8 31 "VowelChoir$Tape" "kind" "I" ∈ GW := GW_1 40 rfl rfl
theorem lk_X10_9 : Cond.fieldLink RX10 9 "VowelChoirModel" "place" "I" ∈ GW := GW_6 13 rfl rfl
theorem lk_X10_13 : Cond.fieldLink RX10 13 "VowelChoirModel" "fed" "[I" ∈ GW := GW_6 19 rfl rfl
theorem lk_X10_17 : Cond.fieldLink RX10 17 "VowelChoirModel" "refused" "[I" ∈ GW := GW_6 20 rfl rfl
theorem lk_X10_20 : Cond.fieldLink RX10 20 "VowelChoirModel" "readTold" "[I" ∈ GW := GW_6 21 rfl rfl
theorem lk_X10_23 : Cond.fieldLink RX10 23 "VowelChoirModel" "told" "[I" ∈ GW := GW_6 22 rfl rfl
theorem lk_X10_28 : Cond.fieldLink RX10 28 "VowelChoirModel" "readSinger" "[[I" ∈ GW := GW_6 23 rfl rfl
theorem lk_X10_31 : Cond.fieldLink RX10 31 "VowelChoirModel" "singer" "[[I" ∈ GW := GW_6 24 rfl rfl
theorem lk_X10_34 : Cond.fieldLink RX10 34 "VowelChoirModel" "readNote" "[[I" ∈ GW := GW_6 25 rfl rfl
theorem lk_X10_37 : Cond.fieldLink RX10 37 "VowelChoirModel" "note" "[[I" ∈ GW := GW_6 26 rfl rfl
theorem lk_X10_40 : Cond.fieldLink RX10 40 "VowelChoirModel" "readLike" "[[I" ∈ GW := GW_6 27 rfl rfl
theorem lk_X10_43 : Cond.fieldLink RX10 43 "VowelChoirModel" "like" "[[I" ∈ GW := GW_6 28 rfl rfl
theorem lk_X10_46 : Cond.fieldLink RX10 46 "VowelChoirModel" "law" "[[I" ∈ GW := GW_6 31 rfl rfl
theorem lk_X10_49 : Cond.fieldLink RX10 49 "VowelChoirModel" "readLaw" "[[I" ∈ GW := GW_6 32 rfl rfl
theorem lk_X10_52 : Cond.fieldLink RX10 52 "VowelChoirModel" "line" "[[I" ∈ GW := GW_6 33 rfl rfl
theorem lk_X10_55 : Cond.fieldLink RX10 55 "VowelChoirModel" "readLine" "[[I" ∈ GW := GW_6 34 rfl rfl
theorem lk_X10_58 : Cond.fieldLink RX10 58 "VowelChoirModel" "stack" "[I" ∈ GW := GW_6 35 rfl rfl
theorem lk_X10_61 : Cond.fieldLink RX10 61 "VowelChoirModel" "known" "[I" ∈ GW := GW_6 36 rfl rfl
theorem lk_X10_64 : Cond.fieldLink RX10 64 "VowelChoirModel" "step" "[[I" ∈ GW := GW_6 37 rfl rfl
theorem lk_X10_67 : Cond.fieldLink RX10 67 "VowelChoirModel" "now" "[I" ∈ GW := GW_6 39 rfl rfl
theorem lk_X10_70 : Cond.fieldLink RX10 70 "VowelChoirModel" "trial" "[I" ∈ GW := GW_6 40 rfl rfl
theorem lk_X10_73 : Cond.fieldLink RX10 73 "VowelChoirModel" "before" "[[I" ∈ GW := GW_6 41 rfl rfl
theorem lk_X10_76 : Cond.fieldLink RX10 76 "VowelChoirModel" "kept" "[[I" ∈ GW := GW_6 42 rfl rfl
theorem lk_X10_79 : Cond.fieldLink RX10 79 "VowelChoirModel" "sits" "[I" ∈ GW := GW_6 51 rfl rfl
theorem lk_X10_82 : Cond.fieldLink RX10 82 "VowelChoirModel" "bestSits" "[I" ∈ GW := GW_6 52 rfl rfl
theorem lk_X10_85 : Cond.fieldLink RX10 85 "VowelChoirModel" "exact" "[J" ∈ GW := GW_6 54 rfl rfl
theorem lk_X10_95 : Cond.fieldLink RX10 95 "VowelChoirModel" "thrown" "I" ∈ GW := GW_6 10 rfl rfl
theorem lk_X10_98 : Cond.fieldLink RX10 98 "VowelChoirModel" "tape" "I" ∈ GW := GW_6 11 rfl rfl
theorem lk_X10_101 : Cond.fieldLink RX10 101 "VowelChoirModel" "size" "I" ∈ GW := GW_6 12 rfl rfl
theorem lk_X10_104 : Cond.fieldLink RX10 104 "VowelChoirModel" "at" "I" ∈ GW := GW_6 14 rfl rfl
theorem lk_X10_111 : Cond.fieldLink RX10 111 "VowelChoirModel" "fault" "I" ∈ GW := GW_6 15 rfl rfl
theorem lk_X10_114 : Cond.fieldLink RX10 114 "VowelChoirModel" "faultAt" "I" ∈ GW := GW_6 16 rfl rfl
theorem lk_X10_151 : Cond.fieldLink RX10 151 "VowelChoirModel" "clauses" "I" ∈ GW := GW_6 17 rfl rfl
theorem lk_X10_154 : Cond.fieldLink RX10 154 "VowelChoirModel" "open" "I" ∈ GW := GW_6 18 rfl rfl
theorem lk_X10_192 : Cond.fieldLink RX10 192 "VowelChoirModel" "lawMany" "I" ∈ GW := GW_6 29 rfl rfl
theorem lk_X10_195 : Cond.fieldLink RX10 195 "VowelChoirModel" "lines" "I" ∈ GW := GW_6 43 rfl rfl
theorem lk_X10_198 : Cond.fieldLink RX10 198 "VowelChoirModel" "works" "I" ∈ GW := GW_6 44 rfl rfl
theorem lk_X10_201 : Cond.fieldLink RX10 201 "VowelChoirModel" "refusedSteps" "I" ∈ GW := GW_6 45 rfl rfl
theorem lk_X10_204 : Cond.fieldLink RX10 204 "VowelChoirModel" "images" "I" ∈ GW := GW_6 46 rfl rfl
theorem lk_X10_207 : Cond.fieldLink RX10 207 "VowelChoirModel" "readLawMany" "I" ∈ GW := GW_6 30 rfl rfl
theorem lk_X10_248 : Cond.fieldLink RX10 248 "VowelChoirModel" "steps" "I" ∈ GW := GW_6 38 rfl rfl
theorem lk_X10_273 : Cond.fieldLink RX10 273 "VowelChoirModel" "heard" "I" ∈ GW := GW_6 48 rfl rfl
theorem lk_X10_297 : Cond.fieldLink RX10 297 "VowelChoirModel" "begun" "I" ∈ GW := GW_6 49 rfl rfl
theorem lk_X10_307 : Cond.fieldLink RX10 307 "VowelChoirModel" "doneSteps" "I" ∈ GW := GW_6 50 rfl rfl
theorem lk_X10_345 : Cond.fieldLink RX10 345 "VowelChoirModel" "mostHanded" "I" ∈ GW := GW_6 53 rfl rfl
theorem lk_X10_375 : Cond.fieldLink RX10 375 "VowelChoirModel" "lots" "I" ∈ GW := GW_6 55 rfl rfl
theorem lk_X10_388 : Cond.fieldLink RX10 388 "VowelChoirModel" "spot" "I" ∈ GW := GW_6 47 rfl rfl
theorem mN_X8 : Cond.initialized RX8 ∈ GW := GW_1 2 rfl rfl
theorem mC_X8_add : Cond.code yX8_add cX8_add 3 none ∈ GW := GW_2 139 rfl rfl
theorem hy_X8_add : yX8_add.cls = yX8_add.cls ∧ yX8_add.cls ≠ "java/lang/invoke/MethodHandle" ∧ yX8_add.cls ≠ "java/lang/invoke/VarHandle" ∧ (parseMethodDescriptor yX8_add.desc).map (fun d => d.parameters.length) = some 1 := by decide +kernel
theorem mI_X8_add : Cond.instanceMethod yX8_add ∈ GW := GW_2 137 rfl rfl
theorem mV_X8_add : Cond.selects yX8_add.cls yX8_add yX8_add ∈ GW := GW_2 138 rfl rfl
theorem ml_X9_87 : Cond.methodLink RX9 87 yX8_add ∈ GW := GW_2 136 rfl rfl
theorem cl_X9_87 : Cond.methodLink RX9 87 yX8_add ∈ GW ∧ Cond.instanceMethod yX8_add ∈ GW ∧ Cond.selects yX8_add.cls yX8_add yX8_add ∈ GW ∧ Cond.initialized yX8_add.cls ∈ GW ∧ Cond.code yX8_add cX8_add 3 none ∈ GW := ⟨ml_X9_87, mI_X8_add, mV_X8_add, mN_X8, mC_X8_add⟩
theorem mN_X9 : Cond.initialized RX9 ∈ GW := GW_1 1 rfl rfl
theorem mC_X9_openText : Cond.code yX9_openText cX9_openText 3 none ∈ GW := GW_3 52 rfl rfl
theorem hy_X9_openText : yX9_openText.cls = yX9_openText.cls ∧ yX9_openText.cls ≠ "java/lang/invoke/MethodHandle" ∧ yX9_openText.cls ≠ "java/lang/invoke/VarHandle" ∧ (parseMethodDescriptor yX9_openText.desc).map (fun d => d.parameters.length) = some 2 := by decide +kernel
theorem mI_X9_openText : Cond.instanceMethod yX9_openText ∈ GW := GW_3 51 rfl rfl
theorem mV_X9_openText : Cond.selects yX9_openText.cls yX9_openText yX9_openText ∈ GW := GW_p 10 rfl rfl
theorem ml_X9_91 : Cond.methodLink RX9 91 yX9_openText ∈ GW := GW_3 49 rfl rfl
theorem cl_X9_91 : Cond.methodLink RX9 91 yX9_openText ∈ GW ∧ Cond.instanceMethod yX9_openText ∈ GW ∧ Cond.selects yX9_openText.cls yX9_openText yX9_openText ∈ GW ∧ Cond.initialized yX9_openText.cls ∈ GW ∧ Cond.code yX9_openText cX9_openText 3 none ∈ GW := ⟨ml_X9_91, mI_X9_openText, mV_X9_openText, mN_X9, mC_X9_openText⟩
theorem mN_X5 : Cond.initialized RX5 ∈ GW := GW_1 4 rfl rfl
theorem mC_X5_read : Cond.code yX5_read cX5_read 3 none ∈ GW := GW_3 133 rfl rfl
theorem hy_X5_read : yX5_read.cls = yX5_read.cls ∧ yX5_read.cls ≠ "java/lang/invoke/MethodHandle" ∧ yX5_read.cls ≠ "java/lang/invoke/VarHandle" ∧ (parseMethodDescriptor yX5_read.desc).map (fun d => d.parameters.length) = some 1 := by decide +kernel
theorem mI_X5_read : Cond.instanceMethod yX5_read ∈ GW := GW_3 131 rfl rfl
theorem mV_X5_read : Cond.selects yX5_read.cls yX5_read yX5_read ∈ GW := GW_3 132 rfl rfl
theorem ml_X9_95 : Cond.methodLink RX9 95 yX5_read ∈ GW := GW_3 130 rfl rfl
theorem cl_X9_95 : Cond.methodLink RX9 95 yX5_read ∈ GW ∧ Cond.instanceMethod yX5_read ∈ GW ∧ Cond.selects yX5_read.cls yX5_read yX5_read ∈ GW ∧ Cond.initialized yX5_read.cls ∈ GW ∧ Cond.code yX5_read cX5_read 3 none ∈ GW := ⟨ml_X9_95, mI_X5_read, mV_X5_read, mN_X5, mC_X5_read⟩
theorem mC_X8_fine : Cond.code yX8_fine cX8_fine 1 (some .boolean) ∈ GW := GW_3 239 rfl rfl
theorem hy_X8_fine : yX8_fine.cls = yX8_fine.cls ∧ yX8_fine.cls ≠ "java/lang/invoke/MethodHandle" ∧ yX8_fine.cls ≠ "java/lang/invoke/VarHandle" ∧ (parseMethodDescriptor yX8_fine.desc).map (fun d => d.parameters.length) = some 0 := by decide +kernel
theorem mI_X8_fine : Cond.instanceMethod yX8_fine ∈ GW := GW_3 237 rfl rfl
theorem mV_X8_fine : Cond.selects yX8_fine.cls yX8_fine yX8_fine ∈ GW := GW_3 238 rfl rfl
theorem ml_X9_99 : Cond.methodLink RX9 99 yX8_fine ∈ GW := GW_3 236 rfl rfl
theorem cl_X9_99 : Cond.methodLink RX9 99 yX8_fine ∈ GW ∧ Cond.instanceMethod yX8_fine ∈ GW ∧ Cond.selects yX8_fine.cls yX8_fine yX8_fine ∈ GW ∧ Cond.initialized yX8_fine.cls ∈ GW ∧ Cond.code yX8_fine cX8_fine 1 (some .boolean) ∈ GW := ⟨ml_X9_99, mI_X8_fine, mV_X8_fine, mN_X8, mC_X8_fine⟩
theorem mC_X9_beginAnew : Cond.code yX9_beginAnew cX9_beginAnew 1 none ∈ GW := GW_4 3 rfl rfl
theorem hy_X9_beginAnew : yX9_beginAnew.cls = yX9_beginAnew.cls ∧ yX9_beginAnew.cls ≠ "java/lang/invoke/MethodHandle" ∧ yX9_beginAnew.cls ≠ "java/lang/invoke/VarHandle" ∧ (parseMethodDescriptor yX9_beginAnew.desc).map (fun d => d.parameters.length) = some 0 := by decide +kernel
theorem mI_X9_beginAnew : Cond.instanceMethod yX9_beginAnew ∈ GW := GW_4 2 rfl rfl
theorem mV_X9_beginAnew : Cond.selects yX9_beginAnew.cls yX9_beginAnew yX9_beginAnew ∈ GW := GW_p 18 rfl rfl
theorem ml_X9_109 : Cond.methodLink RX9 109 yX9_beginAnew ∈ GW := GW_4 0 rfl rfl
theorem cl_X9_109 : Cond.methodLink RX9 109 yX9_beginAnew ∈ GW ∧ Cond.instanceMethod yX9_beginAnew ∈ GW ∧ Cond.selects yX9_beginAnew.cls yX9_beginAnew yX9_beginAnew ∈ GW ∧ Cond.initialized yX9_beginAnew.cls ∈ GW ∧ Cond.code yX9_beginAnew cX9_beginAnew 1 none ∈ GW := ⟨ml_X9_109, mI_X9_beginAnew, mV_X9_beginAnew, mN_X9, mC_X9_beginAnew⟩
theorem mN_X2 : Cond.initialized RX2 ∈ GW := GW_1 5 rfl rfl
theorem mC_X2_read : Cond.code yX2_read cX2_read 2 none ∈ GW := GW_4 34 rfl rfl
theorem hy_X2_read : yX2_read.cls = yX2_read.cls ∧ yX2_read.cls ≠ "java/lang/invoke/MethodHandle" ∧ yX2_read.cls ≠ "java/lang/invoke/VarHandle" ∧ (parseMethodDescriptor yX2_read.desc).map (fun d => d.parameters.length) = some 1 := by decide +kernel
theorem mI_X2_read : Cond.instanceMethod yX2_read ∈ GW := GW_4 32 rfl rfl
theorem mV_X2_read : Cond.selects yX2_read.cls yX2_read yX2_read ∈ GW := GW_4 33 rfl rfl
theorem ml_X9_115 : Cond.methodLink RX9 115 yX2_read ∈ GW := GW_4 31 rfl rfl
theorem cl_X9_115 : Cond.methodLink RX9 115 yX2_read ∈ GW ∧ Cond.instanceMethod yX2_read ∈ GW ∧ Cond.selects yX2_read.cls yX2_read yX2_read ∈ GW ∧ Cond.initialized yX2_read.cls ∈ GW ∧ Cond.code yX2_read cX2_read 2 none ∈ GW := ⟨ml_X9_115, mI_X2_read, mV_X2_read, mN_X2, mC_X2_read⟩
theorem mN_X4 : Cond.initialized RX4 ∈ GW := GW_1 6 rfl rfl
theorem mC_X4_read : Cond.code yX4_read cX4_read 3 none ∈ GW := GW_4 85 rfl rfl
theorem hy_X4_read : yX4_read.cls = yX4_read.cls ∧ yX4_read.cls ≠ "java/lang/invoke/MethodHandle" ∧ yX4_read.cls ≠ "java/lang/invoke/VarHandle" ∧ (parseMethodDescriptor yX4_read.desc).map (fun d => d.parameters.length) = some 2 := by decide +kernel
theorem mI_X4_read : Cond.instanceMethod yX4_read ∈ GW := GW_4 83 rfl rfl
theorem mV_X4_read : Cond.selects yX4_read.cls yX4_read yX4_read ∈ GW := GW_4 84 rfl rfl
theorem ml_X9_122 : Cond.methodLink RX9 122 yX4_read ∈ GW := GW_4 82 rfl rfl
theorem cl_X9_122 : Cond.methodLink RX9 122 yX4_read ∈ GW ∧ Cond.instanceMethod yX4_read ∈ GW ∧ Cond.selects yX4_read.cls yX4_read yX4_read ∈ GW ∧ Cond.initialized yX4_read.cls ∈ GW ∧ Cond.code yX4_read cX4_read 3 none ∈ GW := ⟨ml_X9_122, mI_X4_read, mV_X4_read, mN_X4, mC_X4_read⟩
theorem mN_X3 : Cond.initialized RX3 ∈ GW := GW_1 7 rfl rfl
theorem mC_X3_keep : Cond.code yX3_keep cX3_keep 1 none ∈ GW := GW_4 118 rfl rfl
theorem hy_X3_keep : yX3_keep.cls = yX3_keep.cls ∧ yX3_keep.cls ≠ "java/lang/invoke/MethodHandle" ∧ yX3_keep.cls ≠ "java/lang/invoke/VarHandle" ∧ (parseMethodDescriptor yX3_keep.desc).map (fun d => d.parameters.length) = some 0 := by decide +kernel
theorem mI_X3_keep : Cond.instanceMethod yX3_keep ∈ GW := GW_4 116 rfl rfl
theorem mV_X3_keep : Cond.selects yX3_keep.cls yX3_keep yX3_keep ∈ GW := GW_4 117 rfl rfl
theorem ml_X9_125 : Cond.methodLink RX9 125 yX3_keep ∈ GW := GW_4 115 rfl rfl
theorem cl_X9_125 : Cond.methodLink RX9 125 yX3_keep ∈ GW ∧ Cond.instanceMethod yX3_keep ∈ GW ∧ Cond.selects yX3_keep.cls yX3_keep yX3_keep ∈ GW ∧ Cond.initialized yX3_keep.cls ∈ GW ∧ Cond.code yX3_keep cX3_keep 1 none ∈ GW := ⟨ml_X9_125, mI_X3_keep, mV_X3_keep, mN_X3, mC_X3_keep⟩
theorem mC_X4_perform : Cond.code yX4_perform cX4_perform 7 none ∈ GW := GW_4 122 rfl rfl
theorem hy_X4_perform : yX4_perform.cls = yX4_perform.cls ∧ yX4_perform.cls ≠ "java/lang/invoke/MethodHandle" ∧ yX4_perform.cls ≠ "java/lang/invoke/VarHandle" ∧ (parseMethodDescriptor yX4_perform.desc).map (fun d => d.parameters.length) = some 4 := by decide +kernel
theorem mI_X4_perform : Cond.instanceMethod yX4_perform ∈ GW := GW_4 120 rfl rfl
theorem mV_X4_perform : Cond.selects yX4_perform.cls yX4_perform yX4_perform ∈ GW := GW_4 121 rfl rfl
theorem ml_X9_134 : Cond.methodLink RX9 134 yX4_perform ∈ GW := GW_4 119 rfl rfl
theorem cl_X9_134 : Cond.methodLink RX9 134 yX4_perform ∈ GW ∧ Cond.instanceMethod yX4_perform ∈ GW ∧ Cond.selects yX4_perform.cls yX4_perform yX4_perform ∈ GW ∧ Cond.initialized yX4_perform.cls ∈ GW ∧ Cond.code yX4_perform cX4_perform 7 none ∈ GW := ⟨ml_X9_134, mI_X4_perform, mV_X4_perform, mN_X4, mC_X4_perform⟩
theorem mN_X1 : Cond.initialized RX1 ∈ GW := GW_1 10 rfl rfl
theorem mC_X1_read : Cond.code yX1_read cX1_read 5 none ∈ GW := GW_4 160 rfl rfl
theorem hy_X1_read : yX1_read.cls = yX1_read.cls ∧ yX1_read.cls ≠ "java/lang/invoke/MethodHandle" ∧ yX1_read.cls ≠ "java/lang/invoke/VarHandle" ∧ (parseMethodDescriptor yX1_read.desc).map (fun d => d.parameters.length) = some 2 := by decide +kernel
theorem mI_X1_read : Cond.instanceMethod yX1_read ∈ GW := GW_4 158 rfl rfl
theorem mV_X1_read : Cond.selects yX1_read.cls yX1_read yX1_read ∈ GW := GW_4 159 rfl rfl
theorem ml_X9_150 : Cond.methodLink RX9 150 yX1_read ∈ GW := GW_4 157 rfl rfl
theorem cl_X9_150 : Cond.methodLink RX9 150 yX1_read ∈ GW ∧ Cond.instanceMethod yX1_read ∈ GW ∧ Cond.selects yX1_read.cls yX1_read yX1_read ∈ GW ∧ Cond.initialized yX1_read.cls ∈ GW ∧ Cond.code yX1_read cX1_read 5 none ∈ GW := ⟨ml_X9_150, mI_X1_read, mV_X1_read, mN_X1, mC_X1_read⟩
theorem mN_J6 : Cond.initialized RJ6 ∈ GW := GW_1 22 rfl rfl
theorem mC_J6_bitCount_0f7a4 : Cond.code yJ6_bitCount_0f7a4 cJ6_bitCount_0f7a4 1 (some .int) ∈ GW := GW_2 169 rfl rfl
theorem hy_J6_bitCount_0f7a4 : yJ6_bitCount_0f7a4.cls = yJ6_bitCount_0f7a4.cls ∧ yJ6_bitCount_0f7a4.cls ≠ "java/lang/invoke/MethodHandle" ∧ yJ6_bitCount_0f7a4.cls ≠ "java/lang/invoke/VarHandle" ∧ (parseMethodDescriptor yJ6_bitCount_0f7a4.desc).map (fun d => d.parameters.length) = some 1 := by decide +kernel
theorem mS_J6_bitCount_0f7a4 : Cond.static yJ6_bitCount_0f7a4 ∈ GW := GW_2 168 rfl rfl
theorem ml_X9_156 : Cond.methodLink RX9 156 yJ6_bitCount_0f7a4 ∈ GW := GW_2 167 rfl rfl
theorem cl_X9_156 : Cond.methodLink RX9 156 yJ6_bitCount_0f7a4 ∈ GW ∧ Cond.static yJ6_bitCount_0f7a4 ∈ GW ∧ Cond.initialized yJ6_bitCount_0f7a4.cls ∈ GW ∧ Cond.code yJ6_bitCount_0f7a4 cJ6_bitCount_0f7a4 1 (some .int) ∈ GW := ⟨ml_X9_156, mS_J6_bitCount_0f7a4, mN_J6, mC_J6_bitCount_0f7a4⟩
theorem mC_X3_drop : Cond.code yX3_drop cX3_drop 1 none ∈ GW := GW_2 151 rfl rfl
theorem hy_X3_drop : yX3_drop.cls = yX3_drop.cls ∧ yX3_drop.cls ≠ "java/lang/invoke/MethodHandle" ∧ yX3_drop.cls ≠ "java/lang/invoke/VarHandle" ∧ (parseMethodDescriptor yX3_drop.desc).map (fun d => d.parameters.length) = some 0 := by decide +kernel
theorem mI_X3_drop : Cond.instanceMethod yX3_drop ∈ GW := GW_2 149 rfl rfl
theorem mV_X3_drop : Cond.selects yX3_drop.cls yX3_drop yX3_drop ∈ GW := GW_2 150 rfl rfl
theorem ml_X9_165 : Cond.methodLink RX9 165 yX3_drop ∈ GW := GW_2 148 rfl rfl
theorem cl_X9_165 : Cond.methodLink RX9 165 yX3_drop ∈ GW ∧ Cond.instanceMethod yX3_drop ∈ GW ∧ Cond.selects yX3_drop.cls yX3_drop yX3_drop ∈ GW ∧ Cond.initialized yX3_drop.cls ∈ GW ∧ Cond.code yX3_drop cX3_drop 1 none ∈ GW := ⟨ml_X9_165, mI_X3_drop, mV_X3_drop, mN_X3, mC_X3_drop⟩
theorem mC_X9_within : Cond.code yX9_within cX9_within 3 (some .boolean) ∈ GW := GW_3 55 rfl rfl
theorem hy_X9_within : yX9_within.cls = yX9_within.cls ∧ yX9_within.cls ≠ "java/lang/invoke/MethodHandle" ∧ yX9_within.cls ≠ "java/lang/invoke/VarHandle" ∧ (parseMethodDescriptor yX9_within.desc).map (fun d => d.parameters.length) = some 3 := by decide +kernel
theorem mS_X9_within : Cond.static yX9_within ∈ GW := GW_3 54 rfl rfl
theorem ml_X9_168 : Cond.methodLink RX9 168 yX9_within ∈ GW := GW_3 53 rfl rfl
theorem cl_X9_168 : Cond.methodLink RX9 168 yX9_within ∈ GW ∧ Cond.static yX9_within ∈ GW ∧ Cond.initialized yX9_within.cls ∈ GW ∧ Cond.code yX9_within cX9_within 3 (some .boolean) ∈ GW := ⟨ml_X9_168, mS_X9_within, mN_X9, mC_X9_within⟩
theorem mC_X9_demand : Cond.code yX9_demand cX9_demand 2 none ∈ GW := GW_3 59 rfl rfl
theorem hy_X9_demand : yX9_demand.cls = yX9_demand.cls ∧ yX9_demand.cls ≠ "java/lang/invoke/MethodHandle" ∧ yX9_demand.cls ≠ "java/lang/invoke/VarHandle" ∧ (parseMethodDescriptor yX9_demand.desc).map (fun d => d.parameters.length) = some 1 := by decide +kernel
theorem mI_X9_demand : Cond.instanceMethod yX9_demand ∈ GW := GW_3 58 rfl rfl
theorem mV_X9_demand : Cond.selects yX9_demand.cls yX9_demand yX9_demand ∈ GW := GW_p 11 rfl rfl
theorem ml_X9_172 : Cond.methodLink RX9 172 yX9_demand ∈ GW := GW_3 56 rfl rfl
theorem cl_X9_172 : Cond.methodLink RX9 172 yX9_demand ∈ GW ∧ Cond.instanceMethod yX9_demand ∈ GW ∧ Cond.selects yX9_demand.cls yX9_demand yX9_demand ∈ GW ∧ Cond.initialized yX9_demand.cls ∈ GW ∧ Cond.code yX9_demand cX9_demand 2 none ∈ GW := ⟨ml_X9_172, mI_X9_demand, mV_X9_demand, mN_X9, mC_X9_demand⟩
theorem mC_X9_total : Cond.code yX9_total cX9_total 3 (some .int) ∈ GW := GW_4 175 rfl rfl
theorem hy_X9_total : yX9_total.cls = yX9_total.cls ∧ yX9_total.cls ≠ "java/lang/invoke/MethodHandle" ∧ yX9_total.cls ≠ "java/lang/invoke/VarHandle" ∧ (parseMethodDescriptor yX9_total.desc).map (fun d => d.parameters.length) = some 1 := by decide +kernel
theorem mS_X9_total : Cond.static yX9_total ∈ GW := GW_4 174 rfl rfl
theorem ml_X9_191 : Cond.methodLink RX9 191 yX9_total ∈ GW := GW_4 173 rfl rfl
theorem cl_X9_191 : Cond.methodLink RX9 191 yX9_total ∈ GW ∧ Cond.static yX9_total ∈ GW ∧ Cond.initialized yX9_total.cls ∈ GW ∧ Cond.code yX9_total cX9_total 3 (some .int) ∈ GW := ⟨ml_X9_191, mS_X9_total, mN_X9, mC_X9_total⟩
theorem mC_X9_wordedAnew : Cond.code yX9_wordedAnew cX9_wordedAnew 3 (some .int) ∈ GW := GW_4 179 rfl rfl
theorem hy_X9_wordedAnew : yX9_wordedAnew.cls = yX9_wordedAnew.cls ∧ yX9_wordedAnew.cls ≠ "java/lang/invoke/MethodHandle" ∧ yX9_wordedAnew.cls ≠ "java/lang/invoke/VarHandle" ∧ (parseMethodDescriptor yX9_wordedAnew.desc).map (fun d => d.parameters.length) = some 0 := by decide +kernel
theorem mI_X9_wordedAnew : Cond.instanceMethod yX9_wordedAnew ∈ GW := GW_4 178 rfl rfl
theorem mV_X9_wordedAnew : Cond.selects yX9_wordedAnew.cls yX9_wordedAnew yX9_wordedAnew ∈ GW := GW_p 28 rfl rfl
theorem ml_X9_201 : Cond.methodLink RX9 201 yX9_wordedAnew ∈ GW := GW_4 176 rfl rfl
theorem cl_X9_201 : Cond.methodLink RX9 201 yX9_wordedAnew ∈ GW ∧ Cond.instanceMethod yX9_wordedAnew ∈ GW ∧ Cond.selects yX9_wordedAnew.cls yX9_wordedAnew yX9_wordedAnew ∈ GW ∧ Cond.initialized yX9_wordedAnew.cls ∈ GW ∧ Cond.code yX9_wordedAnew cX9_wordedAnew 3 (some .int) ∈ GW := ⟨ml_X9_201, mI_X9_wordedAnew, mV_X9_wordedAnew, mN_X9, mC_X9_wordedAnew⟩
theorem mC_X9_isSinger : Cond.code yX9_isSinger cX9_isSinger 2 (some .boolean) ∈ GW := GW_4 191 rfl rfl
theorem hy_X9_isSinger : yX9_isSinger.cls = yX9_isSinger.cls ∧ yX9_isSinger.cls ≠ "java/lang/invoke/MethodHandle" ∧ yX9_isSinger.cls ≠ "java/lang/invoke/VarHandle" ∧ (parseMethodDescriptor yX9_isSinger.desc).map (fun d => d.parameters.length) = some 1 := by decide +kernel
theorem mI_X9_isSinger : Cond.instanceMethod yX9_isSinger ∈ GW := GW_4 190 rfl rfl
theorem mV_X9_isSinger : Cond.selects yX9_isSinger.cls yX9_isSinger yX9_isSinger ∈ GW := GW_p 29 rfl rfl
theorem ml_X9_205 : Cond.methodLink RX9 205 yX9_isSinger ∈ GW := GW_4 188 rfl rfl
theorem cl_X9_205 : Cond.methodLink RX9 205 yX9_isSinger ∈ GW ∧ Cond.instanceMethod yX9_isSinger ∈ GW ∧ Cond.selects yX9_isSinger.cls yX9_isSinger yX9_isSinger ∈ GW ∧ Cond.initialized yX9_isSinger.cls ∈ GW ∧ Cond.code yX9_isSinger cX9_isSinger 2 (some .boolean) ∈ GW := ⟨ml_X9_205, mI_X9_isSinger, mV_X9_isSinger, mN_X9, mC_X9_isSinger⟩
theorem mC_X9_find : Cond.code yX9_find cX9_find 2 none ∈ GW := GW_4 195 rfl rfl
theorem hy_X9_find : yX9_find.cls = yX9_find.cls ∧ yX9_find.cls ≠ "java/lang/invoke/MethodHandle" ∧ yX9_find.cls ≠ "java/lang/invoke/VarHandle" ∧ (parseMethodDescriptor yX9_find.desc).map (fun d => d.parameters.length) = some 1 := by decide +kernel
theorem mI_X9_find : Cond.instanceMethod yX9_find ∈ GW := GW_4 194 rfl rfl
theorem mV_X9_find : Cond.selects yX9_find.cls yX9_find yX9_find ∈ GW := GW_p 30 rfl rfl
theorem ml_X9_209 : Cond.methodLink RX9 209 yX9_find ∈ GW := GW_4 192 rfl rfl
theorem cl_X9_209 : Cond.methodLink RX9 209 yX9_find ∈ GW ∧ Cond.instanceMethod yX9_find ∈ GW ∧ Cond.selects yX9_find.cls yX9_find yX9_find ∈ GW ∧ Cond.initialized yX9_find.cls ∈ GW ∧ Cond.code yX9_find cX9_find 2 none ∈ GW := ⟨ml_X9_209, mI_X9_find, mV_X9_find, mN_X9, mC_X9_find⟩
theorem mC_X9_isNote : Cond.code yX9_isNote cX9_isNote 2 (some .boolean) ∈ GW := GW_4 222 rfl rfl
theorem hy_X9_isNote : yX9_isNote.cls = yX9_isNote.cls ∧ yX9_isNote.cls ≠ "java/lang/invoke/MethodHandle" ∧ yX9_isNote.cls ≠ "java/lang/invoke/VarHandle" ∧ (parseMethodDescriptor yX9_isNote.desc).map (fun d => d.parameters.length) = some 1 := by decide +kernel
theorem mI_X9_isNote : Cond.instanceMethod yX9_isNote ∈ GW := GW_4 221 rfl rfl
theorem mV_X9_isNote : Cond.selects yX9_isNote.cls yX9_isNote yX9_isNote ∈ GW := GW_p 31 rfl rfl
theorem ml_X9_224 : Cond.methodLink RX9 224 yX9_isNote ∈ GW := GW_4 219 rfl rfl
theorem cl_X9_224 : Cond.methodLink RX9 224 yX9_isNote ∈ GW ∧ Cond.instanceMethod yX9_isNote ∈ GW ∧ Cond.selects yX9_isNote.cls yX9_isNote yX9_isNote ∈ GW ∧ Cond.initialized yX9_isNote.cls ∈ GW ∧ Cond.code yX9_isNote cX9_isNote 2 (some .boolean) ∈ GW := ⟨ml_X9_224, mI_X9_isNote, mV_X9_isNote, mN_X9, mC_X9_isNote⟩
theorem mC_X9_sungByNow : Cond.code yX9_sungByNow cX9_sungByNow 2 (some .int) ∈ GW := GW_3 11 rfl rfl
theorem hy_X9_sungByNow : yX9_sungByNow.cls = yX9_sungByNow.cls ∧ yX9_sungByNow.cls ≠ "java/lang/invoke/MethodHandle" ∧ yX9_sungByNow.cls ≠ "java/lang/invoke/VarHandle" ∧ (parseMethodDescriptor yX9_sungByNow.desc).map (fun d => d.parameters.length) = some 1 := by decide +kernel
theorem mI_X9_sungByNow : Cond.instanceMethod yX9_sungByNow ∈ GW := GW_3 10 rfl rfl
theorem mV_X9_sungByNow : Cond.selects yX9_sungByNow.cls yX9_sungByNow yX9_sungByNow ∈ GW := GW_p 9 rfl rfl
theorem ml_X9_234 : Cond.methodLink RX9 234 yX9_sungByNow ∈ GW := GW_3 8 rfl rfl
theorem cl_X9_234 : Cond.methodLink RX9 234 yX9_sungByNow ∈ GW ∧ Cond.instanceMethod yX9_sungByNow ∈ GW ∧ Cond.selects yX9_sungByNow.cls yX9_sungByNow yX9_sungByNow ∈ GW ∧ Cond.initialized yX9_sungByNow.cls ∈ GW ∧ Cond.code yX9_sungByNow cX9_sungByNow 2 (some .int) ∈ GW := ⟨ml_X9_234, mI_X9_sungByNow, mV_X9_sungByNow, mN_X9, mC_X9_sungByNow⟩
theorem mN_X7 : Cond.initialized RX7 ∈ GW := GW_1 3 rfl rfl
theorem mC_X7_breathFor : Cond.code yX7_breathFor cX7_breathFor 5 (some .int) ∈ GW := GW_2 197 rfl rfl
theorem hy_X7_breathFor : yX7_breathFor.cls = yX7_breathFor.cls ∧ yX7_breathFor.cls ≠ "java/lang/invoke/MethodHandle" ∧ yX7_breathFor.cls ≠ "java/lang/invoke/VarHandle" ∧ (parseMethodDescriptor yX7_breathFor.desc).map (fun d => d.parameters.length) = some 3 := by decide +kernel
theorem mI_X7_breathFor : Cond.instanceMethod yX7_breathFor ∈ GW := GW_2 195 rfl rfl
theorem mV_X7_breathFor : Cond.selects yX7_breathFor.cls yX7_breathFor yX7_breathFor ∈ GW := GW_2 196 rfl rfl
theorem ml_X9_243 : Cond.methodLink RX9 243 yX7_breathFor ∈ GW := GW_4 237 rfl rfl
theorem cl_X9_243 : Cond.methodLink RX9 243 yX7_breathFor ∈ GW ∧ Cond.instanceMethod yX7_breathFor ∈ GW ∧ Cond.selects yX7_breathFor.cls yX7_breathFor yX7_breathFor ∈ GW ∧ Cond.initialized yX7_breathFor.cls ∈ GW ∧ Cond.code yX7_breathFor cX7_breathFor 5 (some .int) ∈ GW := ⟨ml_X9_243, mI_X7_breathFor, mV_X7_breathFor, mN_X7, mC_X7_breathFor⟩
theorem mC_X9_isVowel : Cond.code yX9_isVowel cX9_isVowel 1 (some .boolean) ∈ GW := GW_5 7 rfl rfl
theorem hy_X9_isVowel : yX9_isVowel.cls = yX9_isVowel.cls ∧ yX9_isVowel.cls ≠ "java/lang/invoke/MethodHandle" ∧ yX9_isVowel.cls ≠ "java/lang/invoke/VarHandle" ∧ (parseMethodDescriptor yX9_isVowel.desc).map (fun d => d.parameters.length) = some 1 := by decide +kernel
theorem mS_X9_isVowel : Cond.static yX9_isVowel ∈ GW := GW_5 6 rfl rfl
theorem ml_X9_247 : Cond.methodLink RX9 247 yX9_isVowel ∈ GW := GW_5 5 rfl rfl
theorem cl_X9_247 : Cond.methodLink RX9 247 yX9_isVowel ∈ GW ∧ Cond.static yX9_isVowel ∈ GW ∧ Cond.initialized yX9_isVowel.cls ∈ GW ∧ Cond.code yX9_isVowel cX9_isVowel 1 (some .boolean) ∈ GW := ⟨ml_X9_247, mS_X9_isVowel, mN_X9, mC_X9_isVowel⟩
theorem mC_X2_weigh : Cond.code yX2_weigh cX2_weigh 4 (some .int) ∈ GW := GW_2 201 rfl rfl
theorem hy_X2_weigh : yX2_weigh.cls = yX2_weigh.cls ∧ yX2_weigh.cls ≠ "java/lang/invoke/MethodHandle" ∧ yX2_weigh.cls ≠ "java/lang/invoke/VarHandle" ∧ (parseMethodDescriptor yX2_weigh.desc).map (fun d => d.parameters.length) = some 0 := by decide +kernel
theorem mI_X2_weigh : Cond.instanceMethod yX2_weigh ∈ GW := GW_2 199 rfl rfl
theorem mV_X2_weigh : Cond.selects yX2_weigh.cls yX2_weigh yX2_weigh ∈ GW := GW_2 200 rfl rfl
theorem ml_X9_253 : Cond.methodLink RX9 253 yX2_weigh ∈ GW := GW_5 8 rfl rfl
theorem cl_X9_253 : Cond.methodLink RX9 253 yX2_weigh ∈ GW ∧ Cond.instanceMethod yX2_weigh ∈ GW ∧ Cond.selects yX2_weigh.cls yX2_weigh yX2_weigh ∈ GW ∧ Cond.initialized yX2_weigh.cls ∈ GW ∧ Cond.code yX2_weigh cX2_weigh 4 (some .int) ∈ GW := ⟨ml_X9_253, mI_X2_weigh, mV_X2_weigh, mN_X2, mC_X2_weigh⟩
theorem mN_X6 : Cond.initialized RX6 ∈ GW := GW_1 8 rfl rfl
theorem mC_X6_become : Cond.code yX6_become cX6_become 2 none ∈ GW := GW_2 155 rfl rfl
theorem hy_X6_become : yX6_become.cls = yX6_become.cls ∧ yX6_become.cls ≠ "java/lang/invoke/MethodHandle" ∧ yX6_become.cls ≠ "java/lang/invoke/VarHandle" ∧ (parseMethodDescriptor yX6_become.desc).map (fun d => d.parameters.length) = some 1 := by decide +kernel
theorem mI_X6_become : Cond.instanceMethod yX6_become ∈ GW := GW_2 153 rfl rfl
theorem mV_X6_become : Cond.selects yX6_become.cls yX6_become yX6_become ∈ GW := GW_2 154 rfl rfl
theorem ml_X9_256 : Cond.methodLink RX9 256 yX6_become ∈ GW := GW_2 181 rfl rfl
theorem cl_X9_256 : Cond.methodLink RX9 256 yX6_become ∈ GW ∧ Cond.instanceMethod yX6_become ∈ GW ∧ Cond.selects yX6_become.cls yX6_become yX6_become ∈ GW ∧ Cond.initialized yX6_become.cls ∈ GW ∧ Cond.code yX6_become cX6_become 2 none ∈ GW := ⟨ml_X9_256, mI_X6_become, mV_X6_become, mN_X6, mC_X6_become⟩
theorem mC_X7_singHymn : Cond.code yX7_singHymn cX7_singHymn 4 (some .int) ∈ GW := GW_3 19 rfl rfl
theorem hy_X7_singHymn : yX7_singHymn.cls = yX7_singHymn.cls ∧ yX7_singHymn.cls ≠ "java/lang/invoke/MethodHandle" ∧ yX7_singHymn.cls ≠ "java/lang/invoke/VarHandle" ∧ (parseMethodDescriptor yX7_singHymn.desc).map (fun d => d.parameters.length) = some 1 := by decide +kernel
theorem mI_X7_singHymn : Cond.instanceMethod yX7_singHymn ∈ GW := GW_3 17 rfl rfl
theorem mV_X7_singHymn : Cond.selects yX7_singHymn.cls yX7_singHymn yX7_singHymn ∈ GW := GW_3 18 rfl rfl
theorem ml_X9_260 : Cond.methodLink RX9 260 yX7_singHymn ∈ GW := GW_3 16 rfl rfl
theorem cl_X9_260 : Cond.methodLink RX9 260 yX7_singHymn ∈ GW ∧ Cond.instanceMethod yX7_singHymn ∈ GW ∧ Cond.selects yX7_singHymn.cls yX7_singHymn yX7_singHymn ∈ GW ∧ Cond.initialized yX7_singHymn.cls ∈ GW ∧ Cond.code yX7_singHymn cX7_singHymn 4 (some .int) ∈ GW := ⟨ml_X9_260, mI_X7_singHymn, mV_X7_singHymn, mN_X7, mC_X7_singHymn⟩
theorem mC_X9_outOfBreath : Cond.code yX9_outOfBreath cX9_outOfBreath 2 (some .int) ∈ GW := GW_5 19 rfl rfl
theorem hy_X9_outOfBreath : yX9_outOfBreath.cls = yX9_outOfBreath.cls ∧ yX9_outOfBreath.cls ≠ "java/lang/invoke/MethodHandle" ∧ yX9_outOfBreath.cls ≠ "java/lang/invoke/VarHandle" ∧ (parseMethodDescriptor yX9_outOfBreath.desc).map (fun d => d.parameters.length) = some 1 := by decide +kernel
theorem mI_X9_outOfBreath : Cond.instanceMethod yX9_outOfBreath ∈ GW := GW_5 18 rfl rfl
theorem mV_X9_outOfBreath : Cond.selects yX9_outOfBreath.cls yX9_outOfBreath yX9_outOfBreath ∈ GW := GW_p 32 rfl rfl
theorem ml_X9_264 : Cond.methodLink RX9 264 yX9_outOfBreath ∈ GW := GW_5 16 rfl rfl
theorem cl_X9_264 : Cond.methodLink RX9 264 yX9_outOfBreath ∈ GW ∧ Cond.instanceMethod yX9_outOfBreath ∈ GW ∧ Cond.selects yX9_outOfBreath.cls yX9_outOfBreath yX9_outOfBreath ∈ GW ∧ Cond.initialized yX9_outOfBreath.cls ∈ GW ∧ Cond.code yX9_outOfBreath cX9_outOfBreath 2 (some .int) ∈ GW := ⟨ml_X9_264, mI_X9_outOfBreath, mV_X9_outOfBreath, mN_X9, mC_X9_outOfBreath⟩
theorem mC_X9_isCheaper : Cond.code yX9_isCheaper cX9_isCheaper 4 (some .boolean) ∈ GW := GW_2 166 rfl rfl
theorem hy_X9_isCheaper : yX9_isCheaper.cls = yX9_isCheaper.cls ∧ yX9_isCheaper.cls ≠ "java/lang/invoke/MethodHandle" ∧ yX9_isCheaper.cls ≠ "java/lang/invoke/VarHandle" ∧ (parseMethodDescriptor yX9_isCheaper.desc).map (fun d => d.parameters.length) = some 2 := by decide +kernel
theorem mI_X9_isCheaper : Cond.instanceMethod yX9_isCheaper ∈ GW := GW_2 165 rfl rfl
theorem mV_X9_isCheaper : Cond.selects yX9_isCheaper.cls yX9_isCheaper yX9_isCheaper ∈ GW := GW_p 0 rfl rfl
theorem ml_X9_267 : Cond.methodLink RX9 267 yX9_isCheaper ∈ GW := GW_2 163 rfl rfl
theorem cl_X9_267 : Cond.methodLink RX9 267 yX9_isCheaper ∈ GW ∧ Cond.instanceMethod yX9_isCheaper ∈ GW ∧ Cond.selects yX9_isCheaper.cls yX9_isCheaper yX9_isCheaper ∈ GW ∧ Cond.initialized yX9_isCheaper.cls ∈ GW ∧ Cond.code yX9_isCheaper cX9_isCheaper 4 (some .boolean) ∈ GW := ⟨ml_X9_267, mI_X9_isCheaper, mV_X9_isCheaper, mN_X9, mC_X9_isCheaper⟩
theorem mC_X9_canCast : Cond.code yX9_canCast cX9_canCast 3 (some .boolean) ∈ GW := GW_2 180 rfl rfl
theorem hy_X9_canCast : yX9_canCast.cls = yX9_canCast.cls ∧ yX9_canCast.cls ≠ "java/lang/invoke/MethodHandle" ∧ yX9_canCast.cls ≠ "java/lang/invoke/VarHandle" ∧ (parseMethodDescriptor yX9_canCast.desc).map (fun d => d.parameters.length) = some 1 := by decide +kernel
theorem mI_X9_canCast : Cond.instanceMethod yX9_canCast ∈ GW := GW_2 179 rfl rfl
theorem mV_X9_canCast : Cond.selects yX9_canCast.cls yX9_canCast yX9_canCast ∈ GW := GW_p 2 rfl rfl
theorem ml_X9_271 : Cond.methodLink RX9 271 yX9_canCast ∈ GW := GW_2 177 rfl rfl
theorem cl_X9_271 : Cond.methodLink RX9 271 yX9_canCast ∈ GW ∧ Cond.instanceMethod yX9_canCast ∈ GW ∧ Cond.selects yX9_canCast.cls yX9_canCast yX9_canCast ∈ GW ∧ Cond.initialized yX9_canCast.cls ∈ GW ∧ Cond.code yX9_canCast cX9_canCast 3 (some .boolean) ∈ GW := ⟨ml_X9_271, mI_X9_canCast, mV_X9_canCast, mN_X9, mC_X9_canCast⟩
theorem mC_X9_handedOn : Cond.code yX9_handedOn cX9_handedOn 8 (some .int) ∈ GW := GW_2 216 rfl rfl
theorem hy_X9_handedOn : yX9_handedOn.cls = yX9_handedOn.cls ∧ yX9_handedOn.cls ≠ "java/lang/invoke/MethodHandle" ∧ yX9_handedOn.cls ≠ "java/lang/invoke/VarHandle" ∧ (parseMethodDescriptor yX9_handedOn.desc).map (fun d => d.parameters.length) = some 2 := by decide +kernel
theorem mI_X9_handedOn : Cond.instanceMethod yX9_handedOn ∈ GW := GW_2 215 rfl rfl
theorem mV_X9_handedOn : Cond.selects yX9_handedOn.cls yX9_handedOn yX9_handedOn ∈ GW := GW_p 5 rfl rfl
theorem ml_X9_274 : Cond.methodLink RX9 274 yX9_handedOn ∈ GW := GW_2 213 rfl rfl
theorem cl_X9_274 : Cond.methodLink RX9 274 yX9_handedOn ∈ GW ∧ Cond.instanceMethod yX9_handedOn ∈ GW ∧ Cond.selects yX9_handedOn.cls yX9_handedOn yX9_handedOn ∈ GW ∧ Cond.initialized yX9_handedOn.cls ∈ GW ∧ Cond.code yX9_handedOn cX9_handedOn 8 (some .int) ∈ GW := ⟨ml_X9_274, mI_X9_handedOn, mV_X9_handedOn, mN_X9, mC_X9_handedOn⟩
theorem mC_X9_fillBench : Cond.code yX9_fillBench cX9_fillBench 4 none ∈ GW := GW_2 212 rfl rfl
theorem hy_X9_fillBench : yX9_fillBench.cls = yX9_fillBench.cls ∧ yX9_fillBench.cls ≠ "java/lang/invoke/MethodHandle" ∧ yX9_fillBench.cls ≠ "java/lang/invoke/VarHandle" ∧ (parseMethodDescriptor yX9_fillBench.desc).map (fun d => d.parameters.length) = some 0 := by decide +kernel
theorem mI_X9_fillBench : Cond.instanceMethod yX9_fillBench ∈ GW := GW_2 211 rfl rfl
theorem mV_X9_fillBench : Cond.selects yX9_fillBench.cls yX9_fillBench yX9_fillBench ∈ GW := GW_p 4 rfl rfl
theorem ml_X9_278 : Cond.methodLink RX9 278 yX9_fillBench ∈ GW := GW_2 209 rfl rfl
theorem cl_X9_278 : Cond.methodLink RX9 278 yX9_fillBench ∈ GW ∧ Cond.instanceMethod yX9_fillBench ∈ GW ∧ Cond.selects yX9_fillBench.cls yX9_fillBench yX9_fillBench ∈ GW ∧ Cond.initialized yX9_fillBench.cls ∈ GW ∧ Cond.code yX9_fillBench cX9_fillBench 4 none ∈ GW := ⟨ml_X9_278, mI_X9_fillBench, mV_X9_fillBench, mN_X9, mC_X9_fillBench⟩
theorem mN_X0 : Cond.initialized RX0 ∈ GW := GW_1 9 rfl rfl
theorem mC_X0_most : Cond.code yX0_most cX0_most 1 (some .int) ∈ GW := GW_2 235 rfl rfl
theorem hy_X0_most : yX0_most.cls = yX0_most.cls ∧ yX0_most.cls ≠ "java/lang/invoke/MethodHandle" ∧ yX0_most.cls ≠ "java/lang/invoke/VarHandle" ∧ (parseMethodDescriptor yX0_most.desc).map (fun d => d.parameters.length) = some 0 := by decide +kernel
theorem mI_X0_most : Cond.instanceMethod yX0_most ∈ GW := GW_2 233 rfl rfl
theorem mV_X0_most : Cond.selects yX0_most.cls yX0_most yX0_most ∈ GW := GW_2 234 rfl rfl
theorem ml_X9_281 : Cond.methodLink RX9 281 yX0_most ∈ GW := GW_2 232 rfl rfl
theorem cl_X9_281 : Cond.methodLink RX9 281 yX0_most ∈ GW ∧ Cond.instanceMethod yX0_most ∈ GW ∧ Cond.selects yX0_most.cls yX0_most yX0_most ∈ GW ∧ Cond.initialized yX0_most.cls ∈ GW ∧ Cond.code yX0_most cX0_most 1 (some .int) ∈ GW := ⟨ml_X9_281, mI_X0_most, mV_X0_most, mN_X0, mC_X0_most⟩
theorem mC_X0_at : Cond.code yX0_at cX0_at 6 (some .int) ∈ GW := GW_5 40 rfl rfl
theorem hy_X0_at : yX0_at.cls = yX0_at.cls ∧ yX0_at.cls ≠ "java/lang/invoke/MethodHandle" ∧ yX0_at.cls ≠ "java/lang/invoke/VarHandle" ∧ (parseMethodDescriptor yX0_at.desc).map (fun d => d.parameters.length) = some 1 := by decide +kernel
theorem mI_X0_at : Cond.instanceMethod yX0_at ∈ GW := GW_5 38 rfl rfl
theorem mV_X0_at : Cond.selects yX0_at.cls yX0_at yX0_at ∈ GW := GW_5 39 rfl rfl
theorem ml_X9_284 : Cond.methodLink RX9 284 yX0_at ∈ GW := GW_5 37 rfl rfl
theorem cl_X9_284 : Cond.methodLink RX9 284 yX0_at ∈ GW ∧ Cond.instanceMethod yX0_at ∈ GW ∧ Cond.selects yX0_at.cls yX0_at yX0_at ∈ GW ∧ Cond.initialized yX0_at.cls ∈ GW ∧ Cond.code yX0_at cX0_at 6 (some .int) ∈ GW := ⟨ml_X9_284, mI_X0_at, mV_X0_at, mN_X0, mC_X0_at⟩
theorem mC_X9_waysToWord : Cond.code yX9_waysToWord cX9_waysToWord 5 (some .long) ∈ GW := GW_3 3 rfl rfl
theorem hy_X9_waysToWord : yX9_waysToWord.cls = yX9_waysToWord.cls ∧ yX9_waysToWord.cls ≠ "java/lang/invoke/MethodHandle" ∧ yX9_waysToWord.cls ≠ "java/lang/invoke/VarHandle" ∧ (parseMethodDescriptor yX9_waysToWord.desc).map (fun d => d.parameters.length) = some 1 := by decide +kernel
theorem mI_X9_waysToWord : Cond.instanceMethod yX9_waysToWord ∈ GW := GW_3 2 rfl rfl
theorem mV_X9_waysToWord : Cond.selects yX9_waysToWord.cls yX9_waysToWord yX9_waysToWord ∈ GW := GW_p 8 rfl rfl
theorem ml_X9_287 : Cond.methodLink RX9 287 yX9_waysToWord ∈ GW := GW_3 0 rfl rfl
theorem cl_X9_287 : Cond.methodLink RX9 287 yX9_waysToWord ∈ GW ∧ Cond.instanceMethod yX9_waysToWord ∈ GW ∧ Cond.selects yX9_waysToWord.cls yX9_waysToWord yX9_waysToWord ∈ GW ∧ Cond.initialized yX9_waysToWord.cls ∈ GW ∧ Cond.code yX9_waysToWord cX9_waysToWord 5 (some .long) ∈ GW := ⟨ml_X9_287, mI_X9_waysToWord, mV_X9_waysToWord, mN_X9, mC_X9_waysToWord⟩
theorem mC_X9_heardWithout : Cond.code yX9_heardWithout cX9_heardWithout 2 (some .int) ∈ GW := GW_5 62 rfl rfl
theorem hy_X9_heardWithout : yX9_heardWithout.cls = yX9_heardWithout.cls ∧ yX9_heardWithout.cls ≠ "java/lang/invoke/MethodHandle" ∧ yX9_heardWithout.cls ≠ "java/lang/invoke/VarHandle" ∧ (parseMethodDescriptor yX9_heardWithout.desc).map (fun d => d.parameters.length) = some 1 := by decide +kernel
theorem mI_X9_heardWithout : Cond.instanceMethod yX9_heardWithout ∈ GW := GW_5 61 rfl rfl
theorem mV_X9_heardWithout : Cond.selects yX9_heardWithout.cls yX9_heardWithout yX9_heardWithout ∈ GW := GW_p 34 rfl rfl
theorem ml_X9_291 : Cond.methodLink RX9 291 yX9_heardWithout ∈ GW := GW_5 59 rfl rfl
theorem cl_X9_291 : Cond.methodLink RX9 291 yX9_heardWithout ∈ GW ∧ Cond.instanceMethod yX9_heardWithout ∈ GW ∧ Cond.selects yX9_heardWithout.cls yX9_heardWithout yX9_heardWithout ∈ GW ∧ Cond.initialized yX9_heardWithout.cls ∈ GW ∧ Cond.code yX9_heardWithout cX9_heardWithout 2 (some .int) ∈ GW := ⟨ml_X9_291, mI_X9_heardWithout, mV_X9_heardWithout, mN_X9, mC_X9_heardWithout⟩
theorem mC_X1_fits : Cond.code yX1_fits cX1_fits 2 (some .boolean) ∈ GW := GW_5 66 rfl rfl
theorem hy_X1_fits : yX1_fits.cls = yX1_fits.cls ∧ yX1_fits.cls ≠ "java/lang/invoke/MethodHandle" ∧ yX1_fits.cls ≠ "java/lang/invoke/VarHandle" ∧ (parseMethodDescriptor yX1_fits.desc).map (fun d => d.parameters.length) = some 1 := by decide +kernel
theorem mI_X1_fits : Cond.instanceMethod yX1_fits ∈ GW := GW_5 64 rfl rfl
theorem mV_X1_fits : Cond.selects yX1_fits.cls yX1_fits yX1_fits ∈ GW := GW_5 65 rfl rfl
theorem ml_X9_294 : Cond.methodLink RX9 294 yX1_fits ∈ GW := GW_5 63 rfl rfl
theorem cl_X9_294 : Cond.methodLink RX9 294 yX1_fits ∈ GW ∧ Cond.instanceMethod yX1_fits ∈ GW ∧ Cond.selects yX1_fits.cls yX1_fits yX1_fits ∈ GW ∧ Cond.initialized yX1_fits.cls ∈ GW ∧ Cond.code yX1_fits cX1_fits 2 (some .boolean) ∈ GW := ⟨ml_X9_294, mI_X1_fits, mV_X1_fits, mN_X1, mC_X1_fits⟩
theorem mC_X9_tallyHeard : Cond.code yX9_tallyHeard cX9_tallyHeard 6 (some .int) ∈ GW := GW_5 77 rfl rfl
theorem hy_X9_tallyHeard : yX9_tallyHeard.cls = yX9_tallyHeard.cls ∧ yX9_tallyHeard.cls ≠ "java/lang/invoke/MethodHandle" ∧ yX9_tallyHeard.cls ≠ "java/lang/invoke/VarHandle" ∧ (parseMethodDescriptor yX9_tallyHeard.desc).map (fun d => d.parameters.length) = some 0 := by decide +kernel
theorem mI_X9_tallyHeard : Cond.instanceMethod yX9_tallyHeard ∈ GW := GW_5 76 rfl rfl
theorem mV_X9_tallyHeard : Cond.selects yX9_tallyHeard.cls yX9_tallyHeard yX9_tallyHeard ∈ GW := GW_p 35 rfl rfl
theorem ml_X9_297 : Cond.methodLink RX9 297 yX9_tallyHeard ∈ GW := GW_5 74 rfl rfl
theorem cl_X9_297 : Cond.methodLink RX9 297 yX9_tallyHeard ∈ GW ∧ Cond.instanceMethod yX9_tallyHeard ∈ GW ∧ Cond.selects yX9_tallyHeard.cls yX9_tallyHeard yX9_tallyHeard ∈ GW ∧ Cond.initialized yX9_tallyHeard.cls ∈ GW ∧ Cond.code yX9_tallyHeard cX9_tallyHeard 6 (some .int) ∈ GW := ⟨ml_X9_297, mI_X9_tallyHeard, mV_X9_tallyHeard, mN_X9, mC_X9_tallyHeard⟩
theorem mN_J9 : Cond.initialized RJ9 ∈ GW := GW_1 21 rfl rfl
theorem mC_J9_max_7cf53 : Cond.code yJ9_max_7cf53 cJ9_max_7cf53 2 (some .int) ∈ GW := GW_2 231 rfl rfl
theorem hy_J9_max_7cf53 : yJ9_max_7cf53.cls = yJ9_max_7cf53.cls ∧ yJ9_max_7cf53.cls ≠ "java/lang/invoke/MethodHandle" ∧ yJ9_max_7cf53.cls ≠ "java/lang/invoke/VarHandle" ∧ (parseMethodDescriptor yJ9_max_7cf53.desc).map (fun d => d.parameters.length) = some 2 := by decide +kernel
theorem mS_J9_max_7cf53 : Cond.static yJ9_max_7cf53 ∈ GW := GW_2 230 rfl rfl
theorem ml_X9_300 : Cond.methodLink RX9 300 yJ9_max_7cf53 ∈ GW := GW_5 78 rfl rfl
theorem cl_X9_300 : Cond.methodLink RX9 300 yJ9_max_7cf53 ∈ GW ∧ Cond.static yJ9_max_7cf53 ∈ GW ∧ Cond.initialized yJ9_max_7cf53.cls ∈ GW ∧ Cond.code yJ9_max_7cf53 cJ9_max_7cf53 2 (some .int) ∈ GW := ⟨ml_X9_300, mS_J9_max_7cf53, mN_J9, mC_J9_max_7cf53⟩
theorem mC_X9_notesSungBy : Cond.code yX9_notesSungBy cX9_notesSungBy 4 (some .int) ∈ GW := GW_5 89 rfl rfl
theorem hy_X9_notesSungBy : yX9_notesSungBy.cls = yX9_notesSungBy.cls ∧ yX9_notesSungBy.cls ≠ "java/lang/invoke/MethodHandle" ∧ yX9_notesSungBy.cls ≠ "java/lang/invoke/VarHandle" ∧ (parseMethodDescriptor yX9_notesSungBy.desc).map (fun d => d.parameters.length) = some 1 := by decide +kernel
theorem mI_X9_notesSungBy : Cond.instanceMethod yX9_notesSungBy ∈ GW := GW_5 88 rfl rfl
theorem mV_X9_notesSungBy : Cond.selects yX9_notesSungBy.cls yX9_notesSungBy yX9_notesSungBy ∈ GW := GW_p 36 rfl rfl
theorem ml_X9_305 : Cond.methodLink RX9 305 yX9_notesSungBy ∈ GW := GW_5 86 rfl rfl
theorem cl_X9_305 : Cond.methodLink RX9 305 yX9_notesSungBy ∈ GW ∧ Cond.instanceMethod yX9_notesSungBy ∈ GW ∧ Cond.selects yX9_notesSungBy.cls yX9_notesSungBy yX9_notesSungBy ∈ GW ∧ Cond.initialized yX9_notesSungBy.cls ∈ GW ∧ Cond.code yX9_notesSungBy cX9_notesSungBy 4 (some .int) ∈ GW := ⟨ml_X9_305, mI_X9_notesSungBy, mV_X9_notesSungBy, mN_X9, mC_X9_notesSungBy⟩
theorem mC_X9_gain : Cond.code yX9_gain cX9_gain 4 (some .int) ∈ GW := GW_5 106 rfl rfl
theorem hy_X9_gain : yX9_gain.cls = yX9_gain.cls ∧ yX9_gain.cls ≠ "java/lang/invoke/MethodHandle" ∧ yX9_gain.cls ≠ "java/lang/invoke/VarHandle" ∧ (parseMethodDescriptor yX9_gain.desc).map (fun d => d.parameters.length) = some 4 := by decide +kernel
theorem mS_X9_gain : Cond.static yX9_gain ∈ GW := GW_5 105 rfl rfl
theorem ml_X9_308 : Cond.methodLink RX9 308 yX9_gain ∈ GW := GW_5 104 rfl rfl
theorem cl_X9_308 : Cond.methodLink RX9 308 yX9_gain ∈ GW ∧ Cond.static yX9_gain ∈ GW ∧ Cond.initialized yX9_gain.cls ∈ GW ∧ Cond.code yX9_gain cX9_gain 4 (some .int) ∈ GW := ⟨ml_X9_308, mS_X9_gain, mN_X9, mC_X9_gain⟩
theorem mC_X9_choices : Cond.code yX9_choices cX9_choices 5 (some .long) ∈ GW := GW_5 116 rfl rfl
theorem hy_X9_choices : yX9_choices.cls = yX9_choices.cls ∧ yX9_choices.cls ≠ "java/lang/invoke/MethodHandle" ∧ yX9_choices.cls ≠ "java/lang/invoke/VarHandle" ∧ (parseMethodDescriptor yX9_choices.desc).map (fun d => d.parameters.length) = some 2 := by decide +kernel
theorem mS_X9_choices : Cond.static yX9_choices ∈ GW := GW_5 115 rfl rfl
theorem ml_X9_312 : Cond.methodLink RX9 312 yX9_choices ∈ GW := GW_5 114 rfl rfl
theorem cl_X9_312 : Cond.methodLink RX9 312 yX9_choices ∈ GW ∧ Cond.static yX9_choices ∈ GW ∧ Cond.initialized yX9_choices.cls ∈ GW ∧ Cond.code yX9_choices cX9_choices 5 (some .long) ∈ GW := ⟨ml_X9_312, mS_X9_choices, mN_X9, mC_X9_choices⟩
theorem mC_X9_power : Cond.code yX9_power cX9_power 5 (some .long) ∈ GW := GW_5 119 rfl rfl
theorem hy_X9_power : yX9_power.cls = yX9_power.cls ∧ yX9_power.cls ≠ "java/lang/invoke/MethodHandle" ∧ yX9_power.cls ≠ "java/lang/invoke/VarHandle" ∧ (parseMethodDescriptor yX9_power.desc).map (fun d => d.parameters.length) = some 2 := by decide +kernel
theorem mS_X9_power : Cond.static yX9_power ∈ GW := GW_5 118 rfl rfl
theorem ml_X9_316 : Cond.methodLink RX9 316 yX9_power ∈ GW := GW_5 117 rfl rfl
theorem cl_X9_316 : Cond.methodLink RX9 316 yX9_power ∈ GW ∧ Cond.static yX9_power ∈ GW ∧ Cond.initialized yX9_power.cls ∈ GW ∧ Cond.code yX9_power cX9_power 5 (some .long) ∈ GW := ⟨ml_X9_316, mS_X9_power, mN_X9, mC_X9_power⟩
theorem mC_X9_areSingers : Cond.code yX9_areSingers cX9_areSingers 2 (some .boolean) ∈ GW := GW_5 130 rfl rfl
theorem hy_X9_areSingers : yX9_areSingers.cls = yX9_areSingers.cls ∧ yX9_areSingers.cls ≠ "java/lang/invoke/MethodHandle" ∧ yX9_areSingers.cls ≠ "java/lang/invoke/VarHandle" ∧ (parseMethodDescriptor yX9_areSingers.desc).map (fun d => d.parameters.length) = some 1 := by decide +kernel
theorem mI_X9_areSingers : Cond.instanceMethod yX9_areSingers ∈ GW := GW_5 129 rfl rfl
theorem mV_X9_areSingers : Cond.selects yX9_areSingers.cls yX9_areSingers yX9_areSingers ∈ GW := GW_p 37 rfl rfl
theorem ml_X9_319 : Cond.methodLink RX9 319 yX9_areSingers ∈ GW := GW_5 127 rfl rfl
theorem cl_X9_319 : Cond.methodLink RX9 319 yX9_areSingers ∈ GW ∧ Cond.instanceMethod yX9_areSingers ∈ GW ∧ Cond.selects yX9_areSingers.cls yX9_areSingers yX9_areSingers ∈ GW ∧ Cond.initialized yX9_areSingers.cls ∈ GW ∧ Cond.code yX9_areSingers cX9_areSingers 2 (some .boolean) ∈ GW := ⟨ml_X9_319, mI_X9_areSingers, mV_X9_areSingers, mN_X9, mC_X9_areSingers⟩
theorem mC_X9_given : Cond.code yX9_given cX9_given 5 (some .int) ∈ GW := GW_5 134 rfl rfl
theorem hy_X9_given : yX9_given.cls = yX9_given.cls ∧ yX9_given.cls ≠ "java/lang/invoke/MethodHandle" ∧ yX9_given.cls ≠ "java/lang/invoke/VarHandle" ∧ (parseMethodDescriptor yX9_given.desc).map (fun d => d.parameters.length) = some 2 := by decide +kernel
theorem mI_X9_given : Cond.instanceMethod yX9_given ∈ GW := GW_5 133 rfl rfl
theorem mV_X9_given : Cond.selects yX9_given.cls yX9_given yX9_given ∈ GW := GW_p 38 rfl rfl
theorem ml_X9_322 : Cond.methodLink RX9 322 yX9_given ∈ GW := GW_5 131 rfl rfl
theorem cl_X9_322 : Cond.methodLink RX9 322 yX9_given ∈ GW ∧ Cond.instanceMethod yX9_given ∈ GW ∧ Cond.selects yX9_given.cls yX9_given yX9_given ∈ GW ∧ Cond.initialized yX9_given.cls ∈ GW ∧ Cond.code yX9_given cX9_given 5 (some .int) ∈ GW := ⟨ml_X9_322, mI_X9_given, mV_X9_given, mN_X9, mC_X9_given⟩
theorem mC_J9_min_7cf53 : Cond.code yJ9_min_7cf53 cJ9_min_7cf53 2 (some .int) ∈ GW := GW_4 136 rfl rfl
theorem hy_J9_min_7cf53 : yJ9_min_7cf53.cls = yJ9_min_7cf53.cls ∧ yJ9_min_7cf53.cls ≠ "java/lang/invoke/MethodHandle" ∧ yJ9_min_7cf53.cls ≠ "java/lang/invoke/VarHandle" ∧ (parseMethodDescriptor yJ9_min_7cf53.desc).map (fun d => d.parameters.length) = some 2 := by decide +kernel
theorem mS_J9_min_7cf53 : Cond.static yJ9_min_7cf53 ∈ GW := GW_4 135 rfl rfl
theorem ml_X9_325 : Cond.methodLink RX9 325 yJ9_min_7cf53 ∈ GW := GW_5 135 rfl rfl
theorem cl_X9_325 : Cond.methodLink RX9 325 yJ9_min_7cf53 ∈ GW ∧ Cond.static yJ9_min_7cf53 ∈ GW ∧ Cond.initialized yJ9_min_7cf53.cls ∈ GW ∧ Cond.code yJ9_min_7cf53 cJ9_min_7cf53 2 (some .int) ∈ GW := ⟨ml_X9_325, mS_J9_min_7cf53, mN_J9, mC_J9_min_7cf53⟩
theorem mC_X9_firstMost : Cond.code yX9_firstMost cX9_firstMost 4 (some .int) ∈ GW := GW_5 145 rfl rfl
theorem hy_X9_firstMost : yX9_firstMost.cls = yX9_firstMost.cls ∧ yX9_firstMost.cls ≠ "java/lang/invoke/MethodHandle" ∧ yX9_firstMost.cls ≠ "java/lang/invoke/VarHandle" ∧ (parseMethodDescriptor yX9_firstMost.desc).map (fun d => d.parameters.length) = some 2 := by decide +kernel
theorem mS_X9_firstMost : Cond.static yX9_firstMost ∈ GW := GW_5 144 rfl rfl
theorem ml_X9_328 : Cond.methodLink RX9 328 yX9_firstMost ∈ GW := GW_5 143 rfl rfl
theorem cl_X9_328 : Cond.methodLink RX9 328 yX9_firstMost ∈ GW ∧ Cond.static yX9_firstMost ∈ GW ∧ Cond.initialized yX9_firstMost.cls ∈ GW ∧ Cond.code yX9_firstMost cX9_firstMost 4 (some .int) ∈ GW := ⟨ml_X9_328, mS_X9_firstMost, mN_X9, mC_X9_firstMost⟩
theorem mC_X9_places : Cond.code yX9_places cX9_places 5 (some .int) ∈ GW := GW_5 22 rfl rfl
theorem hy_X9_places : yX9_places.cls = yX9_places.cls ∧ yX9_places.cls ≠ "java/lang/invoke/MethodHandle" ∧ yX9_places.cls ≠ "java/lang/invoke/VarHandle" ∧ (parseMethodDescriptor yX9_places.desc).map (fun d => d.parameters.length) = some 3 := by decide +kernel
theorem mS_X9_places : Cond.static yX9_places ∈ GW := GW_5 21 rfl rfl
theorem ml_X9_332 : Cond.methodLink RX9 332 yX9_places ∈ GW := GW_5 20 rfl rfl
theorem cl_X9_332 : Cond.methodLink RX9 332 yX9_places ∈ GW ∧ Cond.static yX9_places ∈ GW ∧ Cond.initialized yX9_places.cls ∈ GW ∧ Cond.code yX9_places cX9_places 5 (some .int) ∈ GW := ⟨ml_X9_332, mS_X9_places, mN_X9, mC_X9_places⟩
theorem mC_X9_allSingers : Cond.code yX9_allSingers cX9_allSingers 1 (some .int) ∈ GW := GW_2 185 rfl rfl
theorem hy_X9_allSingers : yX9_allSingers.cls = yX9_allSingers.cls ∧ yX9_allSingers.cls ≠ "java/lang/invoke/MethodHandle" ∧ yX9_allSingers.cls ≠ "java/lang/invoke/VarHandle" ∧ (parseMethodDescriptor yX9_allSingers.desc).map (fun d => d.parameters.length) = some 0 := by decide +kernel
theorem mI_X9_allSingers : Cond.instanceMethod yX9_allSingers ∈ GW := GW_2 184 rfl rfl
theorem mV_X9_allSingers : Cond.selects yX9_allSingers.cls yX9_allSingers yX9_allSingers ∈ GW := GW_p 3 rfl rfl
theorem ml_X9_339 : Cond.methodLink RX9 339 yX9_allSingers ∈ GW := GW_2 182 rfl rfl
theorem cl_X9_339 : Cond.methodLink RX9 339 yX9_allSingers ∈ GW ∧ Cond.instanceMethod yX9_allSingers ∈ GW ∧ Cond.selects yX9_allSingers.cls yX9_allSingers yX9_allSingers ∈ GW ∧ Cond.initialized yX9_allSingers.cls ∈ GW ∧ Cond.code yX9_allSingers cX9_allSingers 1 (some .int) ∈ GW := ⟨ml_X9_339, mI_X9_allSingers, mV_X9_allSingers, mN_X9, mC_X9_allSingers⟩
theorem mC_X9_liveSunday : Cond.code yX9_liveSunday cX9_liveSunday 6 none ∈ GW := GW_5 212 rfl rfl
theorem hy_X9_liveSunday : yX9_liveSunday.cls = yX9_liveSunday.cls ∧ yX9_liveSunday.cls ≠ "java/lang/invoke/MethodHandle" ∧ yX9_liveSunday.cls ≠ "java/lang/invoke/VarHandle" ∧ (parseMethodDescriptor yX9_liveSunday.desc).map (fun d => d.parameters.length) = some 3 := by decide +kernel
theorem mI_X9_liveSunday : Cond.instanceMethod yX9_liveSunday ∈ GW := GW_5 211 rfl rfl
theorem mV_X9_liveSunday : Cond.selects yX9_liveSunday.cls yX9_liveSunday yX9_liveSunday ∈ GW := GW_p 39 rfl rfl
theorem ml_X9_342 : Cond.methodLink RX9 342 yX9_liveSunday ∈ GW := GW_5 209 rfl rfl
theorem cl_X9_342 : Cond.methodLink RX9 342 yX9_liveSunday ∈ GW ∧ Cond.instanceMethod yX9_liveSunday ∈ GW ∧ Cond.selects yX9_liveSunday.cls yX9_liveSunday yX9_liveSunday ∈ GW ∧ Cond.initialized yX9_liveSunday.cls ∈ GW ∧ Cond.code yX9_liveSunday cX9_liveSunday 6 none ∈ GW := ⟨ml_X9_342, mI_X9_liveSunday, mV_X9_liveSunday, mN_X9, mC_X9_liveSunday⟩
theorem mC_X3_become : Cond.code yX3_become cX3_become 3 none ∈ GW := GW_3 28 rfl rfl
theorem hy_X3_become : yX3_become.cls = yX3_become.cls ∧ yX3_become.cls ≠ "java/lang/invoke/MethodHandle" ∧ yX3_become.cls ≠ "java/lang/invoke/VarHandle" ∧ (parseMethodDescriptor yX3_become.desc).map (fun d => d.parameters.length) = some 1 := by decide +kernel
theorem mI_X3_become : Cond.instanceMethod yX3_become ∈ GW := GW_3 26 rfl rfl
theorem mV_X3_become : Cond.selects yX3_become.cls yX3_become yX3_become ∈ GW := GW_3 27 rfl rfl
theorem ml_X9_349 : Cond.methodLink RX9 349 yX3_become ∈ GW := GW_3 25 rfl rfl
theorem cl_X9_349 : Cond.methodLink RX9 349 yX3_become ∈ GW ∧ Cond.instanceMethod yX3_become ∈ GW ∧ Cond.selects yX3_become.cls yX3_become yX3_become ∈ GW ∧ Cond.initialized yX3_become.cls ∈ GW ∧ Cond.code yX3_become cX3_become 3 none ∈ GW := ⟨ml_X9_349, mI_X3_become, mV_X3_become, mN_X3, mC_X3_become⟩
theorem mC_X8_open : Cond.code yX8_open cX8_open 2 none ∈ GW := GW_3 129 rfl rfl
theorem hy_X8_open : yX8_open.cls = yX8_open.cls ∧ yX8_open.cls ≠ "java/lang/invoke/MethodHandle" ∧ yX8_open.cls ≠ "java/lang/invoke/VarHandle" ∧ (parseMethodDescriptor yX8_open.desc).map (fun d => d.parameters.length) = some 1 := by decide +kernel
theorem mI_X8_open : Cond.instanceMethod yX8_open ∈ GW := GW_3 127 rfl rfl
theorem mV_X8_open : Cond.selects yX8_open.cls yX8_open yX8_open ∈ GW := GW_3 128 rfl rfl
theorem ml_X9_370 : Cond.methodLink RX9 370 yX8_open ∈ GW := GW_3 126 rfl rfl
theorem cl_X9_370 : Cond.methodLink RX9 370 yX8_open ∈ GW ∧ Cond.instanceMethod yX8_open ∈ GW ∧ Cond.selects yX8_open.cls yX8_open yX8_open ∈ GW ∧ Cond.initialized yX8_open.cls ∈ GW ∧ Cond.code yX8_open cX8_open 2 none ∈ GW := ⟨ml_X9_370, mI_X8_open, mV_X8_open, mN_X8, mC_X8_open⟩
theorem mC_X2_plain : Cond.code yX2_plain cX2_plain 1 none ∈ GW := GW_4 7 rfl rfl
theorem hy_X2_plain : yX2_plain.cls = yX2_plain.cls ∧ yX2_plain.cls ≠ "java/lang/invoke/MethodHandle" ∧ yX2_plain.cls ≠ "java/lang/invoke/VarHandle" ∧ (parseMethodDescriptor yX2_plain.desc).map (fun d => d.parameters.length) = some 0 := by decide +kernel
theorem mI_X2_plain : Cond.instanceMethod yX2_plain ∈ GW := GW_4 5 rfl rfl
theorem mV_X2_plain : Cond.selects yX2_plain.cls yX2_plain yX2_plain ∈ GW := GW_4 6 rfl rfl
theorem ml_X9_373 : Cond.methodLink RX9 373 yX2_plain ∈ GW := GW_4 4 rfl rfl
theorem cl_X9_373 : Cond.methodLink RX9 373 yX2_plain ∈ GW ∧ Cond.instanceMethod yX2_plain ∈ GW ∧ Cond.selects yX2_plain.cls yX2_plain yX2_plain ∈ GW ∧ Cond.initialized yX2_plain.cls ∈ GW ∧ Cond.code yX2_plain cX2_plain 1 none ∈ GW := ⟨ml_X9_373, mI_X2_plain, mV_X2_plain, mN_X2, mC_X2_plain⟩
theorem mC_X1_clear : Cond.code yX1_clear cX1_clear 1 none ∈ GW := GW_4 15 rfl rfl
theorem hy_X1_clear : yX1_clear.cls = yX1_clear.cls ∧ yX1_clear.cls ≠ "java/lang/invoke/MethodHandle" ∧ yX1_clear.cls ≠ "java/lang/invoke/VarHandle" ∧ (parseMethodDescriptor yX1_clear.desc).map (fun d => d.parameters.length) = some 0 := by decide +kernel
theorem mI_X1_clear : Cond.instanceMethod yX1_clear ∈ GW := GW_4 13 rfl rfl
theorem mV_X1_clear : Cond.selects yX1_clear.cls yX1_clear yX1_clear ∈ GW := GW_4 14 rfl rfl
theorem ml_X9_376 : Cond.methodLink RX9 376 yX1_clear ∈ GW := GW_4 12 rfl rfl
theorem cl_X9_376 : Cond.methodLink RX9 376 yX1_clear ∈ GW ∧ Cond.instanceMethod yX1_clear ∈ GW ∧ Cond.selects yX1_clear.cls yX1_clear yX1_clear ∈ GW ∧ Cond.initialized yX1_clear.cls ∈ GW ∧ Cond.code yX1_clear cX1_clear 1 none ∈ GW := ⟨ml_X9_376, mI_X1_clear, mV_X1_clear, mN_X1, mC_X1_clear⟩
theorem mC_X3_begin : Cond.code yX3_begin cX3_begin 2 none ∈ GW := GW_4 19 rfl rfl
theorem hy_X3_begin : yX3_begin.cls = yX3_begin.cls ∧ yX3_begin.cls ≠ "java/lang/invoke/MethodHandle" ∧ yX3_begin.cls ≠ "java/lang/invoke/VarHandle" ∧ (parseMethodDescriptor yX3_begin.desc).map (fun d => d.parameters.length) = some 1 := by decide +kernel
theorem mI_X3_begin : Cond.instanceMethod yX3_begin ∈ GW := GW_4 17 rfl rfl
theorem mV_X3_begin : Cond.selects yX3_begin.cls yX3_begin yX3_begin ∈ GW := GW_4 18 rfl rfl
theorem ml_X9_379 : Cond.methodLink RX9 379 yX3_begin ∈ GW := GW_4 16 rfl rfl
theorem cl_X9_379 : Cond.methodLink RX9 379 yX3_begin ∈ GW ∧ Cond.instanceMethod yX3_begin ∈ GW ∧ Cond.selects yX3_begin.cls yX3_begin yX3_begin ∈ GW ∧ Cond.initialized yX3_begin.cls ∈ GW ∧ Cond.code yX3_begin cX3_begin 2 none ∈ GW := ⟨ml_X9_379, mI_X3_begin, mV_X3_begin, mN_X3, mC_X3_begin⟩
theorem mC_X7_singNote : Cond.code yX7_singNote cX7_singNote 5 (some .int) ∈ GW := GW_2 193 rfl rfl
theorem hy_X7_singNote : yX7_singNote.cls = yX7_singNote.cls ∧ yX7_singNote.cls ≠ "java/lang/invoke/MethodHandle" ∧ yX7_singNote.cls ≠ "java/lang/invoke/VarHandle" ∧ (parseMethodDescriptor yX7_singNote.desc).map (fun d => d.parameters.length) = some 2 := by decide +kernel
theorem mI_X7_singNote : Cond.instanceMethod yX7_singNote ∈ GW := GW_2 191 rfl rfl
theorem mV_X7_singNote : Cond.selects yX7_singNote.cls yX7_singNote yX7_singNote ∈ GW := GW_2 192 rfl rfl
theorem ml_X9_383 : Cond.methodLink RX9 383 yX7_singNote ∈ GW := GW_2 190 rfl rfl
theorem cl_X9_383 : Cond.methodLink RX9 383 yX7_singNote ∈ GW ∧ Cond.instanceMethod yX7_singNote ∈ GW ∧ Cond.selects yX7_singNote.cls yX7_singNote yX7_singNote ∈ GW ∧ Cond.initialized yX7_singNote.cls ∈ GW ∧ Cond.code yX7_singNote cX7_singNote 5 (some .int) ∈ GW := ⟨ml_X9_383, mI_X7_singNote, mV_X7_singNote, mN_X7, mC_X7_singNote⟩
theorem mC_X9_payOf : Cond.code yX9_payOf cX9_payOf 4 (some .int) ∈ GW := GW_2 176 rfl rfl
theorem hy_X9_payOf : yX9_payOf.cls = yX9_payOf.cls ∧ yX9_payOf.cls ≠ "java/lang/invoke/MethodHandle" ∧ yX9_payOf.cls ≠ "java/lang/invoke/VarHandle" ∧ (parseMethodDescriptor yX9_payOf.desc).map (fun d => d.parameters.length) = some 1 := by decide +kernel
theorem mI_X9_payOf : Cond.instanceMethod yX9_payOf ∈ GW := GW_2 175 rfl rfl
theorem mV_X9_payOf : Cond.selects yX9_payOf.cls yX9_payOf yX9_payOf ∈ GW := GW_p 1 rfl rfl
theorem ml_X9_387 : Cond.methodLink RX9 387 yX9_payOf ∈ GW := GW_2 173 rfl rfl
theorem cl_X9_387 : Cond.methodLink RX9 387 yX9_payOf ∈ GW ∧ Cond.instanceMethod yX9_payOf ∈ GW ∧ Cond.selects yX9_payOf.cls yX9_payOf yX9_payOf ∈ GW ∧ Cond.initialized yX9_payOf.cls ∈ GW ∧ Cond.code yX9_payOf cX9_payOf 4 (some .int) ∈ GW := ⟨ml_X9_387, mI_X9_payOf, mV_X9_payOf, mN_X9, mC_X9_payOf⟩
theorem mC_X7_refresh : Cond.code yX7_refresh cX7_refresh 3 none ∈ GW := GW_2 189 rfl rfl
theorem hy_X7_refresh : yX7_refresh.cls = yX7_refresh.cls ∧ yX7_refresh.cls ≠ "java/lang/invoke/MethodHandle" ∧ yX7_refresh.cls ≠ "java/lang/invoke/VarHandle" ∧ (parseMethodDescriptor yX7_refresh.desc).map (fun d => d.parameters.length) = some 1 := by decide +kernel
theorem mI_X7_refresh : Cond.instanceMethod yX7_refresh ∈ GW := GW_2 187 rfl rfl
theorem mV_X7_refresh : Cond.selects yX7_refresh.cls yX7_refresh yX7_refresh ∈ GW := GW_2 188 rfl rfl
theorem ml_X9_390 : Cond.methodLink RX9 390 yX7_refresh ∈ GW := GW_2 186 rfl rfl
theorem cl_X9_390 : Cond.methodLink RX9 390 yX7_refresh ∈ GW ∧ Cond.instanceMethod yX7_refresh ∈ GW ∧ Cond.selects yX7_refresh.cls yX7_refresh yX7_refresh ∈ GW ∧ Cond.initialized yX7_refresh.cls ∈ GW ∧ Cond.code yX7_refresh cX7_refresh 3 none ∈ GW := ⟨ml_X9_390, mI_X7_refresh, mV_X7_refresh, mN_X7, mC_X7_refresh⟩
theorem mC_X0_fill : Cond.code yX0_fill cX0_fill 3 none ∈ GW := GW_2 220 rfl rfl
theorem hy_X0_fill : yX0_fill.cls = yX0_fill.cls ∧ yX0_fill.cls ≠ "java/lang/invoke/MethodHandle" ∧ yX0_fill.cls ≠ "java/lang/invoke/VarHandle" ∧ (parseMethodDescriptor yX0_fill.desc).map (fun d => d.parameters.length) = some 0 := by decide +kernel
theorem mI_X0_fill : Cond.instanceMethod yX0_fill ∈ GW := GW_2 218 rfl rfl
theorem mV_X0_fill : Cond.selects yX0_fill.cls yX0_fill yX0_fill ∈ GW := GW_2 219 rfl rfl
theorem ml_X9_397 : Cond.methodLink RX9 397 yX0_fill ∈ GW := GW_2 217 rfl rfl
theorem cl_X9_397 : Cond.methodLink RX9 397 yX0_fill ∈ GW ∧ Cond.instanceMethod yX0_fill ∈ GW ∧ Cond.selects yX0_fill.cls yX0_fill yX0_fill ∈ GW ∧ Cond.initialized yX0_fill.cls ∈ GW ∧ Cond.code yX0_fill cX0_fill 3 none ∈ GW := ⟨ml_X9_397, mI_X0_fill, mV_X0_fill, mN_X0, mC_X0_fill⟩
theorem mC_X9_draw : Cond.code yX9_draw cX9_draw 2 (some .int) ∈ GW := GW_5 216 rfl rfl
theorem hy_X9_draw : yX9_draw.cls = yX9_draw.cls ∧ yX9_draw.cls ≠ "java/lang/invoke/MethodHandle" ∧ yX9_draw.cls ≠ "java/lang/invoke/VarHandle" ∧ (parseMethodDescriptor yX9_draw.desc).map (fun d => d.parameters.length) = some 1 := by decide +kernel
theorem mI_X9_draw : Cond.instanceMethod yX9_draw ∈ GW := GW_5 215 rfl rfl
theorem mV_X9_draw : Cond.selects yX9_draw.cls yX9_draw yX9_draw ∈ GW := GW_p 40 rfl rfl
theorem ml_X9_404 : Cond.methodLink RX9 404 yX9_draw ∈ GW := GW_5 213 rfl rfl
theorem cl_X9_404 : Cond.methodLink RX9 404 yX9_draw ∈ GW ∧ Cond.instanceMethod yX9_draw ∈ GW ∧ Cond.selects yX9_draw.cls yX9_draw yX9_draw ∈ GW ∧ Cond.initialized yX9_draw.cls ∈ GW ∧ Cond.code yX9_draw cX9_draw 2 (some .int) ∈ GW := ⟨ml_X9_404, mI_X9_draw, mV_X9_draw, mN_X9, mC_X9_draw⟩
theorem mC_X7_rest : Cond.code yX7_rest cX7_rest 4 (some .boolean) ∈ GW := GW_4 133 rfl rfl
theorem hy_X7_rest : yX7_rest.cls = yX7_rest.cls ∧ yX7_rest.cls ≠ "java/lang/invoke/MethodHandle" ∧ yX7_rest.cls ≠ "java/lang/invoke/VarHandle" ∧ (parseMethodDescriptor yX7_rest.desc).map (fun d => d.parameters.length) = some 1 := by decide +kernel
theorem mI_X7_rest : Cond.instanceMethod yX7_rest ∈ GW := GW_4 131 rfl rfl
theorem mV_X7_rest : Cond.selects yX7_rest.cls yX7_rest yX7_rest ∈ GW := GW_4 132 rfl rfl
theorem ml_X9_407 : Cond.methodLink RX9 407 yX7_rest ∈ GW := GW_5 218 rfl rfl
theorem cl_X9_407 : Cond.methodLink RX9 407 yX7_rest ∈ GW ∧ Cond.instanceMethod yX7_rest ∈ GW ∧ Cond.selects yX7_rest.cls yX7_rest yX7_rest ∈ GW ∧ Cond.initialized yX7_rest.cls ∈ GW ∧ Cond.code yX7_rest cX7_rest 4 (some .boolean) ∈ GW := ⟨ml_X9_407, mI_X7_rest, mV_X7_rest, mN_X7, mC_X7_rest⟩
theorem mC_X7_nextDay : Cond.code yX7_nextDay cX7_nextDay 3 (some .boolean) ∈ GW := GW_4 148 rfl rfl
theorem hy_X7_nextDay : yX7_nextDay.cls = yX7_nextDay.cls ∧ yX7_nextDay.cls ≠ "java/lang/invoke/MethodHandle" ∧ yX7_nextDay.cls ≠ "java/lang/invoke/VarHandle" ∧ (parseMethodDescriptor yX7_nextDay.desc).map (fun d => d.parameters.length) = some 1 := by decide +kernel
theorem mI_X7_nextDay : Cond.instanceMethod yX7_nextDay ∈ GW := GW_4 146 rfl rfl
theorem mV_X7_nextDay : Cond.selects yX7_nextDay.cls yX7_nextDay yX7_nextDay ∈ GW := GW_4 147 rfl rfl
theorem ml_X9_411 : Cond.methodLink RX9 411 yX7_nextDay ∈ GW := GW_5 219 rfl rfl
theorem cl_X9_411 : Cond.methodLink RX9 411 yX7_nextDay ∈ GW ∧ Cond.instanceMethod yX7_nextDay ∈ GW ∧ Cond.selects yX7_nextDay.cls yX7_nextDay yX7_nextDay ∈ GW ∧ Cond.initialized yX7_nextDay.cls ∈ GW ∧ Cond.code yX7_nextDay cX7_nextDay 3 (some .boolean) ∈ GW := ⟨ml_X9_411, mI_X7_nextDay, mV_X7_nextDay, mN_X7, mC_X7_nextDay⟩
theorem mC_X0_mostBehind : Cond.code yX0_mostBehind cX0_mostBehind 5 (some .int) ∈ GW := GW_2 224 rfl rfl
theorem hy_X0_mostBehind : yX0_mostBehind.cls = yX0_mostBehind.cls ∧ yX0_mostBehind.cls ≠ "java/lang/invoke/MethodHandle" ∧ yX0_mostBehind.cls ≠ "java/lang/invoke/VarHandle" ∧ (parseMethodDescriptor yX0_mostBehind.desc).map (fun d => d.parameters.length) = some 2 := by decide +kernel
theorem mI_X0_mostBehind : Cond.instanceMethod yX0_mostBehind ∈ GW := GW_2 223 rfl rfl
theorem mV_X0_mostBehind : Cond.selects yX0_mostBehind.cls yX0_mostBehind yX0_mostBehind ∈ GW := GW_p 6 rfl rfl
theorem ml_X0_22 : Cond.methodLink RX0 22 yX0_mostBehind ∈ GW := GW_2 221 rfl rfl
theorem cl_X0_22 : Cond.methodLink RX0 22 yX0_mostBehind ∈ GW ∧ Cond.instanceMethod yX0_mostBehind ∈ GW ∧ Cond.selects yX0_mostBehind.cls yX0_mostBehind yX0_mostBehind ∈ GW ∧ Cond.initialized yX0_mostBehind.cls ∈ GW ∧ Cond.code yX0_mostBehind cX0_mostBehind 5 (some .int) ∈ GW := ⟨ml_X0_22, mI_X0_mostBehind, mV_X0_mostBehind, mN_X0, mC_X0_mostBehind⟩
theorem mC_X0_worth : Cond.code yX0_worth cX0_worth 5 (some .int) ∈ GW := GW_2 228 rfl rfl
theorem hy_X0_worth : yX0_worth.cls = yX0_worth.cls ∧ yX0_worth.cls ≠ "java/lang/invoke/MethodHandle" ∧ yX0_worth.cls ≠ "java/lang/invoke/VarHandle" ∧ (parseMethodDescriptor yX0_worth.desc).map (fun d => d.parameters.length) = some 3 := by decide +kernel
theorem mI_X0_worth : Cond.instanceMethod yX0_worth ∈ GW := GW_2 227 rfl rfl
theorem mV_X0_worth : Cond.selects yX0_worth.cls yX0_worth yX0_worth ∈ GW := GW_p 7 rfl rfl
theorem ml_X0_26 : Cond.methodLink RX0 26 yX0_worth ∈ GW := GW_2 225 rfl rfl
theorem cl_X0_26 : Cond.methodLink RX0 26 yX0_worth ∈ GW ∧ Cond.instanceMethod yX0_worth ∈ GW ∧ Cond.selects yX0_worth.cls yX0_worth yX0_worth ∈ GW ∧ Cond.initialized yX0_worth.cls ∈ GW ∧ Cond.code yX0_worth cX0_worth 5 (some .int) ∈ GW := ⟨ml_X0_26, mI_X0_worth, mV_X0_worth, mN_X0, mC_X0_worth⟩
theorem ml_X0_30 : Cond.methodLink RX0 30 yJ9_max_7cf53 ∈ GW := GW_2 229 rfl rfl
theorem cl_X0_30 : Cond.methodLink RX0 30 yJ9_max_7cf53 ∈ GW ∧ Cond.static yJ9_max_7cf53 ∈ GW ∧ Cond.initialized yJ9_max_7cf53.cls ∈ GW ∧ Cond.code yJ9_max_7cf53 cJ9_max_7cf53 2 (some .int) ∈ GW := ⟨ml_X0_30, mS_J9_max_7cf53, mN_J9, mC_J9_max_7cf53⟩
theorem mC_X0_firstBest : Cond.code yX0_firstBest cX0_firstBest 5 (some .int) ∈ GW := GW_5 44 rfl rfl
theorem hy_X0_firstBest : yX0_firstBest.cls = yX0_firstBest.cls ∧ yX0_firstBest.cls ≠ "java/lang/invoke/MethodHandle" ∧ yX0_firstBest.cls ≠ "java/lang/invoke/VarHandle" ∧ (parseMethodDescriptor yX0_firstBest.desc).map (fun d => d.parameters.length) = some 2 := by decide +kernel
theorem mI_X0_firstBest : Cond.instanceMethod yX0_firstBest ∈ GW := GW_5 43 rfl rfl
theorem mV_X0_firstBest : Cond.selects yX0_firstBest.cls yX0_firstBest yX0_firstBest ∈ GW := GW_p 33 rfl rfl
theorem ml_X0_35 : Cond.methodLink RX0 35 yX0_firstBest ∈ GW := GW_5 41 rfl rfl
theorem cl_X0_35 : Cond.methodLink RX0 35 yX0_firstBest ∈ GW ∧ Cond.instanceMethod yX0_firstBest ∈ GW ∧ Cond.selects yX0_firstBest.cls yX0_firstBest yX0_firstBest ∈ GW ∧ Cond.initialized yX0_firstBest.cls ∈ GW ∧ Cond.code yX0_firstBest cX0_firstBest 5 (some .int) ∈ GW := ⟨ml_X0_35, mI_X0_firstBest, mV_X0_firstBest, mN_X0, mC_X0_firstBest⟩
theorem ml_X1_18 : Cond.methodLink RX1 18 yX1_clear ∈ GW := GW_4 161 rfl rfl
theorem cl_X1_18 : Cond.methodLink RX1 18 yX1_clear ∈ GW ∧ Cond.instanceMethod yX1_clear ∈ GW ∧ Cond.selects yX1_clear.cls yX1_clear yX1_clear ∈ GW ∧ Cond.initialized yX1_clear.cls ∈ GW ∧ Cond.code yX1_clear cX1_clear 1 none ∈ GW := ⟨ml_X1_18, mI_X1_clear, mV_X1_clear, mN_X1, mC_X1_clear⟩
theorem mC_X8_more : Cond.code yX8_more cX8_more 1 (some .boolean) ∈ GW := GW_3 137 rfl rfl
theorem hy_X8_more : yX8_more.cls = yX8_more.cls ∧ yX8_more.cls ≠ "java/lang/invoke/MethodHandle" ∧ yX8_more.cls ≠ "java/lang/invoke/VarHandle" ∧ (parseMethodDescriptor yX8_more.desc).map (fun d => d.parameters.length) = some 0 := by decide +kernel
theorem mI_X8_more : Cond.instanceMethod yX8_more ∈ GW := GW_3 135 rfl rfl
theorem mV_X8_more : Cond.selects yX8_more.cls yX8_more yX8_more ∈ GW := GW_3 136 rfl rfl
theorem ml_X1_21 : Cond.methodLink RX1 21 yX8_more ∈ GW := GW_4 162 rfl rfl
theorem cl_X1_21 : Cond.methodLink RX1 21 yX8_more ∈ GW ∧ Cond.instanceMethod yX8_more ∈ GW ∧ Cond.selects yX8_more.cls yX8_more yX8_more ∈ GW ∧ Cond.initialized yX8_more.cls ∈ GW ∧ Cond.code yX8_more cX8_more 1 (some .boolean) ∈ GW := ⟨ml_X1_21, mI_X8_more, mV_X8_more, mN_X8, mC_X8_more⟩
theorem mC_X8_figure : Cond.code yX8_figure cX8_figure 4 (some .int) ∈ GW := GW_3 214 rfl rfl
theorem hy_X8_figure : yX8_figure.cls = yX8_figure.cls ∧ yX8_figure.cls ≠ "java/lang/invoke/MethodHandle" ∧ yX8_figure.cls ≠ "java/lang/invoke/VarHandle" ∧ (parseMethodDescriptor yX8_figure.desc).map (fun d => d.parameters.length) = some 2 := by decide +kernel
theorem mI_X8_figure : Cond.instanceMethod yX8_figure ∈ GW := GW_3 212 rfl rfl
theorem mV_X8_figure : Cond.selects yX8_figure.cls yX8_figure yX8_figure ∈ GW := GW_3 213 rfl rfl
theorem ml_X1_27 : Cond.methodLink RX1 27 yX8_figure ∈ GW := GW_4 163 rfl rfl
theorem cl_X1_27 : Cond.methodLink RX1 27 yX8_figure ∈ GW ∧ Cond.instanceMethod yX8_figure ∈ GW ∧ Cond.selects yX8_figure.cls yX8_figure yX8_figure ∈ GW ∧ Cond.initialized yX8_figure.cls ∈ GW ∧ Cond.code yX8_figure cX8_figure 4 (some .int) ∈ GW := ⟨ml_X1_27, mI_X8_figure, mV_X8_figure, mN_X8, mC_X8_figure⟩
theorem mC_X8_fail : Cond.code yX8_fail cX8_fail 3 none ∈ GW := GW_3 210 rfl rfl
theorem hy_X8_fail : yX8_fail.cls = yX8_fail.cls ∧ yX8_fail.cls ≠ "java/lang/invoke/MethodHandle" ∧ yX8_fail.cls ≠ "java/lang/invoke/VarHandle" ∧ (parseMethodDescriptor yX8_fail.desc).map (fun d => d.parameters.length) = some 2 := by decide +kernel
theorem mI_X8_fail : Cond.instanceMethod yX8_fail ∈ GW := GW_3 208 rfl rfl
theorem mV_X8_fail : Cond.selects yX8_fail.cls yX8_fail yX8_fail ∈ GW := GW_3 209 rfl rfl
theorem ml_X1_34 : Cond.methodLink RX1 34 yX8_fail ∈ GW := GW_4 164 rfl rfl
theorem cl_X1_34 : Cond.methodLink RX1 34 yX8_fail ∈ GW ∧ Cond.instanceMethod yX8_fail ∈ GW ∧ Cond.selects yX8_fail.cls yX8_fail yX8_fail ∈ GW ∧ Cond.initialized yX8_fail.cls ∈ GW ∧ Cond.code yX8_fail cX8_fail 3 none ∈ GW := ⟨ml_X1_34, mI_X8_fail, mV_X8_fail, mN_X8, mC_X8_fail⟩
theorem mC_X8_sign : Cond.code yX8_sign cX8_sign 2 none ∈ GW := GW_3 235 rfl rfl
theorem hy_X8_sign : yX8_sign.cls = yX8_sign.cls ∧ yX8_sign.cls ≠ "java/lang/invoke/MethodHandle" ∧ yX8_sign.cls ≠ "java/lang/invoke/VarHandle" ∧ (parseMethodDescriptor yX8_sign.desc).map (fun d => d.parameters.length) = some 1 := by decide +kernel
theorem mI_X8_sign : Cond.instanceMethod yX8_sign ∈ GW := GW_3 233 rfl rfl
theorem mV_X8_sign : Cond.selects yX8_sign.cls yX8_sign yX8_sign ∈ GW := GW_3 234 rfl rfl
theorem ml_X1_38 : Cond.methodLink RX1 38 yX8_sign ∈ GW := GW_4 165 rfl rfl
theorem cl_X1_38 : Cond.methodLink RX1 38 yX8_sign ∈ GW ∧ Cond.instanceMethod yX8_sign ∈ GW ∧ Cond.selects yX8_sign.cls yX8_sign yX8_sign ∈ GW ∧ Cond.initialized yX8_sign.cls ∈ GW ∧ Cond.code yX8_sign cX8_sign 2 none ∈ GW := ⟨ml_X1_38, mI_X8_sign, mV_X8_sign, mN_X8, mC_X8_sign⟩
theorem mC_X2_add : Cond.code yX2_add cX2_add 4 (some .int) ∈ GW := GW_4 11 rfl rfl
theorem hy_X2_add : yX2_add.cls = yX2_add.cls ∧ yX2_add.cls ≠ "java/lang/invoke/MethodHandle" ∧ yX2_add.cls ≠ "java/lang/invoke/VarHandle" ∧ (parseMethodDescriptor yX2_add.desc).map (fun d => d.parameters.length) = some 3 := by decide +kernel
theorem mI_X2_add : Cond.instanceMethod yX2_add ∈ GW := GW_4 10 rfl rfl
theorem mV_X2_add : Cond.selects yX2_add.cls yX2_add yX2_add ∈ GW := GW_p 19 rfl rfl
theorem ml_X2_31 : Cond.methodLink RX2 31 yX2_add ∈ GW := GW_4 8 rfl rfl
theorem cl_X2_31 : Cond.methodLink RX2 31 yX2_add ∈ GW ∧ Cond.instanceMethod yX2_add ∈ GW ∧ Cond.selects yX2_add.cls yX2_add yX2_add ∈ GW ∧ Cond.initialized yX2_add.cls ∈ GW ∧ Cond.code yX2_add cX2_add 4 (some .int) ∈ GW := ⟨ml_X2_31, mI_X2_add, mV_X2_add, mN_X2, mC_X2_add⟩
theorem mC_X2_sum : Cond.code yX2_sum cX2_sum 6 (some .int) ∈ GW := GW_4 38 rfl rfl
theorem hy_X2_sum : yX2_sum.cls = yX2_sum.cls ∧ yX2_sum.cls ≠ "java/lang/invoke/MethodHandle" ∧ yX2_sum.cls ≠ "java/lang/invoke/VarHandle" ∧ (parseMethodDescriptor yX2_sum.desc).map (fun d => d.parameters.length) = some 2 := by decide +kernel
theorem mI_X2_sum : Cond.instanceMethod yX2_sum ∈ GW := GW_4 37 rfl rfl
theorem mV_X2_sum : Cond.selects yX2_sum.cls yX2_sum yX2_sum ∈ GW := GW_p 20 rfl rfl
theorem ml_X2_35 : Cond.methodLink RX2 35 yX2_sum ∈ GW := GW_4 35 rfl rfl
theorem cl_X2_35 : Cond.methodLink RX2 35 yX2_sum ∈ GW ∧ Cond.instanceMethod yX2_sum ∈ GW ∧ Cond.selects yX2_sum.cls yX2_sum yX2_sum ∈ GW ∧ Cond.initialized yX2_sum.cls ∈ GW ∧ Cond.code yX2_sum cX2_sum 6 (some .int) ∈ GW := ⟨ml_X2_35, mI_X2_sum, mV_X2_sum, mN_X2, mC_X2_sum⟩
theorem ml_X2_39 : Cond.methodLink RX2 39 yX8_more ∈ GW := GW_4 74 rfl rfl
theorem cl_X2_39 : Cond.methodLink RX2 39 yX8_more ∈ GW ∧ Cond.instanceMethod yX8_more ∈ GW ∧ Cond.selects yX8_more.cls yX8_more yX8_more ∈ GW ∧ Cond.initialized yX8_more.cls ∈ GW ∧ Cond.code yX8_more cX8_more 1 (some .boolean) ∈ GW := ⟨ml_X2_39, mI_X8_more, mV_X8_more, mN_X8, mC_X8_more⟩
theorem ml_X2_48 : Cond.methodLink RX2 48 yX8_fail ∈ GW := GW_4 53 rfl rfl
theorem cl_X2_48 : Cond.methodLink RX2 48 yX8_fail ∈ GW ∧ Cond.instanceMethod yX8_fail ∈ GW ∧ Cond.selects yX8_fail.cls yX8_fail yX8_fail ∈ GW ∧ Cond.initialized yX8_fail.cls ∈ GW ∧ Cond.code yX8_fail cX8_fail 3 none ∈ GW := ⟨ml_X2_48, mI_X8_fail, mV_X8_fail, mN_X8, mC_X8_fail⟩
theorem mC_X2_product : Cond.code yX2_product cX2_product 6 (some .int) ∈ GW := GW_4 42 rfl rfl
theorem hy_X2_product : yX2_product.cls = yX2_product.cls ∧ yX2_product.cls ≠ "java/lang/invoke/MethodHandle" ∧ yX2_product.cls ≠ "java/lang/invoke/VarHandle" ∧ (parseMethodDescriptor yX2_product.desc).map (fun d => d.parameters.length) = some 2 := by decide +kernel
theorem mI_X2_product : Cond.instanceMethod yX2_product ∈ GW := GW_4 41 rfl rfl
theorem mV_X2_product : Cond.selects yX2_product.cls yX2_product yX2_product ∈ GW := GW_p 21 rfl rfl
theorem ml_X2_52 : Cond.methodLink RX2 52 yX2_product ∈ GW := GW_4 39 rfl rfl
theorem cl_X2_52 : Cond.methodLink RX2 52 yX2_product ∈ GW ∧ Cond.instanceMethod yX2_product ∈ GW ∧ Cond.selects yX2_product.cls yX2_product yX2_product ∈ GW ∧ Cond.initialized yX2_product.cls ∈ GW ∧ Cond.code yX2_product cX2_product 6 (some .int) ∈ GW := ⟨ml_X2_52, mI_X2_product, mV_X2_product, mN_X2, mC_X2_product⟩
theorem mC_X8_peek : Cond.code yX8_peek cX8_peek 1 (some .int) ∈ GW := GW_3 141 rfl rfl
theorem hy_X8_peek : yX8_peek.cls = yX8_peek.cls ∧ yX8_peek.cls ≠ "java/lang/invoke/MethodHandle" ∧ yX8_peek.cls ≠ "java/lang/invoke/VarHandle" ∧ (parseMethodDescriptor yX8_peek.desc).map (fun d => d.parameters.length) = some 0 := by decide +kernel
theorem mI_X8_peek : Cond.instanceMethod yX8_peek ∈ GW := GW_3 139 rfl rfl
theorem mV_X8_peek : Cond.selects yX8_peek.cls yX8_peek yX8_peek ∈ GW := GW_3 140 rfl rfl
theorem ml_X2_55 : Cond.methodLink RX2 55 yX8_peek ∈ GW := GW_4 47 rfl rfl
theorem cl_X2_55 : Cond.methodLink RX2 55 yX8_peek ∈ GW ∧ Cond.instanceMethod yX8_peek ∈ GW ∧ Cond.selects yX8_peek.cls yX8_peek yX8_peek ∈ GW ∧ Cond.initialized yX8_peek.cls ∈ GW ∧ Cond.code yX8_peek cX8_peek 1 (some .int) ∈ GW := ⟨ml_X2_55, mI_X8_peek, mV_X8_peek, mN_X8, mC_X8_peek⟩
theorem ml_X2_59 : Cond.methodLink RX2 59 yX8_sign ∈ GW := GW_4 54 rfl rfl
theorem cl_X2_59 : Cond.methodLink RX2 59 yX8_sign ∈ GW ∧ Cond.instanceMethod yX8_sign ∈ GW ∧ Cond.selects yX8_sign.cls yX8_sign yX8_sign ∈ GW ∧ Cond.initialized yX8_sign.cls ∈ GW ∧ Cond.code yX8_sign cX8_sign 2 none ∈ GW := ⟨ml_X2_59, mI_X8_sign, mV_X8_sign, mN_X8, mC_X8_sign⟩
theorem mC_X2_unit : Cond.code yX2_unit cX2_unit 5 (some .int) ∈ GW := GW_4 46 rfl rfl
theorem hy_X2_unit : yX2_unit.cls = yX2_unit.cls ∧ yX2_unit.cls ≠ "java/lang/invoke/MethodHandle" ∧ yX2_unit.cls ≠ "java/lang/invoke/VarHandle" ∧ (parseMethodDescriptor yX2_unit.desc).map (fun d => d.parameters.length) = some 2 := by decide +kernel
theorem mI_X2_unit : Cond.instanceMethod yX2_unit ∈ GW := GW_4 45 rfl rfl
theorem mV_X2_unit : Cond.selects yX2_unit.cls yX2_unit yX2_unit ∈ GW := GW_p 22 rfl rfl
theorem ml_X2_63 : Cond.methodLink RX2 63 yX2_unit ∈ GW := GW_4 43 rfl rfl
theorem cl_X2_63 : Cond.methodLink RX2 63 yX2_unit ∈ GW ∧ Cond.instanceMethod yX2_unit ∈ GW ∧ Cond.selects yX2_unit.cls yX2_unit yX2_unit ∈ GW ∧ Cond.initialized yX2_unit.cls ∈ GW ∧ Cond.code yX2_unit cX2_unit 5 (some .int) ∈ GW := ⟨ml_X2_63, mI_X2_unit, mV_X2_unit, mN_X2, mC_X2_unit⟩
theorem ml_X2_66 : Cond.methodLink RX2 66 yX8_figure ∈ GW := GW_4 48 rfl rfl
theorem cl_X2_66 : Cond.methodLink RX2 66 yX8_figure ∈ GW ∧ Cond.instanceMethod yX8_figure ∈ GW ∧ Cond.selects yX8_figure.cls yX8_figure yX8_figure ∈ GW ∧ Cond.initialized yX8_figure.cls ∈ GW ∧ Cond.code yX8_figure cX8_figure 4 (some .int) ∈ GW := ⟨ml_X2_66, mI_X8_figure, mV_X8_figure, mN_X8, mC_X8_figure⟩
theorem mC_X2_inner : Cond.code yX2_inner cX2_inner 4 (some .int) ∈ GW := GW_4 52 rfl rfl
theorem hy_X2_inner : yX2_inner.cls = yX2_inner.cls ∧ yX2_inner.cls ≠ "java/lang/invoke/MethodHandle" ∧ yX2_inner.cls ≠ "java/lang/invoke/VarHandle" ∧ (parseMethodDescriptor yX2_inner.desc).map (fun d => d.parameters.length) = some 2 := by decide +kernel
theorem mI_X2_inner : Cond.instanceMethod yX2_inner ∈ GW := GW_4 51 rfl rfl
theorem mV_X2_inner : Cond.selects yX2_inner.cls yX2_inner yX2_inner ∈ GW := GW_p 23 rfl rfl
theorem ml_X2_70 : Cond.methodLink RX2 70 yX2_inner ∈ GW := GW_4 49 rfl rfl
theorem cl_X2_70 : Cond.methodLink RX2 70 yX2_inner ∈ GW ∧ Cond.instanceMethod yX2_inner ∈ GW ∧ Cond.selects yX2_inner.cls yX2_inner yX2_inner ∈ GW ∧ Cond.initialized yX2_inner.cls ∈ GW ∧ Cond.code yX2_inner cX2_inner 4 (some .int) ∈ GW := ⟨ml_X2_70, mI_X2_inner, mV_X2_inner, mN_X2, mC_X2_inner⟩
theorem mC_X8_word : Cond.code yX8_word cX8_word 1 none ∈ GW := GW_3 149 rfl rfl
theorem hy_X8_word : yX8_word.cls = yX8_word.cls ∧ yX8_word.cls ≠ "java/lang/invoke/MethodHandle" ∧ yX8_word.cls ≠ "java/lang/invoke/VarHandle" ∧ (parseMethodDescriptor yX8_word.desc).map (fun d => d.parameters.length) = some 0 := by decide +kernel
theorem mI_X8_word : Cond.instanceMethod yX8_word ∈ GW := GW_3 147 rfl rfl
theorem mV_X8_word : Cond.selects yX8_word.cls yX8_word yX8_word ∈ GW := GW_3 148 rfl rfl
theorem ml_X2_73 : Cond.methodLink RX2 73 yX8_word ∈ GW := GW_4 55 rfl rfl
theorem cl_X2_73 : Cond.methodLink RX2 73 yX8_word ∈ GW ∧ Cond.instanceMethod yX8_word ∈ GW ∧ Cond.selects yX8_word.cls yX8_word yX8_word ∈ GW ∧ Cond.initialized yX8_word.cls ∈ GW ∧ Cond.code yX8_word cX8_word 1 none ∈ GW := ⟨ml_X2_73, mI_X8_word, mV_X8_word, mN_X8, mC_X8_word⟩
theorem mC_X8_says : Cond.code yX8_says cX8_says 3 (some .boolean) ∈ GW := GW_3 154 rfl rfl
theorem hy_X8_says : yX8_says.cls = yX8_says.cls ∧ yX8_says.cls ≠ "java/lang/invoke/MethodHandle" ∧ yX8_says.cls ≠ "java/lang/invoke/VarHandle" ∧ (parseMethodDescriptor yX8_says.desc).map (fun d => d.parameters.length) = some 1 := by decide +kernel
theorem mI_X8_says : Cond.instanceMethod yX8_says ∈ GW := GW_3 152 rfl rfl
theorem mV_X8_says : Cond.selects yX8_says.cls yX8_says yX8_says ∈ GW := GW_3 153 rfl rfl
theorem ml_X2_78 : Cond.methodLink RX2 78 yX8_says ∈ GW := GW_4 57 rfl rfl
theorem cl_X2_78 : Cond.methodLink RX2 78 yX8_says ∈ GW ∧ Cond.instanceMethod yX8_says ∈ GW ∧ Cond.selects yX8_says.cls yX8_says yX8_says ∈ GW ∧ Cond.initialized yX8_says.cls ∈ GW ∧ Cond.code yX8_says cX8_says 3 (some .boolean) ∈ GW := ⟨ml_X2_78, mI_X8_says, mV_X8_says, mN_X8, mC_X8_says⟩
theorem mC_X2_pair : Cond.code yX2_pair cX2_pair 6 (some .int) ∈ GW := GW_4 61 rfl rfl
theorem hy_X2_pair : yX2_pair.cls = yX2_pair.cls ∧ yX2_pair.cls ≠ "java/lang/invoke/MethodHandle" ∧ yX2_pair.cls ≠ "java/lang/invoke/VarHandle" ∧ (parseMethodDescriptor yX2_pair.desc).map (fun d => d.parameters.length) = some 3 := by decide +kernel
theorem mI_X2_pair : Cond.instanceMethod yX2_pair ∈ GW := GW_4 60 rfl rfl
theorem mV_X2_pair : Cond.selects yX2_pair.cls yX2_pair yX2_pair ∈ GW := GW_p 24 rfl rfl
theorem ml_X2_82 : Cond.methodLink RX2 82 yX2_pair ∈ GW := GW_4 58 rfl rfl
theorem cl_X2_82 : Cond.methodLink RX2 82 yX2_pair ∈ GW ∧ Cond.instanceMethod yX2_pair ∈ GW ∧ Cond.selects yX2_pair.cls yX2_pair yX2_pair ∈ GW ∧ Cond.initialized yX2_pair.cls ∈ GW ∧ Cond.code yX2_pair cX2_pair 6 (some .int) ∈ GW := ⟨ml_X2_82, mI_X2_pair, mV_X2_pair, mN_X2, mC_X2_pair⟩
theorem mC_X2_factNamed : Cond.code yX2_factNamed cX2_factNamed 1 (some .int) ∈ GW := GW_4 65 rfl rfl
theorem hy_X2_factNamed : yX2_factNamed.cls = yX2_factNamed.cls ∧ yX2_factNamed.cls ≠ "java/lang/invoke/MethodHandle" ∧ yX2_factNamed.cls ≠ "java/lang/invoke/VarHandle" ∧ (parseMethodDescriptor yX2_factNamed.desc).map (fun d => d.parameters.length) = some 1 := by decide +kernel
theorem mS_X2_factNamed : Cond.static yX2_factNamed ∈ GW := GW_4 64 rfl rfl
theorem ml_X2_88 : Cond.methodLink RX2 88 yX2_factNamed ∈ GW := GW_4 63 rfl rfl
theorem cl_X2_88 : Cond.methodLink RX2 88 yX2_factNamed ∈ GW ∧ Cond.static yX2_factNamed ∈ GW ∧ Cond.initialized yX2_factNamed.cls ∈ GW ∧ Cond.code yX2_factNamed cX2_factNamed 1 (some .int) ∈ GW := ⟨ml_X2_88, mS_X2_factNamed, mN_X2, mC_X2_factNamed⟩
theorem mC_X2_joined : Cond.code yX2_joined cX2_joined 3 (some .int) ∈ GW := GW_2 204 rfl rfl
theorem hy_X2_joined : yX2_joined.cls = yX2_joined.cls ∧ yX2_joined.cls ≠ "java/lang/invoke/MethodHandle" ∧ yX2_joined.cls ≠ "java/lang/invoke/VarHandle" ∧ (parseMethodDescriptor yX2_joined.desc).map (fun d => d.parameters.length) = some 3 := by decide +kernel
theorem mS_X2_joined : Cond.static yX2_joined ∈ GW := GW_2 203 rfl rfl
theorem ml_X2_111 : Cond.methodLink RX2 111 yX2_joined ∈ GW := GW_2 202 rfl rfl
theorem cl_X2_111 : Cond.methodLink RX2 111 yX2_joined ∈ GW ∧ Cond.static yX2_joined ∈ GW ∧ Cond.initialized yX2_joined.cls ∈ GW ∧ Cond.code yX2_joined cX2_joined 3 (some .int) ∈ GW := ⟨ml_X2_111, mS_X2_joined, mN_X2, mC_X2_joined⟩
theorem mC_X6_begin : Cond.code yX6_begin cX6_begin 3 none ∈ GW := GW_4 23 rfl rfl
theorem hy_X6_begin : yX6_begin.cls = yX6_begin.cls ∧ yX6_begin.cls ≠ "java/lang/invoke/MethodHandle" ∧ yX6_begin.cls ≠ "java/lang/invoke/VarHandle" ∧ (parseMethodDescriptor yX6_begin.desc).map (fun d => d.parameters.length) = some 1 := by decide +kernel
theorem mI_X6_begin : Cond.instanceMethod yX6_begin ∈ GW := GW_4 21 rfl rfl
theorem mV_X6_begin : Cond.selects yX6_begin.cls yX6_begin yX6_begin ∈ GW := GW_4 22 rfl rfl
theorem ml_X3_26 : Cond.methodLink RX3 26 yX6_begin ∈ GW := GW_4 20 rfl rfl
theorem cl_X3_26 : Cond.methodLink RX3 26 yX6_begin ∈ GW ∧ Cond.instanceMethod yX6_begin ∈ GW ∧ Cond.selects yX6_begin.cls yX6_begin yX6_begin ∈ GW ∧ Cond.initialized yX6_begin.cls ∈ GW ∧ Cond.code yX6_begin cX6_begin 3 none ∈ GW := ⟨ml_X3_26, mI_X6_begin, mV_X6_begin, mN_X6, mC_X6_begin⟩
theorem ml_X3_30 : Cond.methodLink RX3 30 yX6_become ∈ GW := GW_2 152 rfl rfl
theorem cl_X3_30 : Cond.methodLink RX3 30 yX6_become ∈ GW ∧ Cond.instanceMethod yX6_become ∈ GW ∧ Cond.selects yX6_become.cls yX6_become yX6_become ∈ GW ∧ Cond.initialized yX6_become.cls ∈ GW ∧ Cond.code yX6_become cX6_become 2 none ∈ GW := ⟨ml_X3_30, mI_X6_become, mV_X6_become, mN_X6, mC_X6_become⟩
theorem mC_X4_readSteps : Cond.code yX4_readSteps cX4_readSteps 5 none ∈ GW := GW_4 89 rfl rfl
theorem hy_X4_readSteps : yX4_readSteps.cls = yX4_readSteps.cls ∧ yX4_readSteps.cls ≠ "java/lang/invoke/MethodHandle" ∧ yX4_readSteps.cls ≠ "java/lang/invoke/VarHandle" ∧ (parseMethodDescriptor yX4_readSteps.desc).map (fun d => d.parameters.length) = some 3 := by decide +kernel
theorem mI_X4_readSteps : Cond.instanceMethod yX4_readSteps ∈ GW := GW_4 88 rfl rfl
theorem mV_X4_readSteps : Cond.selects yX4_readSteps.cls yX4_readSteps yX4_readSteps ∈ GW := GW_p 25 rfl rfl
theorem ml_X4_37 : Cond.methodLink RX4 37 yX4_readSteps ∈ GW := GW_4 86 rfl rfl
theorem cl_X4_37 : Cond.methodLink RX4 37 yX4_readSteps ∈ GW ∧ Cond.instanceMethod yX4_readSteps ∈ GW ∧ Cond.selects yX4_readSteps.cls yX4_readSteps yX4_readSteps ∈ GW ∧ Cond.initialized yX4_readSteps.cls ∈ GW ∧ Cond.code yX4_readSteps cX4_readSteps 5 none ∈ GW := ⟨ml_X4_37, mI_X4_readSteps, mV_X4_readSteps, mN_X4, mC_X4_readSteps⟩
theorem ml_X4_41 : Cond.methodLink RX4 41 yX8_more ∈ GW := GW_4 90 rfl rfl
theorem cl_X4_41 : Cond.methodLink RX4 41 yX8_more ∈ GW ∧ Cond.instanceMethod yX8_more ∈ GW ∧ Cond.selects yX8_more.cls yX8_more yX8_more ∈ GW ∧ Cond.initialized yX8_more.cls ∈ GW ∧ Cond.code yX8_more cX8_more 1 (some .boolean) ∈ GW := ⟨ml_X4_41, mI_X8_more, mV_X8_more, mN_X8, mC_X8_more⟩
theorem ml_X4_50 : Cond.methodLink RX4 50 yX8_fail ∈ GW := GW_4 109 rfl rfl
theorem cl_X4_50 : Cond.methodLink RX4 50 yX8_fail ∈ GW ∧ Cond.instanceMethod yX8_fail ∈ GW ∧ Cond.selects yX8_fail.cls yX8_fail yX8_fail ∈ GW ∧ Cond.initialized yX8_fail.cls ∈ GW ∧ Cond.code yX8_fail cX8_fail 3 none ∈ GW := ⟨ml_X4_50, mI_X8_fail, mV_X8_fail, mN_X8, mC_X8_fail⟩
theorem ml_X4_54 : Cond.methodLink RX4 54 yX8_peek ∈ GW := GW_4 91 rfl rfl
theorem cl_X4_54 : Cond.methodLink RX4 54 yX8_peek ∈ GW ∧ Cond.instanceMethod yX8_peek ∈ GW ∧ Cond.selects yX8_peek.cls yX8_peek yX8_peek ∈ GW ∧ Cond.initialized yX8_peek.cls ∈ GW ∧ Cond.code yX8_peek cX8_peek 1 (some .int) ∈ GW := ⟨ml_X4_54, mI_X8_peek, mV_X8_peek, mN_X8, mC_X8_peek⟩
theorem mC_X4_readStep : Cond.code yX4_readStep cX4_readStep 6 none ∈ GW := GW_4 95 rfl rfl
theorem hy_X4_readStep : yX4_readStep.cls = yX4_readStep.cls ∧ yX4_readStep.cls ≠ "java/lang/invoke/MethodHandle" ∧ yX4_readStep.cls ≠ "java/lang/invoke/VarHandle" ∧ (parseMethodDescriptor yX4_readStep.desc).map (fun d => d.parameters.length) = some 3 := by decide +kernel
theorem mI_X4_readStep : Cond.instanceMethod yX4_readStep ∈ GW := GW_4 94 rfl rfl
theorem mV_X4_readStep : Cond.selects yX4_readStep.cls yX4_readStep yX4_readStep ∈ GW := GW_p 26 rfl rfl
theorem ml_X4_58 : Cond.methodLink RX4 58 yX4_readStep ∈ GW := GW_4 92 rfl rfl
theorem cl_X4_58 : Cond.methodLink RX4 58 yX4_readStep ∈ GW ∧ Cond.instanceMethod yX4_readStep ∈ GW ∧ Cond.selects yX4_readStep.cls yX4_readStep yX4_readStep ∈ GW ∧ Cond.initialized yX4_readStep.cls ∈ GW ∧ Cond.code yX4_readStep cX4_readStep 6 none ∈ GW := ⟨ml_X4_58, mI_X4_readStep, mV_X4_readStep, mN_X4, mC_X4_readStep⟩
theorem ml_X4_61 : Cond.methodLink RX4 61 yX8_word ∈ GW := GW_4 96 rfl rfl
theorem cl_X4_61 : Cond.methodLink RX4 61 yX8_word ∈ GW ∧ Cond.instanceMethod yX8_word ∈ GW ∧ Cond.selects yX8_word.cls yX8_word yX8_word ∈ GW ∧ Cond.initialized yX8_word.cls ∈ GW ∧ Cond.code yX8_word cX8_word 1 none ∈ GW := ⟨ml_X4_61, mI_X8_word, mV_X8_word, mN_X8, mC_X8_word⟩
theorem mC_X4_stepNamed : Cond.code yX4_stepNamed cX4_stepNamed 1 (some .int) ∈ GW := GW_4 99 rfl rfl
theorem hy_X4_stepNamed : yX4_stepNamed.cls = yX4_stepNamed.cls ∧ yX4_stepNamed.cls ≠ "java/lang/invoke/MethodHandle" ∧ yX4_stepNamed.cls ≠ "java/lang/invoke/VarHandle" ∧ (parseMethodDescriptor yX4_stepNamed.desc).map (fun d => d.parameters.length) = some 1 := by decide +kernel
theorem mS_X4_stepNamed : Cond.static yX4_stepNamed ∈ GW := GW_4 98 rfl rfl
theorem ml_X4_64 : Cond.methodLink RX4 64 yX4_stepNamed ∈ GW := GW_4 97 rfl rfl
theorem cl_X4_64 : Cond.methodLink RX4 64 yX4_stepNamed ∈ GW ∧ Cond.static yX4_stepNamed ∈ GW ∧ Cond.initialized yX4_stepNamed.cls ∈ GW ∧ Cond.code yX4_stepNamed cX4_stepNamed 1 (some .int) ∈ GW := ⟨ml_X4_64, mS_X4_stepNamed, mN_X4, mC_X4_stepNamed⟩
theorem mC_X4_mostOf : Cond.code yX4_mostOf cX4_mostOf 2 (some .int) ∈ GW := GW_4 112 rfl rfl
theorem hy_X4_mostOf : yX4_mostOf.cls = yX4_mostOf.cls ∧ yX4_mostOf.cls ≠ "java/lang/invoke/MethodHandle" ∧ yX4_mostOf.cls ≠ "java/lang/invoke/VarHandle" ∧ (parseMethodDescriptor yX4_mostOf.desc).map (fun d => d.parameters.length) = some 2 := by decide +kernel
theorem mS_X4_mostOf : Cond.static yX4_mostOf ∈ GW := GW_4 111 rfl rfl
theorem ml_X4_71 : Cond.methodLink RX4 71 yX4_mostOf ∈ GW := GW_4 110 rfl rfl
theorem cl_X4_71 : Cond.methodLink RX4 71 yX4_mostOf ∈ GW ∧ Cond.static yX4_mostOf ∈ GW ∧ Cond.initialized yX4_mostOf.cls ∈ GW ∧ Cond.code yX4_mostOf cX4_mostOf 2 (some .int) ∈ GW := ⟨ml_X4_71, mS_X4_mostOf, mN_X4, mC_X4_mostOf⟩
theorem ml_X4_75 : Cond.methodLink RX4 75 yX8_figure ∈ GW := GW_4 113 rfl rfl
theorem cl_X4_75 : Cond.methodLink RX4 75 yX8_figure ∈ GW ∧ Cond.instanceMethod yX8_figure ∈ GW ∧ Cond.selects yX8_figure.cls yX8_figure yX8_figure ∈ GW ∧ Cond.initialized yX8_figure.cls ∈ GW ∧ Cond.code yX8_figure cX8_figure 4 (some .int) ∈ GW := ⟨ml_X4_75, mI_X8_figure, mV_X8_figure, mN_X8, mC_X8_figure⟩
theorem ml_X4_79 : Cond.methodLink RX4 79 yX8_sign ∈ GW := GW_4 114 rfl rfl
theorem cl_X4_79 : Cond.methodLink RX4 79 yX8_sign ∈ GW ∧ Cond.instanceMethod yX8_sign ∈ GW ∧ Cond.selects yX8_sign.cls yX8_sign yX8_sign ∈ GW ∧ Cond.initialized yX8_sign.cls ∈ GW ∧ Cond.code yX8_sign cX8_sign 2 none ∈ GW := ⟨ml_X4_79, mI_X8_sign, mV_X8_sign, mN_X8, mC_X8_sign⟩
theorem ml_X4_85 : Cond.methodLink RX4 85 yX8_says ∈ GW := GW_4 101 rfl rfl
theorem cl_X4_85 : Cond.methodLink RX4 85 yX8_says ∈ GW ∧ Cond.instanceMethod yX8_says ∈ GW ∧ Cond.selects yX8_says.cls yX8_says yX8_says ∈ GW ∧ Cond.initialized yX8_says.cls ∈ GW ∧ Cond.code yX8_says cX8_says 3 (some .boolean) ∈ GW := ⟨ml_X4_85, mI_X8_says, mV_X8_says, mN_X8, mC_X8_says⟩
theorem ml_X4_110 : Cond.methodLink RX4 110 yX4_perform ∈ GW := GW_4 123 rfl rfl
theorem cl_X4_110 : Cond.methodLink RX4 110 yX4_perform ∈ GW ∧ Cond.instanceMethod yX4_perform ∈ GW ∧ Cond.selects yX4_perform.cls yX4_perform yX4_perform ∈ GW ∧ Cond.initialized yX4_perform.cls ∈ GW ∧ Cond.code yX4_perform cX4_perform 7 none ∈ GW := ⟨ml_X4_110, mI_X4_perform, mV_X4_perform, mN_X4, mC_X4_perform⟩
theorem mC_X4_doStep : Cond.code yX4_doStep cX4_doStep 4 (some .boolean) ∈ GW := GW_4 127 rfl rfl
theorem hy_X4_doStep : yX4_doStep.cls = yX4_doStep.cls ∧ yX4_doStep.cls ≠ "java/lang/invoke/MethodHandle" ∧ yX4_doStep.cls ≠ "java/lang/invoke/VarHandle" ∧ (parseMethodDescriptor yX4_doStep.desc).map (fun d => d.parameters.length) = some 3 := by decide +kernel
theorem mI_X4_doStep : Cond.instanceMethod yX4_doStep ∈ GW := GW_4 126 rfl rfl
theorem mV_X4_doStep : Cond.selects yX4_doStep.cls yX4_doStep yX4_doStep ∈ GW := GW_p 27 rfl rfl
theorem ml_X4_114 : Cond.methodLink RX4 114 yX4_doStep ∈ GW := GW_4 124 rfl rfl
theorem cl_X4_114 : Cond.methodLink RX4 114 yX4_doStep ∈ GW ∧ Cond.instanceMethod yX4_doStep ∈ GW ∧ Cond.selects yX4_doStep.cls yX4_doStep yX4_doStep ∈ GW ∧ Cond.initialized yX4_doStep.cls ∈ GW ∧ Cond.code yX4_doStep cX4_doStep 4 (some .boolean) ∈ GW := ⟨ml_X4_114, mI_X4_doStep, mV_X4_doStep, mN_X4, mC_X4_doStep⟩
theorem ml_X4_118 : Cond.methodLink RX4 118 yX7_singNote ∈ GW := GW_4 128 rfl rfl
theorem cl_X4_118 : Cond.methodLink RX4 118 yX7_singNote ∈ GW ∧ Cond.instanceMethod yX7_singNote ∈ GW ∧ Cond.selects yX7_singNote.cls yX7_singNote yX7_singNote ∈ GW ∧ Cond.initialized yX7_singNote.cls ∈ GW ∧ Cond.code yX7_singNote cX7_singNote 5 (some .int) ∈ GW := ⟨ml_X4_118, mI_X7_singNote, mV_X7_singNote, mN_X7, mC_X7_singNote⟩
theorem ml_X4_124 : Cond.methodLink RX4 124 yX7_singHymn ∈ GW := GW_4 129 rfl rfl
theorem cl_X4_124 : Cond.methodLink RX4 124 yX7_singHymn ∈ GW ∧ Cond.instanceMethod yX7_singHymn ∈ GW ∧ Cond.selects yX7_singHymn.cls yX7_singHymn yX7_singHymn ∈ GW ∧ Cond.initialized yX7_singHymn.cls ∈ GW ∧ Cond.code yX7_singHymn cX7_singHymn 4 (some .int) ∈ GW := ⟨ml_X4_124, mI_X7_singHymn, mV_X7_singHymn, mN_X7, mC_X7_singHymn⟩
theorem ml_X4_128 : Cond.methodLink RX4 128 yX7_rest ∈ GW := GW_4 130 rfl rfl
theorem cl_X4_128 : Cond.methodLink RX4 128 yX7_rest ∈ GW ∧ Cond.instanceMethod yX7_rest ∈ GW ∧ Cond.selects yX7_rest.cls yX7_rest yX7_rest ∈ GW ∧ Cond.initialized yX7_rest.cls ∈ GW ∧ Cond.code yX7_rest cX7_rest 4 (some .boolean) ∈ GW := ⟨ml_X4_128, mI_X7_rest, mV_X7_rest, mN_X7, mC_X7_rest⟩
theorem mC_X6_turn : Cond.code yX6_turn cX6_turn 3 (some .boolean) ∈ GW := GW_4 140 rfl rfl
theorem hy_X6_turn : yX6_turn.cls = yX6_turn.cls ∧ yX6_turn.cls ≠ "java/lang/invoke/MethodHandle" ∧ yX6_turn.cls ≠ "java/lang/invoke/VarHandle" ∧ (parseMethodDescriptor yX6_turn.desc).map (fun d => d.parameters.length) = some 2 := by decide +kernel
theorem mI_X6_turn : Cond.instanceMethod yX6_turn ∈ GW := GW_4 138 rfl rfl
theorem mV_X6_turn : Cond.selects yX6_turn.cls yX6_turn yX6_turn ∈ GW := GW_4 139 rfl rfl
theorem ml_X4_131 : Cond.methodLink RX4 131 yX6_turn ∈ GW := GW_4 137 rfl rfl
theorem cl_X4_131 : Cond.methodLink RX4 131 yX6_turn ∈ GW ∧ Cond.instanceMethod yX6_turn ∈ GW ∧ Cond.selects yX6_turn.cls yX6_turn yX6_turn ∈ GW ∧ Cond.initialized yX6_turn.cls ∈ GW ∧ Cond.code yX6_turn cX6_turn 3 (some .boolean) ∈ GW := ⟨ml_X4_131, mI_X6_turn, mV_X6_turn, mN_X6, mC_X6_turn⟩
theorem mC_X7_reword : Cond.code yX7_reword cX7_reword 4 (some .boolean) ∈ GW := GW_4 144 rfl rfl
theorem hy_X7_reword : yX7_reword.cls = yX7_reword.cls ∧ yX7_reword.cls ≠ "java/lang/invoke/MethodHandle" ∧ yX7_reword.cls ≠ "java/lang/invoke/VarHandle" ∧ (parseMethodDescriptor yX7_reword.desc).map (fun d => d.parameters.length) = some 3 := by decide +kernel
theorem mI_X7_reword : Cond.instanceMethod yX7_reword ∈ GW := GW_4 142 rfl rfl
theorem mV_X7_reword : Cond.selects yX7_reword.cls yX7_reword yX7_reword ∈ GW := GW_4 143 rfl rfl
theorem ml_X4_137 : Cond.methodLink RX4 137 yX7_reword ∈ GW := GW_4 141 rfl rfl
theorem cl_X4_137 : Cond.methodLink RX4 137 yX7_reword ∈ GW ∧ Cond.instanceMethod yX7_reword ∈ GW ∧ Cond.selects yX7_reword.cls yX7_reword yX7_reword ∈ GW ∧ Cond.initialized yX7_reword.cls ∈ GW ∧ Cond.code yX7_reword cX7_reword 4 (some .boolean) ∈ GW := ⟨ml_X4_137, mI_X7_reword, mV_X7_reword, mN_X7, mC_X7_reword⟩
theorem ml_X4_143 : Cond.methodLink RX4 143 yX7_nextDay ∈ GW := GW_4 145 rfl rfl
theorem cl_X4_143 : Cond.methodLink RX4 143 yX7_nextDay ∈ GW ∧ Cond.instanceMethod yX7_nextDay ∈ GW ∧ Cond.selects yX7_nextDay.cls yX7_nextDay yX7_nextDay ∈ GW ∧ Cond.initialized yX7_nextDay.cls ∈ GW ∧ Cond.code yX7_nextDay cX7_nextDay 3 (some .boolean) ∈ GW := ⟨ml_X4_143, mI_X7_nextDay, mV_X7_nextDay, mN_X7, mC_X7_nextDay⟩
theorem ml_X5_49 : Cond.methodLink RX5 49 yX8_more ∈ GW := GW_3 134 rfl rfl
theorem cl_X5_49 : Cond.methodLink RX5 49 yX8_more ∈ GW ∧ Cond.instanceMethod yX8_more ∈ GW ∧ Cond.selects yX8_more.cls yX8_more yX8_more ∈ GW ∧ Cond.initialized yX8_more.cls ∈ GW ∧ Cond.code yX8_more cX8_more 1 (some .boolean) ∈ GW := ⟨ml_X5_49, mI_X8_more, mV_X8_more, mN_X8, mC_X8_more⟩
theorem mC_X5_readClause : Cond.code yX5_readClause cX5_readClause 3 none ∈ GW := GW_3 145 rfl rfl
theorem hy_X5_readClause : yX5_readClause.cls = yX5_readClause.cls ∧ yX5_readClause.cls ≠ "java/lang/invoke/MethodHandle" ∧ yX5_readClause.cls ≠ "java/lang/invoke/VarHandle" ∧ (parseMethodDescriptor yX5_readClause.desc).map (fun d => d.parameters.length) = some 2 := by decide +kernel
theorem mI_X5_readClause : Cond.instanceMethod yX5_readClause ∈ GW := GW_3 144 rfl rfl
theorem mV_X5_readClause : Cond.selects yX5_readClause.cls yX5_readClause yX5_readClause ∈ GW := GW_p 13 rfl rfl
theorem ml_X5_55 : Cond.methodLink RX5 55 yX5_readClause ∈ GW := GW_3 142 rfl rfl
theorem cl_X5_55 : Cond.methodLink RX5 55 yX5_readClause ∈ GW ∧ Cond.instanceMethod yX5_readClause ∈ GW ∧ Cond.selects yX5_readClause.cls yX5_readClause yX5_readClause ∈ GW ∧ Cond.initialized yX5_readClause.cls ∈ GW ∧ Cond.code yX5_readClause cX5_readClause 3 none ∈ GW := ⟨ml_X5_55, mI_X5_readClause, mV_X5_readClause, mN_X5, mC_X5_readClause⟩
theorem ml_X5_59 : Cond.methodLink RX5 59 yX8_word ∈ GW := GW_3 146 rfl rfl
theorem cl_X5_59 : Cond.methodLink RX5 59 yX8_word ∈ GW ∧ Cond.instanceMethod yX8_word ∈ GW ∧ Cond.selects yX8_word.cls yX8_word yX8_word ∈ GW ∧ Cond.initialized yX8_word.cls ∈ GW ∧ Cond.code yX8_word cX8_word 1 none ∈ GW := ⟨ml_X5_59, mI_X8_word, mV_X8_word, mN_X8, mC_X8_word⟩
theorem ml_X5_64 : Cond.methodLink RX5 64 yX8_says ∈ GW := GW_3 151 rfl rfl
theorem cl_X5_64 : Cond.methodLink RX5 64 yX8_says ∈ GW ∧ Cond.instanceMethod yX8_says ∈ GW ∧ Cond.selects yX8_says.cls yX8_says yX8_says ∈ GW ∧ Cond.initialized yX8_says.cls ∈ GW ∧ Cond.code yX8_says cX8_says 3 (some .boolean) ∈ GW := ⟨ml_X5_64, mI_X8_says, mV_X8_says, mN_X8, mC_X8_says⟩
theorem mC_X5_readSinger : Cond.code yX5_readSinger cX5_readSinger 3 none ∈ GW := GW_3 206 rfl rfl
theorem hy_X5_readSinger : yX5_readSinger.cls = yX5_readSinger.cls ∧ yX5_readSinger.cls ≠ "java/lang/invoke/MethodHandle" ∧ yX5_readSinger.cls ≠ "java/lang/invoke/VarHandle" ∧ (parseMethodDescriptor yX5_readSinger.desc).map (fun d => d.parameters.length) = some 2 := by decide +kernel
theorem mI_X5_readSinger : Cond.instanceMethod yX5_readSinger ∈ GW := GW_3 205 rfl rfl
theorem mV_X5_readSinger : Cond.selects yX5_readSinger.cls yX5_readSinger yX5_readSinger ∈ GW := GW_p 14 rfl rfl
theorem ml_X5_68 : Cond.methodLink RX5 68 yX5_readSinger ∈ GW := GW_3 203 rfl rfl
theorem cl_X5_68 : Cond.methodLink RX5 68 yX5_readSinger ∈ GW ∧ Cond.instanceMethod yX5_readSinger ∈ GW ∧ Cond.selects yX5_readSinger.cls yX5_readSinger yX5_readSinger ∈ GW ∧ Cond.initialized yX5_readSinger.cls ∈ GW ∧ Cond.code yX5_readSinger cX5_readSinger 3 none ∈ GW := ⟨ml_X5_68, mI_X5_readSinger, mV_X5_readSinger, mN_X5, mC_X5_readSinger⟩
theorem mC_X5_readNote : Cond.code yX5_readNote cX5_readNote 3 none ∈ GW := GW_3 221 rfl rfl
theorem hy_X5_readNote : yX5_readNote.cls = yX5_readNote.cls ∧ yX5_readNote.cls ≠ "java/lang/invoke/MethodHandle" ∧ yX5_readNote.cls ≠ "java/lang/invoke/VarHandle" ∧ (parseMethodDescriptor yX5_readNote.desc).map (fun d => d.parameters.length) = some 2 := by decide +kernel
theorem mI_X5_readNote : Cond.instanceMethod yX5_readNote ∈ GW := GW_3 220 rfl rfl
theorem mV_X5_readNote : Cond.selects yX5_readNote.cls yX5_readNote yX5_readNote ∈ GW := GW_p 15 rfl rfl
theorem ml_X5_73 : Cond.methodLink RX5 73 yX5_readNote ∈ GW := GW_3 218 rfl rfl
theorem cl_X5_73 : Cond.methodLink RX5 73 yX5_readNote ∈ GW ∧ Cond.instanceMethod yX5_readNote ∈ GW ∧ Cond.selects yX5_readNote.cls yX5_readNote yX5_readNote ∈ GW ∧ Cond.initialized yX5_readNote.cls ∈ GW ∧ Cond.code yX5_readNote cX5_readNote 3 none ∈ GW := ⟨ml_X5_73, mI_X5_readNote, mV_X5_readNote, mN_X5, mC_X5_readNote⟩
theorem mC_X5_readLike : Cond.code yX5_readLike cX5_readLike 3 none ∈ GW := GW_3 226 rfl rfl
theorem hy_X5_readLike : yX5_readLike.cls = yX5_readLike.cls ∧ yX5_readLike.cls ≠ "java/lang/invoke/MethodHandle" ∧ yX5_readLike.cls ≠ "java/lang/invoke/VarHandle" ∧ (parseMethodDescriptor yX5_readLike.desc).map (fun d => d.parameters.length) = some 2 := by decide +kernel
theorem mI_X5_readLike : Cond.instanceMethod yX5_readLike ∈ GW := GW_3 225 rfl rfl
theorem mV_X5_readLike : Cond.selects yX5_readLike.cls yX5_readLike yX5_readLike ∈ GW := GW_p 16 rfl rfl
theorem ml_X5_78 : Cond.methodLink RX5 78 yX5_readLike ∈ GW := GW_3 223 rfl rfl
theorem cl_X5_78 : Cond.methodLink RX5 78 yX5_readLike ∈ GW ∧ Cond.instanceMethod yX5_readLike ∈ GW ∧ Cond.selects yX5_readLike.cls yX5_readLike yX5_readLike ∈ GW ∧ Cond.initialized yX5_readLike.cls ∈ GW ∧ Cond.code yX5_readLike cX5_readLike 3 none ∈ GW := ⟨ml_X5_78, mI_X5_readLike, mV_X5_readLike, mN_X5, mC_X5_readLike⟩
theorem mC_X5_readRest : Cond.code yX5_readRest cX5_readRest 3 none ∈ GW := GW_3 231 rfl rfl
theorem hy_X5_readRest : yX5_readRest.cls = yX5_readRest.cls ∧ yX5_readRest.cls ≠ "java/lang/invoke/MethodHandle" ∧ yX5_readRest.cls ≠ "java/lang/invoke/VarHandle" ∧ (parseMethodDescriptor yX5_readRest.desc).map (fun d => d.parameters.length) = some 2 := by decide +kernel
theorem mI_X5_readRest : Cond.instanceMethod yX5_readRest ∈ GW := GW_3 230 rfl rfl
theorem mV_X5_readRest : Cond.selects yX5_readRest.cls yX5_readRest yX5_readRest ∈ GW := GW_p 17 rfl rfl
theorem ml_X5_83 : Cond.methodLink RX5 83 yX5_readRest ∈ GW := GW_3 228 rfl rfl
theorem cl_X5_83 : Cond.methodLink RX5 83 yX5_readRest ∈ GW ∧ Cond.instanceMethod yX5_readRest ∈ GW ∧ Cond.selects yX5_readRest.cls yX5_readRest yX5_readRest ∈ GW ∧ Cond.initialized yX5_readRest.cls ∈ GW ∧ Cond.code yX5_readRest cX5_readRest 3 none ∈ GW := ⟨ml_X5_83, mI_X5_readRest, mV_X5_readRest, mN_X5, mC_X5_readRest⟩
theorem ml_X5_89 : Cond.methodLink RX5 89 yX8_fail ∈ GW := GW_3 207 rfl rfl
theorem cl_X5_89 : Cond.methodLink RX5 89 yX8_fail ∈ GW ∧ Cond.instanceMethod yX8_fail ∈ GW ∧ Cond.selects yX8_fail.cls yX8_fail yX8_fail ∈ GW ∧ Cond.initialized yX8_fail.cls ∈ GW ∧ Cond.code yX8_fail cX8_fail 3 none ∈ GW := ⟨ml_X5_89, mI_X8_fail, mV_X8_fail, mN_X8, mC_X8_fail⟩
theorem ml_X5_93 : Cond.methodLink RX5 93 yX8_sign ∈ GW := GW_3 232 rfl rfl
theorem cl_X5_93 : Cond.methodLink RX5 93 yX8_sign ∈ GW ∧ Cond.instanceMethod yX8_sign ∈ GW ∧ Cond.selects yX8_sign.cls yX8_sign yX8_sign ∈ GW ∧ Cond.initialized yX8_sign.cls ∈ GW ∧ Cond.code yX8_sign cX8_sign 2 none ∈ GW := ⟨ml_X5_93, mI_X8_sign, mV_X8_sign, mN_X8, mC_X8_sign⟩
theorem ml_X5_97 : Cond.methodLink RX5 97 yX8_figure ∈ GW := GW_3 211 rfl rfl
theorem cl_X5_97 : Cond.methodLink RX5 97 yX8_figure ∈ GW ∧ Cond.instanceMethod yX8_figure ∈ GW ∧ Cond.selects yX8_figure.cls yX8_figure yX8_figure ∈ GW ∧ Cond.initialized yX8_figure.cls ∈ GW ∧ Cond.code yX8_figure cX8_figure 4 (some .int) ∈ GW := ⟨ml_X5_97, mI_X8_figure, mV_X8_figure, mN_X8, mC_X8_figure⟩
theorem ml_X7_50 : Cond.methodLink RX7 50 yX2_weigh ∈ GW := GW_2 198 rfl rfl
theorem cl_X7_50 : Cond.methodLink RX7 50 yX2_weigh ∈ GW ∧ Cond.instanceMethod yX2_weigh ∈ GW ∧ Cond.selects yX2_weigh.cls yX2_weigh yX2_weigh ∈ GW ∧ Cond.initialized yX2_weigh.cls ∈ GW ∧ Cond.code yX2_weigh cX2_weigh 4 (some .int) ∈ GW := ⟨ml_X7_50, mI_X2_weigh, mV_X2_weigh, mN_X2, mC_X2_weigh⟩
theorem ml_X7_63 : Cond.methodLink RX7 63 yX7_breathFor ∈ GW := GW_2 194 rfl rfl
theorem cl_X7_63 : Cond.methodLink RX7 63 yX7_breathFor ∈ GW ∧ Cond.instanceMethod yX7_breathFor ∈ GW ∧ Cond.selects yX7_breathFor.cls yX7_breathFor yX7_breathFor ∈ GW ∧ Cond.initialized yX7_breathFor.cls ∈ GW ∧ Cond.code yX7_breathFor cX7_breathFor 5 (some .int) ∈ GW := ⟨ml_X7_63, mI_X7_breathFor, mV_X7_breathFor, mN_X7, mC_X7_breathFor⟩
theorem ml_X7_73 : Cond.methodLink RX7 73 yX7_singNote ∈ GW := GW_3 20 rfl rfl
theorem cl_X7_73 : Cond.methodLink RX7 73 yX7_singNote ∈ GW ∧ Cond.instanceMethod yX7_singNote ∈ GW ∧ Cond.selects yX7_singNote.cls yX7_singNote yX7_singNote ∈ GW ∧ Cond.initialized yX7_singNote.cls ∈ GW ∧ Cond.code yX7_singNote cX7_singNote 5 (some .int) ∈ GW := ⟨ml_X7_73, mI_X7_singNote, mV_X7_singNote, mN_X7, mC_X7_singNote⟩
theorem ml_X7_86 : Cond.methodLink RX7 86 yJ9_min_7cf53 ∈ GW := GW_4 134 rfl rfl
theorem cl_X7_86 : Cond.methodLink RX7 86 yJ9_min_7cf53 ∈ GW ∧ Cond.static yJ9_min_7cf53 ∈ GW ∧ Cond.initialized yJ9_min_7cf53.cls ∈ GW ∧ Cond.code yJ9_min_7cf53 cJ9_min_7cf53 2 (some .int) ∈ GW := ⟨ml_X7_86, mS_J9_min_7cf53, mN_J9, mC_J9_min_7cf53⟩
theorem ml_X7_95 : Cond.methodLink RX7 95 yX7_refresh ∈ GW := GW_4 149 rfl rfl
theorem cl_X7_95 : Cond.methodLink RX7 95 yX7_refresh ∈ GW ∧ Cond.instanceMethod yX7_refresh ∈ GW ∧ Cond.selects yX7_refresh.cls yX7_refresh yX7_refresh ∈ GW ∧ Cond.initialized yX7_refresh.cls ∈ GW ∧ Cond.code yX7_refresh cX7_refresh 3 none ∈ GW := ⟨ml_X7_95, mI_X7_refresh, mV_X7_refresh, mN_X7, mC_X7_refresh⟩
theorem ml_X8_34 : Cond.methodLink RX8 34 yX8_peek ∈ GW := GW_3 138 rfl rfl
theorem cl_X8_34 : Cond.methodLink RX8 34 yX8_peek ∈ GW ∧ Cond.instanceMethod yX8_peek ∈ GW ∧ Cond.selects yX8_peek.cls yX8_peek yX8_peek ∈ GW ∧ Cond.initialized yX8_peek.cls ∈ GW ∧ Cond.code yX8_peek cX8_peek 1 (some .int) ∈ GW := ⟨ml_X8_34, mI_X8_peek, mV_X8_peek, mN_X8, mC_X8_peek⟩
theorem ml_X8_38 : Cond.methodLink RX8 38 yX8_fail ∈ GW := GW_3 216 rfl rfl
theorem cl_X8_38 : Cond.methodLink RX8 38 yX8_fail ∈ GW ∧ Cond.instanceMethod yX8_fail ∈ GW ∧ Cond.selects yX8_fail.cls yX8_fail yX8_fail ∈ GW ∧ Cond.initialized yX8_fail.cls ∈ GW ∧ Cond.code yX8_fail cX8_fail 3 none ∈ GW := ⟨ml_X8_38, mI_X8_fail, mV_X8_fail, mN_X8, mC_X8_fail⟩
theorem mN_J0 : Cond.initialized RJ0 ∈ GW := GW_1 16 rfl rfl
theorem mC_J0_length_8abf5 : Cond.code yJ0_length_8abf5 cJ0_length_8abf5 1 (some .int) ∈ GW := GW_3 158 rfl rfl
theorem hy_J0_length_8abf5 : yJ0_length_8abf5.cls = yJ0_length_8abf5.cls ∧ yJ0_length_8abf5.cls ≠ "java/lang/invoke/MethodHandle" ∧ yJ0_length_8abf5.cls ≠ "java/lang/invoke/VarHandle" ∧ (parseMethodDescriptor yJ0_length_8abf5.desc).map (fun d => d.parameters.length) = some 0 := by decide +kernel
theorem mI_J0_length_8abf5 : Cond.instanceMethod yJ0_length_8abf5 ∈ GW := GW_3 156 rfl rfl
theorem mV_J0_length_8abf5 : Cond.selects yJ0_length_8abf5.cls yJ0_length_8abf5 yJ0_length_8abf5 ∈ GW := GW_3 157 rfl rfl
theorem ml_X8_42 : Cond.methodLink RX8 42 yJ0_length_8abf5 ∈ GW := GW_3 155 rfl rfl
theorem cl_X8_42 : Cond.methodLink RX8 42 yJ0_length_8abf5 ∈ GW ∧ Cond.instanceMethod yJ0_length_8abf5 ∈ GW ∧ Cond.selects yJ0_length_8abf5.cls yJ0_length_8abf5 yJ0_length_8abf5 ∈ GW ∧ Cond.initialized yJ0_length_8abf5.cls ∈ GW ∧ Cond.code yJ0_length_8abf5 cJ0_length_8abf5 1 (some .int) ∈ GW := ⟨ml_X8_42, mI_J0_length_8abf5, mV_J0_length_8abf5, mN_J0, mC_J0_length_8abf5⟩
theorem mC_J0_charAt_5068e : Cond.code yJ0_charAt_5068e cJ0_charAt_5068e 2 (some .char) ∈ GW := GW_3 168 rfl rfl
theorem hy_J0_charAt_5068e : yJ0_charAt_5068e.cls = yJ0_charAt_5068e.cls ∧ yJ0_charAt_5068e.cls ≠ "java/lang/invoke/MethodHandle" ∧ yJ0_charAt_5068e.cls ≠ "java/lang/invoke/VarHandle" ∧ (parseMethodDescriptor yJ0_charAt_5068e.desc).map (fun d => d.parameters.length) = some 1 := by decide +kernel
theorem mI_J0_charAt_5068e : Cond.instanceMethod yJ0_charAt_5068e ∈ GW := GW_3 166 rfl rfl
theorem mV_J0_charAt_5068e : Cond.selects yJ0_charAt_5068e.cls yJ0_charAt_5068e yJ0_charAt_5068e ∈ GW := GW_3 167 rfl rfl
theorem ml_X8_47 : Cond.methodLink RX8 47 yJ0_charAt_5068e ∈ GW := GW_3 165 rfl rfl
theorem cl_X8_47 : Cond.methodLink RX8 47 yJ0_charAt_5068e ∈ GW ∧ Cond.instanceMethod yJ0_charAt_5068e ∈ GW ∧ Cond.selects yJ0_charAt_5068e.cls yJ0_charAt_5068e yJ0_charAt_5068e ∈ GW ∧ Cond.initialized yJ0_charAt_5068e.cls ∈ GW ∧ Cond.code yJ0_charAt_5068e cJ0_charAt_5068e 2 (some .char) ∈ GW := ⟨ml_X8_47, mI_J0_charAt_5068e, mV_J0_charAt_5068e, mN_J0, mC_J0_charAt_5068e⟩
theorem mC_X9_choir : Cond.code yX9_choir cX9_choir 3 (some .int) ∈ GW := GW_3 48 rfl rfl
theorem hy_X9_choir : yX9_choir.cls = yX9_choir.cls ∧ yX9_choir.cls ≠ "java/lang/invoke/MethodHandle" ∧ yX9_choir.cls ≠ "java/lang/invoke/VarHandle" ∧ (parseMethodDescriptor yX9_choir.desc).map (fun d => d.parameters.length) = some 1 := by decide +kernel
theorem mI_X9_choir : Cond.instanceMethod yX9_choir ∈ GW := GW_3 46 rfl rfl
theorem mV_X9_choir : Cond.selects yX9_choir.cls yX9_choir yX9_choir ∈ GW := GW_3 47 rfl rfl
theorem ml_L_7 : Cond.methodLink RL 7 yX9_choir ∈ GW := GW_3 45 rfl rfl
theorem cl_L_7 : Cond.methodLink RL 7 yX9_choir ∈ GW ∧ Cond.instanceMethod yX9_choir ∈ GW ∧ Cond.selects yX9_choir.cls yX9_choir yX9_choir ∈ GW ∧ Cond.initialized yX9_choir.cls ∈ GW ∧ Cond.code yX9_choir cX9_choir 3 (some .int) ∈ GW := ⟨ml_L_7, mI_X9_choir, mV_X9_choir, mN_X9, mC_X9_choir⟩
theorem mC_X9_law : Cond.code yX9_law cX9_law 3 (some .int) ∈ GW := GW_4 30 rfl rfl
theorem hy_X9_law : yX9_law.cls = yX9_law.cls ∧ yX9_law.cls ≠ "java/lang/invoke/MethodHandle" ∧ yX9_law.cls ≠ "java/lang/invoke/VarHandle" ∧ (parseMethodDescriptor yX9_law.desc).map (fun d => d.parameters.length) = some 1 := by decide +kernel
theorem mI_X9_law : Cond.instanceMethod yX9_law ∈ GW := GW_4 28 rfl rfl
theorem mV_X9_law : Cond.selects yX9_law.cls yX9_law yX9_law ∈ GW := GW_4 29 rfl rfl
theorem ml_L_15 : Cond.methodLink RL 15 yX9_law ∈ GW := GW_4 27 rfl rfl
theorem cl_L_15 : Cond.methodLink RL 15 yX9_law ∈ GW ∧ Cond.instanceMethod yX9_law ∈ GW ∧ Cond.selects yX9_law.cls yX9_law yX9_law ∈ GW ∧ Cond.initialized yX9_law.cls ∈ GW ∧ Cond.code yX9_law cX9_law 3 (some .int) ∈ GW := ⟨ml_L_15, mI_X9_law, mV_X9_law, mN_X9, mC_X9_law⟩
theorem mC_X9_work : Cond.code yX9_work cX9_work 2 (some .int) ∈ GW := GW_4 81 rfl rfl
theorem hy_X9_work : yX9_work.cls = yX9_work.cls ∧ yX9_work.cls ≠ "java/lang/invoke/MethodHandle" ∧ yX9_work.cls ≠ "java/lang/invoke/VarHandle" ∧ (parseMethodDescriptor yX9_work.desc).map (fun d => d.parameters.length) = some 1 := by decide +kernel
theorem mI_X9_work : Cond.instanceMethod yX9_work ∈ GW := GW_4 79 rfl rfl
theorem mV_X9_work : Cond.selects yX9_work.cls yX9_work yX9_work ∈ GW := GW_4 80 rfl rfl
theorem ml_L_18 : Cond.methodLink RL 18 yX9_work ∈ GW := GW_4 78 rfl rfl
theorem cl_L_18 : Cond.methodLink RL 18 yX9_work ∈ GW ∧ Cond.instanceMethod yX9_work ∈ GW ∧ Cond.selects yX9_work.cls yX9_work yX9_work ∈ GW ∧ Cond.initialized yX9_work.cls ∈ GW ∧ Cond.code yX9_work cX9_work 2 (some .int) ∈ GW := ⟨ml_L_18, mI_X9_work, mV_X9_work, mN_X9, mC_X9_work⟩
theorem mC_X9_book : Cond.code yX9_book cX9_book 3 (some .int) ∈ GW := GW_4 156 rfl rfl
theorem hy_X9_book : yX9_book.cls = yX9_book.cls ∧ yX9_book.cls ≠ "java/lang/invoke/MethodHandle" ∧ yX9_book.cls ≠ "java/lang/invoke/VarHandle" ∧ (parseMethodDescriptor yX9_book.desc).map (fun d => d.parameters.length) = some 1 := by decide +kernel
theorem mI_X9_book : Cond.instanceMethod yX9_book ∈ GW := GW_4 154 rfl rfl
theorem mV_X9_book : Cond.selects yX9_book.cls yX9_book yX9_book ∈ GW := GW_4 155 rfl rfl
theorem ml_L_21 : Cond.methodLink RL 21 yX9_book ∈ GW := GW_4 153 rfl rfl
theorem cl_L_21 : Cond.methodLink RL 21 yX9_book ∈ GW ∧ Cond.instanceMethod yX9_book ∈ GW ∧ Cond.selects yX9_book.cls yX9_book yX9_book ∈ GW ∧ Cond.initialized yX9_book.cls ∈ GW ∧ Cond.code yX9_book cX9_book 3 (some .int) ∈ GW := ⟨ml_L_21, mI_X9_book, mV_X9_book, mN_X9, mC_X9_book⟩
theorem mC_X9_told : Cond.code yX9_told cX9_told 3 (some .int) ∈ GW := GW_4 172 rfl rfl
theorem hy_X9_told : yX9_told.cls = yX9_told.cls ∧ yX9_told.cls ≠ "java/lang/invoke/MethodHandle" ∧ yX9_told.cls ≠ "java/lang/invoke/VarHandle" ∧ (parseMethodDescriptor yX9_told.desc).map (fun d => d.parameters.length) = some 1 := by decide +kernel
theorem mI_X9_told : Cond.instanceMethod yX9_told ∈ GW := GW_4 170 rfl rfl
theorem mV_X9_told : Cond.selects yX9_told.cls yX9_told yX9_told ∈ GW := GW_4 171 rfl rfl
theorem ml_L_24 : Cond.methodLink RL 24 yX9_told ∈ GW := GW_4 169 rfl rfl
theorem cl_L_24 : Cond.methodLink RL 24 yX9_told ∈ GW ∧ Cond.instanceMethod yX9_told ∈ GW ∧ Cond.selects yX9_told.cls yX9_told yX9_told ∈ GW ∧ Cond.initialized yX9_told.cls ∈ GW ∧ Cond.code yX9_told cX9_told 3 (some .int) ∈ GW := ⟨ml_L_24, mI_X9_told, mV_X9_told, mN_X9, mC_X9_told⟩
theorem mC_X9_singer : Cond.code yX9_singer cX9_singer 5 (some .int) ∈ GW := GW_4 187 rfl rfl
theorem hy_X9_singer : yX9_singer.cls = yX9_singer.cls ∧ yX9_singer.cls ≠ "java/lang/invoke/MethodHandle" ∧ yX9_singer.cls ≠ "java/lang/invoke/VarHandle" ∧ (parseMethodDescriptor yX9_singer.desc).map (fun d => d.parameters.length) = some 2 := by decide +kernel
theorem mI_X9_singer : Cond.instanceMethod yX9_singer ∈ GW := GW_4 185 rfl rfl
theorem mV_X9_singer : Cond.selects yX9_singer.cls yX9_singer yX9_singer ∈ GW := GW_4 186 rfl rfl
theorem ml_L_27 : Cond.methodLink RL 27 yX9_singer ∈ GW := GW_4 184 rfl rfl
theorem cl_L_27 : Cond.methodLink RL 27 yX9_singer ∈ GW ∧ Cond.instanceMethod yX9_singer ∈ GW ∧ Cond.selects yX9_singer.cls yX9_singer yX9_singer ∈ GW ∧ Cond.initialized yX9_singer.cls ∈ GW ∧ Cond.code yX9_singer cX9_singer 5 (some .int) ∈ GW := ⟨ml_L_27, mI_X9_singer, mV_X9_singer, mN_X9, mC_X9_singer⟩
theorem mC_X9_note : Cond.code yX9_note cX9_note 3 (some .int) ∈ GW := GW_4 218 rfl rfl
theorem hy_X9_note : yX9_note.cls = yX9_note.cls ∧ yX9_note.cls ≠ "java/lang/invoke/MethodHandle" ∧ yX9_note.cls ≠ "java/lang/invoke/VarHandle" ∧ (parseMethodDescriptor yX9_note.desc).map (fun d => d.parameters.length) = some 2 := by decide +kernel
theorem mI_X9_note : Cond.instanceMethod yX9_note ∈ GW := GW_4 216 rfl rfl
theorem mV_X9_note : Cond.selects yX9_note.cls yX9_note yX9_note ∈ GW := GW_4 217 rfl rfl
theorem ml_L_33 : Cond.methodLink RL 33 yX9_note ∈ GW := GW_4 215 rfl rfl
theorem cl_L_33 : Cond.methodLink RL 33 yX9_note ∈ GW ∧ Cond.instanceMethod yX9_note ∈ GW ∧ Cond.selects yX9_note.cls yX9_note yX9_note ∈ GW ∧ Cond.initialized yX9_note.cls ∈ GW ∧ Cond.code yX9_note cX9_note 3 (some .int) ∈ GW := ⟨ml_L_33, mI_X9_note, mV_X9_note, mN_X9, mC_X9_note⟩
theorem mC_X9_like : Cond.code yX9_like cX9_like 3 (some .int) ∈ GW := GW_4 229 rfl rfl
theorem hy_X9_like : yX9_like.cls = yX9_like.cls ∧ yX9_like.cls ≠ "java/lang/invoke/MethodHandle" ∧ yX9_like.cls ≠ "java/lang/invoke/VarHandle" ∧ (parseMethodDescriptor yX9_like.desc).map (fun d => d.parameters.length) = some 2 := by decide +kernel
theorem mI_X9_like : Cond.instanceMethod yX9_like ∈ GW := GW_4 227 rfl rfl
theorem mV_X9_like : Cond.selects yX9_like.cls yX9_like yX9_like ∈ GW := GW_4 228 rfl rfl
theorem ml_L_36 : Cond.methodLink RL 36 yX9_like ∈ GW := GW_4 226 rfl rfl
theorem cl_L_36 : Cond.methodLink RL 36 yX9_like ∈ GW ∧ Cond.instanceMethod yX9_like ∈ GW ∧ Cond.selects yX9_like.cls yX9_like yX9_like ∈ GW ∧ Cond.initialized yX9_like.cls ∈ GW ∧ Cond.code yX9_like cX9_like 3 (some .int) ∈ GW := ⟨ml_L_36, mI_X9_like, mV_X9_like, mN_X9, mC_X9_like⟩
theorem mC_X9_takes : Cond.code yX9_takes cX9_takes 3 (some .int) ∈ GW := GW_4 236 rfl rfl
theorem hy_X9_takes : yX9_takes.cls = yX9_takes.cls ∧ yX9_takes.cls ≠ "java/lang/invoke/MethodHandle" ∧ yX9_takes.cls ≠ "java/lang/invoke/VarHandle" ∧ (parseMethodDescriptor yX9_takes.desc).map (fun d => d.parameters.length) = some 2 := by decide +kernel
theorem mI_X9_takes : Cond.instanceMethod yX9_takes ∈ GW := GW_4 234 rfl rfl
theorem mV_X9_takes : Cond.selects yX9_takes.cls yX9_takes yX9_takes ∈ GW := GW_4 235 rfl rfl
theorem ml_L_39 : Cond.methodLink RL 39 yX9_takes ∈ GW := GW_4 233 rfl rfl
theorem cl_L_39 : Cond.methodLink RL 39 yX9_takes ∈ GW ∧ Cond.instanceMethod yX9_takes ∈ GW ∧ Cond.selects yX9_takes.cls yX9_takes yX9_takes ∈ GW ∧ Cond.initialized yX9_takes.cls ∈ GW ∧ Cond.code yX9_takes cX9_takes 3 (some .int) ∈ GW := ⟨ml_L_39, mI_X9_takes, mV_X9_takes, mN_X9, mC_X9_takes⟩
theorem mC_X9_would : Cond.code yX9_would cX9_would 10 (some .int) ∈ GW := GW_5 4 rfl rfl
theorem hy_X9_would : yX9_would.cls = yX9_would.cls ∧ yX9_would.cls ≠ "java/lang/invoke/MethodHandle" ∧ yX9_would.cls ≠ "java/lang/invoke/VarHandle" ∧ (parseMethodDescriptor yX9_would.desc).map (fun d => d.parameters.length) = some 8 := by decide +kernel
theorem mI_X9_would : Cond.instanceMethod yX9_would ∈ GW := GW_5 2 rfl rfl
theorem mV_X9_would : Cond.selects yX9_would.cls yX9_would yX9_would ∈ GW := GW_5 3 rfl rfl
theorem ml_L_42 : Cond.methodLink RL 42 yX9_would ∈ GW := GW_5 1 rfl rfl
theorem cl_L_42 : Cond.methodLink RL 42 yX9_would ∈ GW ∧ Cond.instanceMethod yX9_would ∈ GW ∧ Cond.selects yX9_would.cls yX9_would yX9_would ∈ GW ∧ Cond.initialized yX9_would.cls ∈ GW ∧ Cond.code yX9_would cX9_would 10 (some .int) ∈ GW := ⟨ml_L_42, mI_X9_would, mV_X9_would, mN_X9, mC_X9_would⟩
theorem mC_X9_ahead : Cond.code yX9_ahead cX9_ahead 4 (some .int) ∈ GW := GW_5 15 rfl rfl
theorem hy_X9_ahead : yX9_ahead.cls = yX9_ahead.cls ∧ yX9_ahead.cls ≠ "java/lang/invoke/MethodHandle" ∧ yX9_ahead.cls ≠ "java/lang/invoke/VarHandle" ∧ (parseMethodDescriptor yX9_ahead.desc).map (fun d => d.parameters.length) = some 2 := by decide +kernel
theorem mI_X9_ahead : Cond.instanceMethod yX9_ahead ∈ GW := GW_5 13 rfl rfl
theorem mV_X9_ahead : Cond.selects yX9_ahead.cls yX9_ahead yX9_ahead ∈ GW := GW_5 14 rfl rfl
theorem ml_L_46 : Cond.methodLink RL 46 yX9_ahead ∈ GW := GW_5 12 rfl rfl
theorem cl_L_46 : Cond.methodLink RL 46 yX9_ahead ∈ GW ∧ Cond.instanceMethod yX9_ahead ∈ GW ∧ Cond.selects yX9_ahead.cls yX9_ahead yX9_ahead ∈ GW ∧ Cond.initialized yX9_ahead.cls ∈ GW ∧ Cond.code yX9_ahead cX9_ahead 4 (some .int) ∈ GW := ⟨ml_L_46, mI_X9_ahead, mV_X9_ahead, mN_X9, mC_X9_ahead⟩
theorem mC_X9_handed : Cond.code yX9_handed cX9_handed 3 (some .int) ∈ GW := GW_5 29 rfl rfl
theorem hy_X9_handed : yX9_handed.cls = yX9_handed.cls ∧ yX9_handed.cls ≠ "java/lang/invoke/MethodHandle" ∧ yX9_handed.cls ≠ "java/lang/invoke/VarHandle" ∧ (parseMethodDescriptor yX9_handed.desc).map (fun d => d.parameters.length) = some 2 := by decide +kernel
theorem mI_X9_handed : Cond.instanceMethod yX9_handed ∈ GW := GW_5 27 rfl rfl
theorem mV_X9_handed : Cond.selects yX9_handed.cls yX9_handed yX9_handed ∈ GW := GW_5 28 rfl rfl
theorem ml_L_49 : Cond.methodLink RL 49 yX9_handed ∈ GW := GW_5 26 rfl rfl
theorem cl_L_49 : Cond.methodLink RL 49 yX9_handed ∈ GW ∧ Cond.instanceMethod yX9_handed ∈ GW ∧ Cond.selects yX9_handed.cls yX9_handed yX9_handed ∈ GW ∧ Cond.initialized yX9_handed.cls ∈ GW ∧ Cond.code yX9_handed cX9_handed 3 (some .int) ∈ GW := ⟨ml_L_49, mI_X9_handed, mV_X9_handed, mN_X9, mC_X9_handed⟩
theorem mC_X9_benched : Cond.code yX9_benched cX9_benched 2 (some .int) ∈ GW := GW_5 36 rfl rfl
theorem hy_X9_benched : yX9_benched.cls = yX9_benched.cls ∧ yX9_benched.cls ≠ "java/lang/invoke/MethodHandle" ∧ yX9_benched.cls ≠ "java/lang/invoke/VarHandle" ∧ (parseMethodDescriptor yX9_benched.desc).map (fun d => d.parameters.length) = some 1 := by decide +kernel
theorem mI_X9_benched : Cond.instanceMethod yX9_benched ∈ GW := GW_5 34 rfl rfl
theorem mV_X9_benched : Cond.selects yX9_benched.cls yX9_benched yX9_benched ∈ GW := GW_5 35 rfl rfl
theorem ml_L_52 : Cond.methodLink RL 52 yX9_benched ∈ GW := GW_5 33 rfl rfl
theorem cl_L_52 : Cond.methodLink RL 52 yX9_benched ∈ GW ∧ Cond.instanceMethod yX9_benched ∈ GW ∧ Cond.selects yX9_benched.cls yX9_benched yX9_benched ∈ GW ∧ Cond.initialized yX9_benched.cls ∈ GW ∧ Cond.code yX9_benched cX9_benched 2 (some .int) ∈ GW := ⟨ml_L_52, mI_X9_benched, mV_X9_benched, mN_X9, mC_X9_benched⟩
theorem mC_X9_wordings : Cond.code yX9_wordings cX9_wordings 2 (some .long) ∈ GW := GW_5 51 rfl rfl
theorem hy_X9_wordings : yX9_wordings.cls = yX9_wordings.cls ∧ yX9_wordings.cls ≠ "java/lang/invoke/MethodHandle" ∧ yX9_wordings.cls ≠ "java/lang/invoke/VarHandle" ∧ (parseMethodDescriptor yX9_wordings.desc).map (fun d => d.parameters.length) = some 1 := by decide +kernel
theorem mI_X9_wordings : Cond.instanceMethod yX9_wordings ∈ GW := GW_5 49 rfl rfl
theorem mV_X9_wordings : Cond.selects yX9_wordings.cls yX9_wordings yX9_wordings ∈ GW := GW_5 50 rfl rfl
theorem ml_L_55 : Cond.methodLink RL 55 yX9_wordings ∈ GW := GW_5 48 rfl rfl
theorem cl_L_55 : Cond.methodLink RL 55 yX9_wordings ∈ GW ∧ Cond.instanceMethod yX9_wordings ∈ GW ∧ Cond.selects yX9_wordings.cls yX9_wordings yX9_wordings ∈ GW ∧ Cond.initialized yX9_wordings.cls ∈ GW ∧ Cond.code yX9_wordings cX9_wordings 2 (some .long) ∈ GW := ⟨ml_L_55, mI_X9_wordings, mV_X9_wordings, mN_X9, mC_X9_wordings⟩
theorem mC_X9_who : Cond.code yX9_who cX9_who 6 (some .int) ∈ GW := GW_5 58 rfl rfl
theorem hy_X9_who : yX9_who.cls = yX9_who.cls ∧ yX9_who.cls ≠ "java/lang/invoke/MethodHandle" ∧ yX9_who.cls ≠ "java/lang/invoke/VarHandle" ∧ (parseMethodDescriptor yX9_who.desc).map (fun d => d.parameters.length) = some 1 := by decide +kernel
theorem mI_X9_who : Cond.instanceMethod yX9_who ∈ GW := GW_5 56 rfl rfl
theorem mV_X9_who : Cond.selects yX9_who.cls yX9_who yX9_who ∈ GW := GW_5 57 rfl rfl
theorem ml_L_59 : Cond.methodLink RL 59 yX9_who ∈ GW := GW_5 55 rfl rfl
theorem cl_L_59 : Cond.methodLink RL 59 yX9_who ∈ GW ∧ Cond.instanceMethod yX9_who ∈ GW ∧ Cond.selects yX9_who.cls yX9_who yX9_who ∈ GW ∧ Cond.initialized yX9_who.cls ∈ GW ∧ Cond.code yX9_who cX9_who 6 (some .int) ∈ GW := ⟨ml_L_59, mI_X9_who, mV_X9_who, mN_X9, mC_X9_who⟩
theorem mC_X9_listen : Cond.code yX9_listen cX9_listen 8 (some .int) ∈ GW := GW_5 73 rfl rfl
theorem hy_X9_listen : yX9_listen.cls = yX9_listen.cls ∧ yX9_listen.cls ≠ "java/lang/invoke/MethodHandle" ∧ yX9_listen.cls ≠ "java/lang/invoke/VarHandle" ∧ (parseMethodDescriptor yX9_listen.desc).map (fun d => d.parameters.length) = some 1 := by decide +kernel
theorem mI_X9_listen : Cond.instanceMethod yX9_listen ∈ GW := GW_5 71 rfl rfl
theorem mV_X9_listen : Cond.selects yX9_listen.cls yX9_listen yX9_listen ∈ GW := GW_5 72 rfl rfl
theorem ml_L_62 : Cond.methodLink RL 62 yX9_listen ∈ GW := GW_5 70 rfl rfl
theorem cl_L_62 : Cond.methodLink RL 62 yX9_listen ∈ GW ∧ Cond.instanceMethod yX9_listen ∈ GW ∧ Cond.selects yX9_listen.cls yX9_listen yX9_listen ∈ GW ∧ Cond.initialized yX9_listen.cls ∈ GW ∧ Cond.code yX9_listen cX9_listen 8 (some .int) ∈ GW := ⟨ml_L_62, mI_X9_listen, mV_X9_listen, mN_X9, mC_X9_listen⟩
theorem mC_X9_duty : Cond.code yX9_duty cX9_duty 2 (some .int) ∈ GW := GW_5 85 rfl rfl
theorem hy_X9_duty : yX9_duty.cls = yX9_duty.cls ∧ yX9_duty.cls ≠ "java/lang/invoke/MethodHandle" ∧ yX9_duty.cls ≠ "java/lang/invoke/VarHandle" ∧ (parseMethodDescriptor yX9_duty.desc).map (fun d => d.parameters.length) = some 1 := by decide +kernel
theorem mI_X9_duty : Cond.instanceMethod yX9_duty ∈ GW := GW_5 83 rfl rfl
theorem mV_X9_duty : Cond.selects yX9_duty.cls yX9_duty yX9_duty ∈ GW := GW_5 84 rfl rfl
theorem ml_L_65 : Cond.methodLink RL 65 yX9_duty ∈ GW := GW_5 82 rfl rfl
theorem cl_L_65 : Cond.methodLink RL 65 yX9_duty ∈ GW ∧ Cond.instanceMethod yX9_duty ∈ GW ∧ Cond.selects yX9_duty.cls yX9_duty yX9_duty ∈ GW ∧ Cond.initialized yX9_duty.cls ∈ GW ∧ Cond.code yX9_duty cX9_duty 2 (some .int) ∈ GW := ⟨ml_L_65, mI_X9_duty, mV_X9_duty, mN_X9, mC_X9_duty⟩
theorem mC_X9_range : Cond.code yX9_range cX9_range 5 (some .int) ∈ GW := GW_5 96 rfl rfl
theorem hy_X9_range : yX9_range.cls = yX9_range.cls ∧ yX9_range.cls ≠ "java/lang/invoke/MethodHandle" ∧ yX9_range.cls ≠ "java/lang/invoke/VarHandle" ∧ (parseMethodDescriptor yX9_range.desc).map (fun d => d.parameters.length) = some 1 := by decide +kernel
theorem mI_X9_range : Cond.instanceMethod yX9_range ∈ GW := GW_5 94 rfl rfl
theorem mV_X9_range : Cond.selects yX9_range.cls yX9_range yX9_range ∈ GW := GW_5 95 rfl rfl
theorem ml_L_68 : Cond.methodLink RL 68 yX9_range ∈ GW := GW_5 93 rfl rfl
theorem cl_L_68 : Cond.methodLink RL 68 yX9_range ∈ GW ∧ Cond.instanceMethod yX9_range ∈ GW ∧ Cond.selects yX9_range.cls yX9_range yX9_range ∈ GW ∧ Cond.initialized yX9_range.cls ∈ GW ∧ Cond.code yX9_range cX9_range 5 (some .int) ∈ GW := ⟨ml_L_68, mI_X9_range, mV_X9_range, mN_X9, mC_X9_range⟩
theorem mC_X9_quarrel : Cond.code yX9_quarrel cX9_quarrel 12 (some .int) ∈ GW := GW_5 103 rfl rfl
theorem hy_X9_quarrel : yX9_quarrel.cls = yX9_quarrel.cls ∧ yX9_quarrel.cls ≠ "java/lang/invoke/MethodHandle" ∧ yX9_quarrel.cls ≠ "java/lang/invoke/VarHandle" ∧ (parseMethodDescriptor yX9_quarrel.desc).map (fun d => d.parameters.length) = some 3 := by decide +kernel
theorem mI_X9_quarrel : Cond.instanceMethod yX9_quarrel ∈ GW := GW_5 101 rfl rfl
theorem mV_X9_quarrel : Cond.selects yX9_quarrel.cls yX9_quarrel yX9_quarrel ∈ GW := GW_5 102 rfl rfl
theorem ml_L_71 : Cond.methodLink RL 71 yX9_quarrel ∈ GW := GW_5 100 rfl rfl
theorem cl_L_71 : Cond.methodLink RL 71 yX9_quarrel ∈ GW ∧ Cond.instanceMethod yX9_quarrel ∈ GW ∧ Cond.selects yX9_quarrel.cls yX9_quarrel yX9_quarrel ∈ GW ∧ Cond.initialized yX9_quarrel.cls ∈ GW ∧ Cond.code yX9_quarrel cX9_quarrel 12 (some .int) ∈ GW := ⟨ml_L_71, mI_X9_quarrel, mV_X9_quarrel, mN_X9, mC_X9_quarrel⟩
theorem mC_X9_enough : Cond.code yX9_enough cX9_enough 9 (some .long) ∈ GW := GW_5 113 rfl rfl
theorem hy_X9_enough : yX9_enough.cls = yX9_enough.cls ∧ yX9_enough.cls ≠ "java/lang/invoke/MethodHandle" ∧ yX9_enough.cls ≠ "java/lang/invoke/VarHandle" ∧ (parseMethodDescriptor yX9_enough.desc).map (fun d => d.parameters.length) = some 4 := by decide +kernel
theorem mI_X9_enough : Cond.instanceMethod yX9_enough ∈ GW := GW_5 111 rfl rfl
theorem mV_X9_enough : Cond.selects yX9_enough.cls yX9_enough yX9_enough ∈ GW := GW_5 112 rfl rfl
theorem ml_L_75 : Cond.methodLink RL 75 yX9_enough ∈ GW := GW_5 110 rfl rfl
theorem cl_L_75 : Cond.methodLink RL 75 yX9_enough ∈ GW ∧ Cond.instanceMethod yX9_enough ∈ GW ∧ Cond.selects yX9_enough.cls yX9_enough yX9_enough ∈ GW ∧ Cond.initialized yX9_enough.cls ∈ GW ∧ Cond.code yX9_enough cX9_enough 9 (some .long) ∈ GW := ⟨ml_L_75, mI_X9_enough, mV_X9_enough, mN_X9, mC_X9_enough⟩
theorem mC_X9_rent : Cond.code yX9_rent cX9_rent 5 (some .int) ∈ GW := GW_5 126 rfl rfl
theorem hy_X9_rent : yX9_rent.cls = yX9_rent.cls ∧ yX9_rent.cls ≠ "java/lang/invoke/MethodHandle" ∧ yX9_rent.cls ≠ "java/lang/invoke/VarHandle" ∧ (parseMethodDescriptor yX9_rent.desc).map (fun d => d.parameters.length) = some 3 := by decide +kernel
theorem mI_X9_rent : Cond.instanceMethod yX9_rent ∈ GW := GW_5 124 rfl rfl
theorem mV_X9_rent : Cond.selects yX9_rent.cls yX9_rent yX9_rent ∈ GW := GW_5 125 rfl rfl
theorem ml_L_79 : Cond.methodLink RL 79 yX9_rent ∈ GW := GW_5 123 rfl rfl
theorem cl_L_79 : Cond.methodLink RL 79 yX9_rent ∈ GW ∧ Cond.instanceMethod yX9_rent ∈ GW ∧ Cond.selects yX9_rent.cls yX9_rent yX9_rent ∈ GW ∧ Cond.initialized yX9_rent.cls ∈ GW ∧ Cond.code yX9_rent cX9_rent 5 (some .int) ∈ GW := ⟨ml_L_79, mI_X9_rent, mV_X9_rent, mN_X9, mC_X9_rent⟩
theorem mC_X9_dearest : Cond.code yX9_dearest cX9_dearest 3 (some .int) ∈ GW := GW_5 142 rfl rfl
theorem hy_X9_dearest : yX9_dearest.cls = yX9_dearest.cls ∧ yX9_dearest.cls ≠ "java/lang/invoke/MethodHandle" ∧ yX9_dearest.cls ≠ "java/lang/invoke/VarHandle" ∧ (parseMethodDescriptor yX9_dearest.desc).map (fun d => d.parameters.length) = some 1 := by decide +kernel
theorem mI_X9_dearest : Cond.instanceMethod yX9_dearest ∈ GW := GW_5 140 rfl rfl
theorem mV_X9_dearest : Cond.selects yX9_dearest.cls yX9_dearest yX9_dearest ∈ GW := GW_5 141 rfl rfl
theorem ml_L_82 : Cond.methodLink RL 82 yX9_dearest ∈ GW := GW_5 139 rfl rfl
theorem cl_L_82 : Cond.methodLink RL 82 yX9_dearest ∈ GW ∧ Cond.instanceMethod yX9_dearest ∈ GW ∧ Cond.selects yX9_dearest.cls yX9_dearest yX9_dearest ∈ GW ∧ Cond.initialized yX9_dearest.cls ∈ GW ∧ Cond.code yX9_dearest cX9_dearest 3 (some .int) ∈ GW := ⟨ml_L_82, mI_X9_dearest, mV_X9_dearest, mN_X9, mC_X9_dearest⟩
theorem mC_X9_voices : Cond.code yX9_voices cX9_voices 2 (some .int) ∈ GW := GW_5 152 rfl rfl
theorem hy_X9_voices : yX9_voices.cls = yX9_voices.cls ∧ yX9_voices.cls ≠ "java/lang/invoke/MethodHandle" ∧ yX9_voices.cls ≠ "java/lang/invoke/VarHandle" ∧ (parseMethodDescriptor yX9_voices.desc).map (fun d => d.parameters.length) = some 1 := by decide +kernel
theorem mI_X9_voices : Cond.instanceMethod yX9_voices ∈ GW := GW_5 150 rfl rfl
theorem mV_X9_voices : Cond.selects yX9_voices.cls yX9_voices yX9_voices ∈ GW := GW_5 151 rfl rfl
theorem ml_L_85 : Cond.methodLink RL 85 yX9_voices ∈ GW := GW_5 149 rfl rfl
theorem cl_L_85 : Cond.methodLink RL 85 yX9_voices ∈ GW ∧ Cond.instanceMethod yX9_voices ∈ GW ∧ Cond.selects yX9_voices.cls yX9_voices yX9_voices ∈ GW ∧ Cond.initialized yX9_voices.cls ∈ GW ∧ Cond.code yX9_voices cX9_voices 2 (some .int) ∈ GW := ⟨ml_L_85, mI_X9_voices, mV_X9_voices, mN_X9, mC_X9_voices⟩
theorem mC_X9_sounds : Cond.code yX9_sounds cX9_sounds 2 (some .int) ∈ GW := GW_5 159 rfl rfl
theorem hy_X9_sounds : yX9_sounds.cls = yX9_sounds.cls ∧ yX9_sounds.cls ≠ "java/lang/invoke/MethodHandle" ∧ yX9_sounds.cls ≠ "java/lang/invoke/VarHandle" ∧ (parseMethodDescriptor yX9_sounds.desc).map (fun d => d.parameters.length) = some 1 := by decide +kernel
theorem mI_X9_sounds : Cond.instanceMethod yX9_sounds ∈ GW := GW_5 157 rfl rfl
theorem mV_X9_sounds : Cond.selects yX9_sounds.cls yX9_sounds yX9_sounds ∈ GW := GW_5 158 rfl rfl
theorem ml_L_88 : Cond.methodLink RL 88 yX9_sounds ∈ GW := GW_5 156 rfl rfl
theorem cl_L_88 : Cond.methodLink RL 88 yX9_sounds ∈ GW ∧ Cond.instanceMethod yX9_sounds ∈ GW ∧ Cond.selects yX9_sounds.cls yX9_sounds yX9_sounds ∈ GW ∧ Cond.initialized yX9_sounds.cls ∈ GW ∧ Cond.code yX9_sounds cX9_sounds 2 (some .int) ∈ GW := ⟨ml_L_88, mI_X9_sounds, mV_X9_sounds, mN_X9, mC_X9_sounds⟩
theorem mC_X9_beats : Cond.code yX9_beats cX9_beats 4 (some .int) ∈ GW := GW_5 166 rfl rfl
theorem hy_X9_beats : yX9_beats.cls = yX9_beats.cls ∧ yX9_beats.cls ≠ "java/lang/invoke/MethodHandle" ∧ yX9_beats.cls ≠ "java/lang/invoke/VarHandle" ∧ (parseMethodDescriptor yX9_beats.desc).map (fun d => d.parameters.length) = some 1 := by decide +kernel
theorem mI_X9_beats : Cond.instanceMethod yX9_beats ∈ GW := GW_5 164 rfl rfl
theorem mV_X9_beats : Cond.selects yX9_beats.cls yX9_beats yX9_beats ∈ GW := GW_5 165 rfl rfl
theorem ml_L_91 : Cond.methodLink RL 91 yX9_beats ∈ GW := GW_5 163 rfl rfl
theorem cl_L_91 : Cond.methodLink RL 91 yX9_beats ∈ GW ∧ Cond.instanceMethod yX9_beats ∈ GW ∧ Cond.selects yX9_beats.cls yX9_beats yX9_beats ∈ GW ∧ Cond.initialized yX9_beats.cls ∈ GW ∧ Cond.code yX9_beats cX9_beats 4 (some .int) ∈ GW := ⟨ml_L_91, mI_X9_beats, mV_X9_beats, mN_X9, mC_X9_beats⟩
theorem mC_X9_words : Cond.code yX9_words cX9_words 2 (some .int) ∈ GW := GW_5 173 rfl rfl
theorem hy_X9_words : yX9_words.cls = yX9_words.cls ∧ yX9_words.cls ≠ "java/lang/invoke/MethodHandle" ∧ yX9_words.cls ≠ "java/lang/invoke/VarHandle" ∧ (parseMethodDescriptor yX9_words.desc).map (fun d => d.parameters.length) = some 1 := by decide +kernel
theorem mI_X9_words : Cond.instanceMethod yX9_words ∈ GW := GW_5 171 rfl rfl
theorem mV_X9_words : Cond.selects yX9_words.cls yX9_words yX9_words ∈ GW := GW_5 172 rfl rfl
theorem ml_L_94 : Cond.methodLink RL 94 yX9_words ∈ GW := GW_5 170 rfl rfl
theorem cl_L_94 : Cond.methodLink RL 94 yX9_words ∈ GW ∧ Cond.instanceMethod yX9_words ∈ GW ∧ Cond.selects yX9_words.cls yX9_words yX9_words ∈ GW ∧ Cond.initialized yX9_words.cls ∈ GW ∧ Cond.code yX9_words cX9_words 2 (some .int) ∈ GW := ⟨ml_L_94, mI_X9_words, mV_X9_words, mN_X9, mC_X9_words⟩
theorem mC_X9_alone : Cond.code yX9_alone cX9_alone 4 (some .int) ∈ GW := GW_5 180 rfl rfl
theorem hy_X9_alone : yX9_alone.cls = yX9_alone.cls ∧ yX9_alone.cls ≠ "java/lang/invoke/MethodHandle" ∧ yX9_alone.cls ≠ "java/lang/invoke/VarHandle" ∧ (parseMethodDescriptor yX9_alone.desc).map (fun d => d.parameters.length) = some 1 := by decide +kernel
theorem mI_X9_alone : Cond.instanceMethod yX9_alone ∈ GW := GW_5 178 rfl rfl
theorem mV_X9_alone : Cond.selects yX9_alone.cls yX9_alone yX9_alone ∈ GW := GW_5 179 rfl rfl
theorem ml_L_97 : Cond.methodLink RL 97 yX9_alone ∈ GW := GW_5 177 rfl rfl
theorem cl_L_97 : Cond.methodLink RL 97 yX9_alone ∈ GW ∧ Cond.instanceMethod yX9_alone ∈ GW ∧ Cond.selects yX9_alone.cls yX9_alone yX9_alone ∈ GW ∧ Cond.initialized yX9_alone.cls ∈ GW ∧ Cond.code yX9_alone cX9_alone 4 (some .int) ∈ GW := ⟨ml_L_97, mI_X9_alone, mV_X9_alone, mN_X9, mC_X9_alone⟩
theorem mC_X9_longest : Cond.code yX9_longest cX9_longest 3 (some .int) ∈ GW := GW_5 187 rfl rfl
theorem hy_X9_longest : yX9_longest.cls = yX9_longest.cls ∧ yX9_longest.cls ≠ "java/lang/invoke/MethodHandle" ∧ yX9_longest.cls ≠ "java/lang/invoke/VarHandle" ∧ (parseMethodDescriptor yX9_longest.desc).map (fun d => d.parameters.length) = some 1 := by decide +kernel
theorem mI_X9_longest : Cond.instanceMethod yX9_longest ∈ GW := GW_5 185 rfl rfl
theorem mV_X9_longest : Cond.selects yX9_longest.cls yX9_longest yX9_longest ∈ GW := GW_5 186 rfl rfl
theorem ml_L_100 : Cond.methodLink RL 100 yX9_longest ∈ GW := GW_5 184 rfl rfl
theorem cl_L_100 : Cond.methodLink RL 100 yX9_longest ∈ GW ∧ Cond.instanceMethod yX9_longest ∈ GW ∧ Cond.selects yX9_longest.cls yX9_longest yX9_longest ∈ GW ∧ Cond.initialized yX9_longest.cls ∈ GW ∧ Cond.code yX9_longest cX9_longest 3 (some .int) ∈ GW := ⟨ml_L_100, mI_X9_longest, mV_X9_longest, mN_X9, mC_X9_longest⟩
theorem mC_X9_chorus : Cond.code yX9_chorus cX9_chorus 2 (some .int) ∈ GW := GW_5 194 rfl rfl
theorem hy_X9_chorus : yX9_chorus.cls = yX9_chorus.cls ∧ yX9_chorus.cls ≠ "java/lang/invoke/MethodHandle" ∧ yX9_chorus.cls ≠ "java/lang/invoke/VarHandle" ∧ (parseMethodDescriptor yX9_chorus.desc).map (fun d => d.parameters.length) = some 1 := by decide +kernel
theorem mI_X9_chorus : Cond.instanceMethod yX9_chorus ∈ GW := GW_5 192 rfl rfl
theorem mV_X9_chorus : Cond.selects yX9_chorus.cls yX9_chorus yX9_chorus ∈ GW := GW_5 193 rfl rfl
theorem ml_L_103 : Cond.methodLink RL 103 yX9_chorus ∈ GW := GW_5 191 rfl rfl
theorem cl_L_103 : Cond.methodLink RL 103 yX9_chorus ∈ GW ∧ Cond.instanceMethod yX9_chorus ∈ GW ∧ Cond.selects yX9_chorus.cls yX9_chorus yX9_chorus ∈ GW ∧ Cond.initialized yX9_chorus.cls ∈ GW ∧ Cond.code yX9_chorus cX9_chorus 2 (some .int) ∈ GW := ⟨ml_L_103, mI_X9_chorus, mV_X9_chorus, mN_X9, mC_X9_chorus⟩
theorem mC_X9_spare : Cond.code yX9_spare cX9_spare 5 (some .int) ∈ GW := GW_5 201 rfl rfl
theorem hy_X9_spare : yX9_spare.cls = yX9_spare.cls ∧ yX9_spare.cls ≠ "java/lang/invoke/MethodHandle" ∧ yX9_spare.cls ≠ "java/lang/invoke/VarHandle" ∧ (parseMethodDescriptor yX9_spare.desc).map (fun d => d.parameters.length) = some 1 := by decide +kernel
theorem mI_X9_spare : Cond.instanceMethod yX9_spare ∈ GW := GW_5 199 rfl rfl
theorem mV_X9_spare : Cond.selects yX9_spare.cls yX9_spare yX9_spare ∈ GW := GW_5 200 rfl rfl
theorem ml_L_106 : Cond.methodLink RL 106 yX9_spare ∈ GW := GW_5 198 rfl rfl
theorem cl_L_106 : Cond.methodLink RL 106 yX9_spare ∈ GW ∧ Cond.instanceMethod yX9_spare ∈ GW ∧ Cond.selects yX9_spare.cls yX9_spare yX9_spare ∈ GW ∧ Cond.initialized yX9_spare.cls ∈ GW ∧ Cond.code yX9_spare cX9_spare 5 (some .int) ∈ GW := ⟨ml_L_106, mI_X9_spare, mV_X9_spare, mN_X9, mC_X9_spare⟩
theorem mC_X9_sunday : Cond.code yX9_sunday cX9_sunday 5 (some .int) ∈ GW := GW_5 208 rfl rfl
theorem hy_X9_sunday : yX9_sunday.cls = yX9_sunday.cls ∧ yX9_sunday.cls ≠ "java/lang/invoke/MethodHandle" ∧ yX9_sunday.cls ≠ "java/lang/invoke/VarHandle" ∧ (parseMethodDescriptor yX9_sunday.desc).map (fun d => d.parameters.length) = some 4 := by decide +kernel
theorem mI_X9_sunday : Cond.instanceMethod yX9_sunday ∈ GW := GW_5 206 rfl rfl
theorem mV_X9_sunday : Cond.selects yX9_sunday.cls yX9_sunday yX9_sunday ∈ GW := GW_5 207 rfl rfl
theorem ml_L_109 : Cond.methodLink RL 109 yX9_sunday ∈ GW := GW_5 205 rfl rfl
theorem cl_L_109 : Cond.methodLink RL 109 yX9_sunday ∈ GW ∧ Cond.instanceMethod yX9_sunday ∈ GW ∧ Cond.selects yX9_sunday.cls yX9_sunday yX9_sunday ∈ GW ∧ Cond.initialized yX9_sunday.cls ∈ GW ∧ Cond.code yX9_sunday cX9_sunday 5 (some .int) ∈ GW := ⟨ml_L_109, mI_X9_sunday, mV_X9_sunday, mN_X9, mC_X9_sunday⟩
theorem mC_X9_span : Cond.code yX9_span cX9_span 12 (some .int) ∈ GW := GW_5 226 rfl rfl
theorem hy_X9_span : yX9_span.cls = yX9_span.cls ∧ yX9_span.cls ≠ "java/lang/invoke/MethodHandle" ∧ yX9_span.cls ≠ "java/lang/invoke/VarHandle" ∧ (parseMethodDescriptor yX9_span.desc).map (fun d => d.parameters.length) = some 6 := by decide +kernel
theorem mI_X9_span : Cond.instanceMethod yX9_span ∈ GW := GW_5 224 rfl rfl
theorem mV_X9_span : Cond.selects yX9_span.cls yX9_span yX9_span ∈ GW := GW_5 225 rfl rfl
theorem ml_L_113 : Cond.methodLink RL 113 yX9_span ∈ GW := GW_5 223 rfl rfl
theorem cl_L_113 : Cond.methodLink RL 113 yX9_span ∈ GW ∧ Cond.instanceMethod yX9_span ∈ GW ∧ Cond.selects yX9_span.cls yX9_span yX9_span ∈ GW ∧ Cond.initialized yX9_span.cls ∈ GW ∧ Cond.code yX9_span cX9_span 12 (some .int) ∈ GW := ⟨ml_L_113, mI_X9_span, mV_X9_span, mN_X9, mC_X9_span⟩
theorem mC_X9_feed : Cond.code yX9_feed cX9_feed 6 (some .int) ∈ GW := GW_2 135 rfl rfl
theorem hy_X9_feed : yX9_feed.cls = yX9_feed.cls ∧ yX9_feed.cls ≠ "java/lang/invoke/MethodHandle" ∧ yX9_feed.cls ≠ "java/lang/invoke/VarHandle" ∧ (parseMethodDescriptor yX9_feed.desc).map (fun d => d.parameters.length) = some 5 := by decide +kernel
theorem mI_X9_feed : Cond.instanceMethod yX9_feed ∈ GW := GW_2 133 rfl rfl
theorem mV_X9_feed : Cond.selects yX9_feed.cls yX9_feed yX9_feed ∈ GW := GW_2 134 rfl rfl
theorem ml_L_121 : Cond.methodLink RL 121 yX9_feed ∈ GW := GW_2 132 rfl rfl
theorem cl_L_121 : Cond.methodLink RL 121 yX9_feed ∈ GW ∧ Cond.instanceMethod yX9_feed ∈ GW ∧ Cond.selects yX9_feed.cls yX9_feed yX9_feed ∈ GW ∧ Cond.initialized yX9_feed.cls ∈ GW ∧ Cond.code yX9_feed cX9_feed 6 (some .int) ∈ GW := ⟨ml_L_121, mI_X9_feed, mV_X9_feed, mN_X9, mC_X9_feed⟩
theorem mN_X10 : Cond.initialized RX10 ∈ GW := GW_1 11 rfl rfl
theorem mC_X10_feed : Cond.code yX10_feed cX10_feed 8 (some .int) ∈ GW := GW_6 157 rfl rfl
theorem hy_X10_feed : yX10_feed.cls = yX10_feed.cls ∧ yX10_feed.cls ≠ "java/lang/invoke/MethodHandle" ∧ yX10_feed.cls ≠ "java/lang/invoke/VarHandle" ∧ (parseMethodDescriptor yX10_feed.desc).map (fun d => d.parameters.length) = some 5 := by decide +kernel
theorem mI_X10_feed : Cond.instanceMethod yX10_feed ∈ GW := GW_6 155 rfl rfl
theorem mV_X10_feed : Cond.selects yX10_feed.cls yX10_feed yX10_feed ∈ GW := GW_6 156 rfl rfl
theorem ml_L_125 : Cond.methodLink RL 125 yX10_feed ∈ GW := GW_6 154 rfl rfl
theorem cl_L_125 : Cond.methodLink RL 125 yX10_feed ∈ GW ∧ Cond.instanceMethod yX10_feed ∈ GW ∧ Cond.selects yX10_feed.cls yX10_feed yX10_feed ∈ GW ∧ Cond.initialized yX10_feed.cls ∈ GW ∧ Cond.code yX10_feed cX10_feed 8 (some .int) ∈ GW := ⟨ml_L_125, mI_X10_feed, mV_X10_feed, mN_X10, mC_X10_feed⟩
theorem mC_X10_choir : Cond.code yX10_choir cX10_choir 2 (some .int) ∈ GW := GW_6 161 rfl rfl
theorem hy_X10_choir : yX10_choir.cls = yX10_choir.cls ∧ yX10_choir.cls ≠ "java/lang/invoke/MethodHandle" ∧ yX10_choir.cls ≠ "java/lang/invoke/VarHandle" ∧ (parseMethodDescriptor yX10_choir.desc).map (fun d => d.parameters.length) = some 1 := by decide +kernel
theorem mI_X10_choir : Cond.instanceMethod yX10_choir ∈ GW := GW_6 159 rfl rfl
theorem mV_X10_choir : Cond.selects yX10_choir.cls yX10_choir yX10_choir ∈ GW := GW_6 160 rfl rfl
theorem ml_L_131 : Cond.methodLink RL 131 yX10_choir ∈ GW := GW_6 158 rfl rfl
theorem cl_L_131 : Cond.methodLink RL 131 yX10_choir ∈ GW ∧ Cond.instanceMethod yX10_choir ∈ GW ∧ Cond.selects yX10_choir.cls yX10_choir yX10_choir ∈ GW ∧ Cond.initialized yX10_choir.cls ∈ GW ∧ Cond.code yX10_choir cX10_choir 2 (some .int) ∈ GW := ⟨ml_L_131, mI_X10_choir, mV_X10_choir, mN_X10, mC_X10_choir⟩
theorem mC_X10_thrown : Cond.code yX10_thrown cX10_thrown 1 (some .int) ∈ GW := GW_6 153 rfl rfl
theorem hy_X10_thrown : yX10_thrown.cls = yX10_thrown.cls ∧ yX10_thrown.cls ≠ "java/lang/invoke/MethodHandle" ∧ yX10_thrown.cls ≠ "java/lang/invoke/VarHandle" ∧ (parseMethodDescriptor yX10_thrown.desc).map (fun d => d.parameters.length) = some 0 := by decide +kernel
theorem mI_X10_thrown : Cond.instanceMethod yX10_thrown ∈ GW := GW_6 151 rfl rfl
theorem mV_X10_thrown : Cond.selects yX10_thrown.cls yX10_thrown yX10_thrown ∈ GW := GW_6 152 rfl rfl
theorem ml_L_132 : Cond.methodLink RL 132 yX10_thrown ∈ GW := GW_6 150 rfl rfl
theorem cl_L_132 : Cond.methodLink RL 132 yX10_thrown ∈ GW ∧ Cond.instanceMethod yX10_thrown ∈ GW ∧ Cond.selects yX10_thrown.cls yX10_thrown yX10_thrown ∈ GW ∧ Cond.initialized yX10_thrown.cls ∈ GW ∧ Cond.code yX10_thrown cX10_thrown 1 (some .int) ∈ GW := ⟨ml_L_132, mI_X10_thrown, mV_X10_thrown, mN_X10, mC_X10_thrown⟩
theorem mC_X10_law : Cond.code yX10_law cX10_law 2 (some .int) ∈ GW := GW_6 233 rfl rfl
theorem hy_X10_law : yX10_law.cls = yX10_law.cls ∧ yX10_law.cls ≠ "java/lang/invoke/MethodHandle" ∧ yX10_law.cls ≠ "java/lang/invoke/VarHandle" ∧ (parseMethodDescriptor yX10_law.desc).map (fun d => d.parameters.length) = some 1 := by decide +kernel
theorem mI_X10_law : Cond.instanceMethod yX10_law ∈ GW := GW_6 231 rfl rfl
theorem mV_X10_law : Cond.selects yX10_law.cls yX10_law yX10_law ∈ GW := GW_6 232 rfl rfl
theorem ml_L_138 : Cond.methodLink RL 138 yX10_law ∈ GW := GW_6 230 rfl rfl
theorem cl_L_138 : Cond.methodLink RL 138 yX10_law ∈ GW ∧ Cond.instanceMethod yX10_law ∈ GW ∧ Cond.selects yX10_law.cls yX10_law yX10_law ∈ GW ∧ Cond.initialized yX10_law.cls ∈ GW ∧ Cond.code yX10_law cX10_law 2 (some .int) ∈ GW := ⟨ml_L_138, mI_X10_law, mV_X10_law, mN_X10, mC_X10_law⟩
theorem mC_X10_work : Cond.code yX10_work cX10_work 2 (some .int) ∈ GW := GW_7 40 rfl rfl
theorem hy_X10_work : yX10_work.cls = yX10_work.cls ∧ yX10_work.cls ≠ "java/lang/invoke/MethodHandle" ∧ yX10_work.cls ≠ "java/lang/invoke/VarHandle" ∧ (parseMethodDescriptor yX10_work.desc).map (fun d => d.parameters.length) = some 1 := by decide +kernel
theorem mI_X10_work : Cond.instanceMethod yX10_work ∈ GW := GW_7 38 rfl rfl
theorem mV_X10_work : Cond.selects yX10_work.cls yX10_work yX10_work ∈ GW := GW_7 39 rfl rfl
theorem ml_L_141 : Cond.methodLink RL 141 yX10_work ∈ GW := GW_7 37 rfl rfl
theorem cl_L_141 : Cond.methodLink RL 141 yX10_work ∈ GW ∧ Cond.instanceMethod yX10_work ∈ GW ∧ Cond.selects yX10_work.cls yX10_work yX10_work ∈ GW ∧ Cond.initialized yX10_work.cls ∈ GW ∧ Cond.code yX10_work cX10_work 2 (some .int) ∈ GW := ⟨ml_L_141, mI_X10_work, mV_X10_work, mN_X10, mC_X10_work⟩
theorem mC_X10_book : Cond.code yX10_book cX10_book 7 (some .int) ∈ GW := GW_7 29 rfl rfl
theorem hy_X10_book : yX10_book.cls = yX10_book.cls ∧ yX10_book.cls ≠ "java/lang/invoke/MethodHandle" ∧ yX10_book.cls ≠ "java/lang/invoke/VarHandle" ∧ (parseMethodDescriptor yX10_book.desc).map (fun d => d.parameters.length) = some 1 := by decide +kernel
theorem mI_X10_book : Cond.instanceMethod yX10_book ∈ GW := GW_7 27 rfl rfl
theorem mV_X10_book : Cond.selects yX10_book.cls yX10_book yX10_book ∈ GW := GW_7 28 rfl rfl
theorem ml_L_144 : Cond.methodLink RL 144 yX10_book ∈ GW := GW_7 26 rfl rfl
theorem cl_L_144 : Cond.methodLink RL 144 yX10_book ∈ GW ∧ Cond.instanceMethod yX10_book ∈ GW ∧ Cond.selects yX10_book.cls yX10_book yX10_book ∈ GW ∧ Cond.initialized yX10_book.cls ∈ GW ∧ Cond.code yX10_book cX10_book 7 (some .int) ∈ GW := ⟨ml_L_144, mI_X10_book, mV_X10_book, mN_X10, mC_X10_book⟩
theorem mC_X9_fault : Cond.code yX9_fault cX9_fault 1 (some .int) ∈ GW := GW_2 143 rfl rfl
theorem hy_X9_fault : yX9_fault.cls = yX9_fault.cls ∧ yX9_fault.cls ≠ "java/lang/invoke/MethodHandle" ∧ yX9_fault.cls ≠ "java/lang/invoke/VarHandle" ∧ (parseMethodDescriptor yX9_fault.desc).map (fun d => d.parameters.length) = some 0 := by decide +kernel
theorem mI_X9_fault : Cond.instanceMethod yX9_fault ∈ GW := GW_2 141 rfl rfl
theorem mV_X9_fault : Cond.selects yX9_fault.cls yX9_fault yX9_fault ∈ GW := GW_2 142 rfl rfl
theorem ml_L_145 : Cond.methodLink RL 145 yX9_fault ∈ GW := GW_2 140 rfl rfl
theorem cl_L_145 : Cond.methodLink RL 145 yX9_fault ∈ GW ∧ Cond.instanceMethod yX9_fault ∈ GW ∧ Cond.selects yX9_fault.cls yX9_fault yX9_fault ∈ GW ∧ Cond.initialized yX9_fault.cls ∈ GW ∧ Cond.code yX9_fault cX9_fault 1 (some .int) ∈ GW := ⟨ml_L_145, mI_X9_fault, mV_X9_fault, mN_X9, mC_X9_fault⟩
theorem mC_X10_fault : Cond.code yX10_fault cX10_fault 1 (some .int) ∈ GW := GW_7 36 rfl rfl
theorem hy_X10_fault : yX10_fault.cls = yX10_fault.cls ∧ yX10_fault.cls ≠ "java/lang/invoke/MethodHandle" ∧ yX10_fault.cls ≠ "java/lang/invoke/VarHandle" ∧ (parseMethodDescriptor yX10_fault.desc).map (fun d => d.parameters.length) = some 0 := by decide +kernel
theorem mI_X10_fault : Cond.instanceMethod yX10_fault ∈ GW := GW_7 34 rfl rfl
theorem mV_X10_fault : Cond.selects yX10_fault.cls yX10_fault yX10_fault ∈ GW := GW_7 35 rfl rfl
theorem ml_L_148 : Cond.methodLink RL 148 yX10_fault ∈ GW := GW_7 33 rfl rfl
theorem cl_L_148 : Cond.methodLink RL 148 yX10_fault ∈ GW ∧ Cond.instanceMethod yX10_fault ∈ GW ∧ Cond.selects yX10_fault.cls yX10_fault yX10_fault ∈ GW ∧ Cond.initialized yX10_fault.cls ∈ GW ∧ Cond.code yX10_fault cX10_fault 1 (some .int) ∈ GW := ⟨ml_L_148, mI_X10_fault, mV_X10_fault, mN_X10, mC_X10_fault⟩
theorem mC_X9_undo : Cond.code yX9_undo cX9_undo 1 (some .int) ∈ GW := GW_2 147 rfl rfl
theorem hy_X9_undo : yX9_undo.cls = yX9_undo.cls ∧ yX9_undo.cls ≠ "java/lang/invoke/MethodHandle" ∧ yX9_undo.cls ≠ "java/lang/invoke/VarHandle" ∧ (parseMethodDescriptor yX9_undo.desc).map (fun d => d.parameters.length) = some 0 := by decide +kernel
theorem mI_X9_undo : Cond.instanceMethod yX9_undo ∈ GW := GW_2 145 rfl rfl
theorem mV_X9_undo : Cond.selects yX9_undo.cls yX9_undo yX9_undo ∈ GW := GW_2 146 rfl rfl
theorem ml_L_149 : Cond.methodLink RL 149 yX9_undo ∈ GW := GW_2 144 rfl rfl
theorem cl_L_149 : Cond.methodLink RL 149 yX9_undo ∈ GW ∧ Cond.instanceMethod yX9_undo ∈ GW ∧ Cond.selects yX9_undo.cls yX9_undo yX9_undo ∈ GW ∧ Cond.initialized yX9_undo.cls ∈ GW ∧ Cond.code yX9_undo cX9_undo 1 (some .int) ∈ GW := ⟨ml_L_149, mI_X9_undo, mV_X9_undo, mN_X9, mC_X9_undo⟩
theorem mC_X10_undo : Cond.code yX10_undo cX10_undo 1 (some .int) ∈ GW := GW_7 111 rfl rfl
theorem hy_X10_undo : yX10_undo.cls = yX10_undo.cls ∧ yX10_undo.cls ≠ "java/lang/invoke/MethodHandle" ∧ yX10_undo.cls ≠ "java/lang/invoke/VarHandle" ∧ (parseMethodDescriptor yX10_undo.desc).map (fun d => d.parameters.length) = some 0 := by decide +kernel
theorem mI_X10_undo : Cond.instanceMethod yX10_undo ∈ GW := GW_7 109 rfl rfl
theorem mV_X10_undo : Cond.selects yX10_undo.cls yX10_undo yX10_undo ∈ GW := GW_7 110 rfl rfl
theorem ml_L_152 : Cond.methodLink RL 152 yX10_undo ∈ GW := GW_7 108 rfl rfl
theorem cl_L_152 : Cond.methodLink RL 152 yX10_undo ∈ GW ∧ Cond.instanceMethod yX10_undo ∈ GW ∧ Cond.selects yX10_undo.cls yX10_undo yX10_undo ∈ GW ∧ Cond.initialized yX10_undo.cls ∈ GW ∧ Cond.code yX10_undo cX10_undo 1 (some .int) ∈ GW := ⟨ml_L_152, mI_X10_undo, mV_X10_undo, mN_X10, mC_X10_undo⟩
theorem mC_X10_told : Cond.code yX10_told cX10_told 4 (some .int) ∈ GW := GW_7 115 rfl rfl
theorem hy_X10_told : yX10_told.cls = yX10_told.cls ∧ yX10_told.cls ≠ "java/lang/invoke/MethodHandle" ∧ yX10_told.cls ≠ "java/lang/invoke/VarHandle" ∧ (parseMethodDescriptor yX10_told.desc).map (fun d => d.parameters.length) = some 1 := by decide +kernel
theorem mI_X10_told : Cond.instanceMethod yX10_told ∈ GW := GW_7 113 rfl rfl
theorem mV_X10_told : Cond.selects yX10_told.cls yX10_told yX10_told ∈ GW := GW_7 114 rfl rfl
theorem ml_L_155 : Cond.methodLink RL 155 yX10_told ∈ GW := GW_7 112 rfl rfl
theorem cl_L_155 : Cond.methodLink RL 155 yX10_told ∈ GW ∧ Cond.instanceMethod yX10_told ∈ GW ∧ Cond.selects yX10_told.cls yX10_told yX10_told ∈ GW ∧ Cond.initialized yX10_told.cls ∈ GW ∧ Cond.code yX10_told cX10_told 4 (some .int) ∈ GW := ⟨ml_L_155, mI_X10_told, mV_X10_told, mN_X10, mC_X10_told⟩
theorem mC_X10_singer : Cond.code yX10_singer cX10_singer 3 (some .int) ∈ GW := GW_7 127 rfl rfl
theorem hy_X10_singer : yX10_singer.cls = yX10_singer.cls ∧ yX10_singer.cls ≠ "java/lang/invoke/MethodHandle" ∧ yX10_singer.cls ≠ "java/lang/invoke/VarHandle" ∧ (parseMethodDescriptor yX10_singer.desc).map (fun d => d.parameters.length) = some 2 := by decide +kernel
theorem mI_X10_singer : Cond.instanceMethod yX10_singer ∈ GW := GW_7 125 rfl rfl
theorem mV_X10_singer : Cond.selects yX10_singer.cls yX10_singer yX10_singer ∈ GW := GW_7 126 rfl rfl
theorem ml_L_159 : Cond.methodLink RL 159 yX10_singer ∈ GW := GW_7 124 rfl rfl
theorem cl_L_159 : Cond.methodLink RL 159 yX10_singer ∈ GW ∧ Cond.instanceMethod yX10_singer ∈ GW ∧ Cond.selects yX10_singer.cls yX10_singer yX10_singer ∈ GW ∧ Cond.initialized yX10_singer.cls ∈ GW ∧ Cond.code yX10_singer cX10_singer 3 (some .int) ∈ GW := ⟨ml_L_159, mI_X10_singer, mV_X10_singer, mN_X10, mC_X10_singer⟩
theorem mC_X10_note : Cond.code yX10_note cX10_note 3 (some .int) ∈ GW := GW_7 135 rfl rfl
theorem hy_X10_note : yX10_note.cls = yX10_note.cls ∧ yX10_note.cls ≠ "java/lang/invoke/MethodHandle" ∧ yX10_note.cls ≠ "java/lang/invoke/VarHandle" ∧ (parseMethodDescriptor yX10_note.desc).map (fun d => d.parameters.length) = some 2 := by decide +kernel
theorem mI_X10_note : Cond.instanceMethod yX10_note ∈ GW := GW_7 133 rfl rfl
theorem mV_X10_note : Cond.selects yX10_note.cls yX10_note yX10_note ∈ GW := GW_7 134 rfl rfl
theorem ml_L_162 : Cond.methodLink RL 162 yX10_note ∈ GW := GW_7 132 rfl rfl
theorem cl_L_162 : Cond.methodLink RL 162 yX10_note ∈ GW ∧ Cond.instanceMethod yX10_note ∈ GW ∧ Cond.selects yX10_note.cls yX10_note yX10_note ∈ GW ∧ Cond.initialized yX10_note.cls ∈ GW ∧ Cond.code yX10_note cX10_note 3 (some .int) ∈ GW := ⟨ml_L_162, mI_X10_note, mV_X10_note, mN_X10, mC_X10_note⟩
theorem mC_X10_like : Cond.code yX10_like cX10_like 3 (some .int) ∈ GW := GW_7 143 rfl rfl
theorem hy_X10_like : yX10_like.cls = yX10_like.cls ∧ yX10_like.cls ≠ "java/lang/invoke/MethodHandle" ∧ yX10_like.cls ≠ "java/lang/invoke/VarHandle" ∧ (parseMethodDescriptor yX10_like.desc).map (fun d => d.parameters.length) = some 2 := by decide +kernel
theorem mI_X10_like : Cond.instanceMethod yX10_like ∈ GW := GW_7 141 rfl rfl
theorem mV_X10_like : Cond.selects yX10_like.cls yX10_like yX10_like ∈ GW := GW_7 142 rfl rfl
theorem ml_L_165 : Cond.methodLink RL 165 yX10_like ∈ GW := GW_7 140 rfl rfl
theorem cl_L_165 : Cond.methodLink RL 165 yX10_like ∈ GW ∧ Cond.instanceMethod yX10_like ∈ GW ∧ Cond.selects yX10_like.cls yX10_like yX10_like ∈ GW ∧ Cond.initialized yX10_like.cls ∈ GW ∧ Cond.code yX10_like cX10_like 3 (some .int) ∈ GW := ⟨ml_L_165, mI_X10_like, mV_X10_like, mN_X10, mC_X10_like⟩
theorem mC_X10_takes : Cond.code yX10_takes cX10_takes 3 (some .int) ∈ GW := GW_7 147 rfl rfl
theorem hy_X10_takes : yX10_takes.cls = yX10_takes.cls ∧ yX10_takes.cls ≠ "java/lang/invoke/MethodHandle" ∧ yX10_takes.cls ≠ "java/lang/invoke/VarHandle" ∧ (parseMethodDescriptor yX10_takes.desc).map (fun d => d.parameters.length) = some 2 := by decide +kernel
theorem mI_X10_takes : Cond.instanceMethod yX10_takes ∈ GW := GW_7 145 rfl rfl
theorem mV_X10_takes : Cond.selects yX10_takes.cls yX10_takes yX10_takes ∈ GW := GW_7 146 rfl rfl
theorem ml_L_168 : Cond.methodLink RL 168 yX10_takes ∈ GW := GW_7 144 rfl rfl
theorem cl_L_168 : Cond.methodLink RL 168 yX10_takes ∈ GW ∧ Cond.instanceMethod yX10_takes ∈ GW ∧ Cond.selects yX10_takes.cls yX10_takes yX10_takes ∈ GW ∧ Cond.initialized yX10_takes.cls ∈ GW ∧ Cond.code yX10_takes cX10_takes 3 (some .int) ∈ GW := ⟨ml_L_168, mI_X10_takes, mV_X10_takes, mN_X10, mC_X10_takes⟩
theorem mC_X10_would : Cond.code yX10_would cX10_would 9 (some .int) ∈ GW := GW_7 151 rfl rfl
theorem hy_X10_would : yX10_would.cls = yX10_would.cls ∧ yX10_would.cls ≠ "java/lang/invoke/MethodHandle" ∧ yX10_would.cls ≠ "java/lang/invoke/VarHandle" ∧ (parseMethodDescriptor yX10_would.desc).map (fun d => d.parameters.length) = some 8 := by decide +kernel
theorem mI_X10_would : Cond.instanceMethod yX10_would ∈ GW := GW_7 149 rfl rfl
theorem mV_X10_would : Cond.selects yX10_would.cls yX10_would yX10_would ∈ GW := GW_7 150 rfl rfl
theorem ml_L_172 : Cond.methodLink RL 172 yX10_would ∈ GW := GW_7 148 rfl rfl
theorem cl_L_172 : Cond.methodLink RL 172 yX10_would ∈ GW ∧ Cond.instanceMethod yX10_would ∈ GW ∧ Cond.selects yX10_would.cls yX10_would yX10_would ∈ GW ∧ Cond.initialized yX10_would.cls ∈ GW ∧ Cond.code yX10_would cX10_would 9 (some .int) ∈ GW := ⟨ml_L_172, mI_X10_would, mV_X10_would, mN_X10, mC_X10_would⟩
theorem mC_X10_ahead : Cond.code yX10_ahead cX10_ahead 5 (some .int) ∈ GW := GW_7 158 rfl rfl
theorem hy_X10_ahead : yX10_ahead.cls = yX10_ahead.cls ∧ yX10_ahead.cls ≠ "java/lang/invoke/MethodHandle" ∧ yX10_ahead.cls ≠ "java/lang/invoke/VarHandle" ∧ (parseMethodDescriptor yX10_ahead.desc).map (fun d => d.parameters.length) = some 2 := by decide +kernel
theorem mI_X10_ahead : Cond.instanceMethod yX10_ahead ∈ GW := GW_7 156 rfl rfl
theorem mV_X10_ahead : Cond.selects yX10_ahead.cls yX10_ahead yX10_ahead ∈ GW := GW_7 157 rfl rfl
theorem ml_L_175 : Cond.methodLink RL 175 yX10_ahead ∈ GW := GW_7 155 rfl rfl
theorem cl_L_175 : Cond.methodLink RL 175 yX10_ahead ∈ GW ∧ Cond.instanceMethod yX10_ahead ∈ GW ∧ Cond.selects yX10_ahead.cls yX10_ahead yX10_ahead ∈ GW ∧ Cond.initialized yX10_ahead.cls ∈ GW ∧ Cond.code yX10_ahead cX10_ahead 5 (some .int) ∈ GW := ⟨ml_L_175, mI_X10_ahead, mV_X10_ahead, mN_X10, mC_X10_ahead⟩
theorem mC_X9_cast : Cond.code yX9_cast cX9_cast 4 (some .int) ∈ GW := GW_2 162 rfl rfl
theorem hy_X9_cast : yX9_cast.cls = yX9_cast.cls ∧ yX9_cast.cls ≠ "java/lang/invoke/MethodHandle" ∧ yX9_cast.cls ≠ "java/lang/invoke/VarHandle" ∧ (parseMethodDescriptor yX9_cast.desc).map (fun d => d.parameters.length) = some 0 := by decide +kernel
theorem mI_X9_cast : Cond.instanceMethod yX9_cast ∈ GW := GW_2 160 rfl rfl
theorem mV_X9_cast : Cond.selects yX9_cast.cls yX9_cast yX9_cast ∈ GW := GW_2 161 rfl rfl
theorem ml_L_176 : Cond.methodLink RL 176 yX9_cast ∈ GW := GW_2 159 rfl rfl
theorem cl_L_176 : Cond.methodLink RL 176 yX9_cast ∈ GW ∧ Cond.instanceMethod yX9_cast ∈ GW ∧ Cond.selects yX9_cast.cls yX9_cast yX9_cast ∈ GW ∧ Cond.initialized yX9_cast.cls ∈ GW ∧ Cond.code yX9_cast cX9_cast 4 (some .int) ∈ GW := ⟨ml_L_176, mI_X9_cast, mV_X9_cast, mN_X9, mC_X9_cast⟩
theorem mC_X10_cast : Cond.code yX10_cast cX10_cast 4 (some .int) ∈ GW := GW_7 162 rfl rfl
theorem hy_X10_cast : yX10_cast.cls = yX10_cast.cls ∧ yX10_cast.cls ≠ "java/lang/invoke/MethodHandle" ∧ yX10_cast.cls ≠ "java/lang/invoke/VarHandle" ∧ (parseMethodDescriptor yX10_cast.desc).map (fun d => d.parameters.length) = some 0 := by decide +kernel
theorem mI_X10_cast : Cond.instanceMethod yX10_cast ∈ GW := GW_7 160 rfl rfl
theorem mV_X10_cast : Cond.selects yX10_cast.cls yX10_cast yX10_cast ∈ GW := GW_7 161 rfl rfl
theorem ml_L_179 : Cond.methodLink RL 179 yX10_cast ∈ GW := GW_7 159 rfl rfl
theorem cl_L_179 : Cond.methodLink RL 179 yX10_cast ∈ GW ∧ Cond.instanceMethod yX10_cast ∈ GW ∧ Cond.selects yX10_cast.cls yX10_cast yX10_cast ∈ GW ∧ Cond.initialized yX10_cast.cls ∈ GW ∧ Cond.code yX10_cast cX10_cast 4 (some .int) ∈ GW := ⟨ml_L_179, mI_X10_cast, mV_X10_cast, mN_X10, mC_X10_cast⟩
theorem mC_X10_handed : Cond.code yX10_handed cX10_handed 3 (some .int) ∈ GW := GW_7 181 rfl rfl
theorem hy_X10_handed : yX10_handed.cls = yX10_handed.cls ∧ yX10_handed.cls ≠ "java/lang/invoke/MethodHandle" ∧ yX10_handed.cls ≠ "java/lang/invoke/VarHandle" ∧ (parseMethodDescriptor yX10_handed.desc).map (fun d => d.parameters.length) = some 2 := by decide +kernel
theorem mI_X10_handed : Cond.instanceMethod yX10_handed ∈ GW := GW_7 179 rfl rfl
theorem mV_X10_handed : Cond.selects yX10_handed.cls yX10_handed yX10_handed ∈ GW := GW_7 180 rfl rfl
theorem ml_L_182 : Cond.methodLink RL 182 yX10_handed ∈ GW := GW_7 178 rfl rfl
theorem cl_L_182 : Cond.methodLink RL 182 yX10_handed ∈ GW ∧ Cond.instanceMethod yX10_handed ∈ GW ∧ Cond.selects yX10_handed.cls yX10_handed yX10_handed ∈ GW ∧ Cond.initialized yX10_handed.cls ∈ GW ∧ Cond.code yX10_handed cX10_handed 3 (some .int) ∈ GW := ⟨ml_L_182, mI_X10_handed, mV_X10_handed, mN_X10, mC_X10_handed⟩
theorem mC_X9_bench : Cond.code yX9_bench cX9_bench 1 (some .int) ∈ GW := GW_2 208 rfl rfl
theorem hy_X9_bench : yX9_bench.cls = yX9_bench.cls ∧ yX9_bench.cls ≠ "java/lang/invoke/MethodHandle" ∧ yX9_bench.cls ≠ "java/lang/invoke/VarHandle" ∧ (parseMethodDescriptor yX9_bench.desc).map (fun d => d.parameters.length) = some 0 := by decide +kernel
theorem mI_X9_bench : Cond.instanceMethod yX9_bench ∈ GW := GW_2 206 rfl rfl
theorem mV_X9_bench : Cond.selects yX9_bench.cls yX9_bench yX9_bench ∈ GW := GW_2 207 rfl rfl
theorem ml_L_183 : Cond.methodLink RL 183 yX9_bench ∈ GW := GW_2 205 rfl rfl
theorem cl_L_183 : Cond.methodLink RL 183 yX9_bench ∈ GW ∧ Cond.instanceMethod yX9_bench ∈ GW ∧ Cond.selects yX9_bench.cls yX9_bench yX9_bench ∈ GW ∧ Cond.initialized yX9_bench.cls ∈ GW ∧ Cond.code yX9_bench cX9_bench 1 (some .int) ∈ GW := ⟨ml_L_183, mI_X9_bench, mV_X9_bench, mN_X9, mC_X9_bench⟩
theorem mC_X10_bench : Cond.code yX10_bench cX10_bench 1 (some .int) ∈ GW := GW_7 189 rfl rfl
theorem hy_X10_bench : yX10_bench.cls = yX10_bench.cls ∧ yX10_bench.cls ≠ "java/lang/invoke/MethodHandle" ∧ yX10_bench.cls ≠ "java/lang/invoke/VarHandle" ∧ (parseMethodDescriptor yX10_bench.desc).map (fun d => d.parameters.length) = some 0 := by decide +kernel
theorem mI_X10_bench : Cond.instanceMethod yX10_bench ∈ GW := GW_7 187 rfl rfl
theorem mV_X10_bench : Cond.selects yX10_bench.cls yX10_bench yX10_bench ∈ GW := GW_7 188 rfl rfl
theorem ml_L_186 : Cond.methodLink RL 186 yX10_bench ∈ GW := GW_7 186 rfl rfl
theorem cl_L_186 : Cond.methodLink RL 186 yX10_bench ∈ GW ∧ Cond.instanceMethod yX10_bench ∈ GW ∧ Cond.selects yX10_bench.cls yX10_bench yX10_bench ∈ GW ∧ Cond.initialized yX10_bench.cls ∈ GW ∧ Cond.code yX10_bench cX10_bench 1 (some .int) ∈ GW := ⟨ml_L_186, mI_X10_bench, mV_X10_bench, mN_X10, mC_X10_bench⟩
theorem mC_X10_benched : Cond.code yX10_benched cX10_benched 2 (some .int) ∈ GW := GW_7 201 rfl rfl
theorem hy_X10_benched : yX10_benched.cls = yX10_benched.cls ∧ yX10_benched.cls ≠ "java/lang/invoke/MethodHandle" ∧ yX10_benched.cls ≠ "java/lang/invoke/VarHandle" ∧ (parseMethodDescriptor yX10_benched.desc).map (fun d => d.parameters.length) = some 1 := by decide +kernel
theorem mI_X10_benched : Cond.instanceMethod yX10_benched ∈ GW := GW_7 199 rfl rfl
theorem mV_X10_benched : Cond.selects yX10_benched.cls yX10_benched yX10_benched ∈ GW := GW_7 200 rfl rfl
theorem ml_L_189 : Cond.methodLink RL 189 yX10_benched ∈ GW := GW_7 198 rfl rfl
theorem cl_L_189 : Cond.methodLink RL 189 yX10_benched ∈ GW ∧ Cond.instanceMethod yX10_benched ∈ GW ∧ Cond.selects yX10_benched.cls yX10_benched yX10_benched ∈ GW ∧ Cond.initialized yX10_benched.cls ∈ GW ∧ Cond.code yX10_benched cX10_benched 2 (some .int) ∈ GW := ⟨ml_L_189, mI_X10_benched, mV_X10_benched, mN_X10, mC_X10_benched⟩
theorem mC_X9_wording : Cond.code yX9_wording cX9_wording 4 (some .int) ∈ GW := GW_2 239 rfl rfl
theorem hy_X9_wording : yX9_wording.cls = yX9_wording.cls ∧ yX9_wording.cls ≠ "java/lang/invoke/MethodHandle" ∧ yX9_wording.cls ≠ "java/lang/invoke/VarHandle" ∧ (parseMethodDescriptor yX9_wording.desc).map (fun d => d.parameters.length) = some 0 := by decide +kernel
theorem mI_X9_wording : Cond.instanceMethod yX9_wording ∈ GW := GW_2 237 rfl rfl
theorem mV_X9_wording : Cond.selects yX9_wording.cls yX9_wording yX9_wording ∈ GW := GW_2 238 rfl rfl
theorem ml_L_190 : Cond.methodLink RL 190 yX9_wording ∈ GW := GW_2 236 rfl rfl
theorem cl_L_190 : Cond.methodLink RL 190 yX9_wording ∈ GW ∧ Cond.instanceMethod yX9_wording ∈ GW ∧ Cond.selects yX9_wording.cls yX9_wording yX9_wording ∈ GW ∧ Cond.initialized yX9_wording.cls ∈ GW ∧ Cond.code yX9_wording cX9_wording 4 (some .int) ∈ GW := ⟨ml_L_190, mI_X9_wording, mV_X9_wording, mN_X9, mC_X9_wording⟩
theorem mC_X10_wording : Cond.code yX10_wording cX10_wording 5 (some .int) ∈ GW := GW_7 205 rfl rfl
theorem hy_X10_wording : yX10_wording.cls = yX10_wording.cls ∧ yX10_wording.cls ≠ "java/lang/invoke/MethodHandle" ∧ yX10_wording.cls ≠ "java/lang/invoke/VarHandle" ∧ (parseMethodDescriptor yX10_wording.desc).map (fun d => d.parameters.length) = some 0 := by decide +kernel
theorem mI_X10_wording : Cond.instanceMethod yX10_wording ∈ GW := GW_7 203 rfl rfl
theorem mV_X10_wording : Cond.selects yX10_wording.cls yX10_wording yX10_wording ∈ GW := GW_7 204 rfl rfl
theorem ml_L_193 : Cond.methodLink RL 193 yX10_wording ∈ GW := GW_7 202 rfl rfl
theorem cl_L_193 : Cond.methodLink RL 193 yX10_wording ∈ GW ∧ Cond.instanceMethod yX10_wording ∈ GW ∧ Cond.selects yX10_wording.cls yX10_wording yX10_wording ∈ GW ∧ Cond.initialized yX10_wording.cls ∈ GW ∧ Cond.code yX10_wording cX10_wording 5 (some .int) ∈ GW := ⟨ml_L_193, mI_X10_wording, mV_X10_wording, mN_X10, mC_X10_wording⟩
theorem mC_X10_wordings : Cond.code yX10_wordings cX10_wordings 5 (some .long) ∈ GW := GW_7 209 rfl rfl
theorem hy_X10_wordings : yX10_wordings.cls = yX10_wordings.cls ∧ yX10_wordings.cls ≠ "java/lang/invoke/MethodHandle" ∧ yX10_wordings.cls ≠ "java/lang/invoke/VarHandle" ∧ (parseMethodDescriptor yX10_wordings.desc).map (fun d => d.parameters.length) = some 1 := by decide +kernel
theorem mI_X10_wordings : Cond.instanceMethod yX10_wordings ∈ GW := GW_7 207 rfl rfl
theorem mV_X10_wordings : Cond.selects yX10_wordings.cls yX10_wordings yX10_wordings ∈ GW := GW_7 208 rfl rfl
theorem ml_L_196 : Cond.methodLink RL 196 yX10_wordings ∈ GW := GW_7 206 rfl rfl
theorem cl_L_196 : Cond.methodLink RL 196 yX10_wordings ∈ GW ∧ Cond.instanceMethod yX10_wordings ∈ GW ∧ Cond.selects yX10_wordings.cls yX10_wordings yX10_wordings ∈ GW ∧ Cond.initialized yX10_wordings.cls ∈ GW ∧ Cond.code yX10_wordings cX10_wordings 5 (some .long) ∈ GW := ⟨ml_L_196, mI_X10_wordings, mV_X10_wordings, mN_X10, mC_X10_wordings⟩
theorem mC_X10_who : Cond.code yX10_who cX10_who 5 (some .int) ∈ GW := GW_7 213 rfl rfl
theorem hy_X10_who : yX10_who.cls = yX10_who.cls ∧ yX10_who.cls ≠ "java/lang/invoke/MethodHandle" ∧ yX10_who.cls ≠ "java/lang/invoke/VarHandle" ∧ (parseMethodDescriptor yX10_who.desc).map (fun d => d.parameters.length) = some 1 := by decide +kernel
theorem mI_X10_who : Cond.instanceMethod yX10_who ∈ GW := GW_7 211 rfl rfl
theorem mV_X10_who : Cond.selects yX10_who.cls yX10_who yX10_who ∈ GW := GW_7 212 rfl rfl
theorem ml_L_199 : Cond.methodLink RL 199 yX10_who ∈ GW := GW_7 210 rfl rfl
theorem cl_L_199 : Cond.methodLink RL 199 yX10_who ∈ GW ∧ Cond.instanceMethod yX10_who ∈ GW ∧ Cond.selects yX10_who.cls yX10_who yX10_who ∈ GW ∧ Cond.initialized yX10_who.cls ∈ GW ∧ Cond.code yX10_who cX10_who 5 (some .int) ∈ GW := ⟨ml_L_199, mI_X10_who, mV_X10_who, mN_X10, mC_X10_who⟩
theorem mC_X10_listen : Cond.code yX10_listen cX10_listen 6 (some .int) ∈ GW := GW_7 221 rfl rfl
theorem hy_X10_listen : yX10_listen.cls = yX10_listen.cls ∧ yX10_listen.cls ≠ "java/lang/invoke/MethodHandle" ∧ yX10_listen.cls ≠ "java/lang/invoke/VarHandle" ∧ (parseMethodDescriptor yX10_listen.desc).map (fun d => d.parameters.length) = some 1 := by decide +kernel
theorem mI_X10_listen : Cond.instanceMethod yX10_listen ∈ GW := GW_7 219 rfl rfl
theorem mV_X10_listen : Cond.selects yX10_listen.cls yX10_listen yX10_listen ∈ GW := GW_7 220 rfl rfl
theorem ml_L_202 : Cond.methodLink RL 202 yX10_listen ∈ GW := GW_7 218 rfl rfl
theorem cl_L_202 : Cond.methodLink RL 202 yX10_listen ∈ GW ∧ Cond.instanceMethod yX10_listen ∈ GW ∧ Cond.selects yX10_listen.cls yX10_listen yX10_listen ∈ GW ∧ Cond.initialized yX10_listen.cls ∈ GW ∧ Cond.code yX10_listen cX10_listen 6 (some .int) ∈ GW := ⟨ml_L_202, mI_X10_listen, mV_X10_listen, mN_X10, mC_X10_listen⟩
theorem mC_X10_duty : Cond.code yX10_duty cX10_duty 4 (some .int) ∈ GW := GW_7 233 rfl rfl
theorem hy_X10_duty : yX10_duty.cls = yX10_duty.cls ∧ yX10_duty.cls ≠ "java/lang/invoke/MethodHandle" ∧ yX10_duty.cls ≠ "java/lang/invoke/VarHandle" ∧ (parseMethodDescriptor yX10_duty.desc).map (fun d => d.parameters.length) = some 1 := by decide +kernel
theorem mI_X10_duty : Cond.instanceMethod yX10_duty ∈ GW := GW_7 231 rfl rfl
theorem mV_X10_duty : Cond.selects yX10_duty.cls yX10_duty yX10_duty ∈ GW := GW_7 232 rfl rfl
theorem ml_L_205 : Cond.methodLink RL 205 yX10_duty ∈ GW := GW_7 230 rfl rfl
theorem cl_L_205 : Cond.methodLink RL 205 yX10_duty ∈ GW ∧ Cond.instanceMethod yX10_duty ∈ GW ∧ Cond.selects yX10_duty.cls yX10_duty yX10_duty ∈ GW ∧ Cond.initialized yX10_duty.cls ∈ GW ∧ Cond.code yX10_duty cX10_duty 4 (some .int) ∈ GW := ⟨ml_L_205, mI_X10_duty, mV_X10_duty, mN_X10, mC_X10_duty⟩
theorem mC_X10_range : Cond.code yX10_range cX10_range 5 (some .int) ∈ GW := GW_7 237 rfl rfl
theorem hy_X10_range : yX10_range.cls = yX10_range.cls ∧ yX10_range.cls ≠ "java/lang/invoke/MethodHandle" ∧ yX10_range.cls ≠ "java/lang/invoke/VarHandle" ∧ (parseMethodDescriptor yX10_range.desc).map (fun d => d.parameters.length) = some 1 := by decide +kernel
theorem mI_X10_range : Cond.instanceMethod yX10_range ∈ GW := GW_7 235 rfl rfl
theorem mV_X10_range : Cond.selects yX10_range.cls yX10_range yX10_range ∈ GW := GW_7 236 rfl rfl
theorem ml_L_208 : Cond.methodLink RL 208 yX10_range ∈ GW := GW_7 234 rfl rfl
theorem cl_L_208 : Cond.methodLink RL 208 yX10_range ∈ GW ∧ Cond.instanceMethod yX10_range ∈ GW ∧ Cond.selects yX10_range.cls yX10_range yX10_range ∈ GW ∧ Cond.initialized yX10_range.cls ∈ GW ∧ Cond.code yX10_range cX10_range 5 (some .int) ∈ GW := ⟨ml_L_208, mI_X10_range, mV_X10_range, mN_X10, mC_X10_range⟩
theorem mC_X10_quarrel : Cond.code yX10_quarrel cX10_quarrel 9 (some .int) ∈ GW := GW_8 1 rfl rfl
theorem hy_X10_quarrel : yX10_quarrel.cls = yX10_quarrel.cls ∧ yX10_quarrel.cls ≠ "java/lang/invoke/MethodHandle" ∧ yX10_quarrel.cls ≠ "java/lang/invoke/VarHandle" ∧ (parseMethodDescriptor yX10_quarrel.desc).map (fun d => d.parameters.length) = some 3 := by decide +kernel
theorem mI_X10_quarrel : Cond.instanceMethod yX10_quarrel ∈ GW := GW_7 239 rfl rfl
theorem mV_X10_quarrel : Cond.selects yX10_quarrel.cls yX10_quarrel yX10_quarrel ∈ GW := GW_8 0 rfl rfl
theorem ml_L_212 : Cond.methodLink RL 212 yX10_quarrel ∈ GW := GW_7 238 rfl rfl
theorem cl_L_212 : Cond.methodLink RL 212 yX10_quarrel ∈ GW ∧ Cond.instanceMethod yX10_quarrel ∈ GW ∧ Cond.selects yX10_quarrel.cls yX10_quarrel yX10_quarrel ∈ GW ∧ Cond.initialized yX10_quarrel.cls ∈ GW ∧ Cond.code yX10_quarrel cX10_quarrel 9 (some .int) ∈ GW := ⟨ml_L_212, mI_X10_quarrel, mV_X10_quarrel, mN_X10, mC_X10_quarrel⟩
theorem mC_X10_enough : Cond.code yX10_enough cX10_enough 15 (some .long) ∈ GW := GW_8 11 rfl rfl
theorem hy_X10_enough : yX10_enough.cls = yX10_enough.cls ∧ yX10_enough.cls ≠ "java/lang/invoke/MethodHandle" ∧ yX10_enough.cls ≠ "java/lang/invoke/VarHandle" ∧ (parseMethodDescriptor yX10_enough.desc).map (fun d => d.parameters.length) = some 4 := by decide +kernel
theorem mI_X10_enough : Cond.instanceMethod yX10_enough ∈ GW := GW_8 9 rfl rfl
theorem mV_X10_enough : Cond.selects yX10_enough.cls yX10_enough yX10_enough ∈ GW := GW_8 10 rfl rfl
theorem ml_L_216 : Cond.methodLink RL 216 yX10_enough ∈ GW := GW_8 8 rfl rfl
theorem cl_L_216 : Cond.methodLink RL 216 yX10_enough ∈ GW ∧ Cond.instanceMethod yX10_enough ∈ GW ∧ Cond.selects yX10_enough.cls yX10_enough yX10_enough ∈ GW ∧ Cond.initialized yX10_enough.cls ∈ GW ∧ Cond.code yX10_enough cX10_enough 15 (some .long) ∈ GW := ⟨ml_L_216, mI_X10_enough, mV_X10_enough, mN_X10, mC_X10_enough⟩
theorem mC_X10_rent : Cond.code yX10_rent cX10_rent 5 (some .int) ∈ GW := GW_8 15 rfl rfl
theorem hy_X10_rent : yX10_rent.cls = yX10_rent.cls ∧ yX10_rent.cls ≠ "java/lang/invoke/MethodHandle" ∧ yX10_rent.cls ≠ "java/lang/invoke/VarHandle" ∧ (parseMethodDescriptor yX10_rent.desc).map (fun d => d.parameters.length) = some 3 := by decide +kernel
theorem mI_X10_rent : Cond.instanceMethod yX10_rent ∈ GW := GW_8 13 rfl rfl
theorem mV_X10_rent : Cond.selects yX10_rent.cls yX10_rent yX10_rent ∈ GW := GW_8 14 rfl rfl
theorem ml_L_219 : Cond.methodLink RL 219 yX10_rent ∈ GW := GW_8 12 rfl rfl
theorem cl_L_219 : Cond.methodLink RL 219 yX10_rent ∈ GW ∧ Cond.instanceMethod yX10_rent ∈ GW ∧ Cond.selects yX10_rent.cls yX10_rent yX10_rent ∈ GW ∧ Cond.initialized yX10_rent.cls ∈ GW ∧ Cond.code yX10_rent cX10_rent 5 (some .int) ∈ GW := ⟨ml_L_219, mI_X10_rent, mV_X10_rent, mN_X10, mC_X10_rent⟩
theorem mC_X10_dearest : Cond.code yX10_dearest cX10_dearest 4 (some .int) ∈ GW := GW_8 23 rfl rfl
theorem hy_X10_dearest : yX10_dearest.cls = yX10_dearest.cls ∧ yX10_dearest.cls ≠ "java/lang/invoke/MethodHandle" ∧ yX10_dearest.cls ≠ "java/lang/invoke/VarHandle" ∧ (parseMethodDescriptor yX10_dearest.desc).map (fun d => d.parameters.length) = some 1 := by decide +kernel
theorem mI_X10_dearest : Cond.instanceMethod yX10_dearest ∈ GW := GW_8 21 rfl rfl
theorem mV_X10_dearest : Cond.selects yX10_dearest.cls yX10_dearest yX10_dearest ∈ GW := GW_8 22 rfl rfl
theorem ml_L_222 : Cond.methodLink RL 222 yX10_dearest ∈ GW := GW_8 20 rfl rfl
theorem cl_L_222 : Cond.methodLink RL 222 yX10_dearest ∈ GW ∧ Cond.instanceMethod yX10_dearest ∈ GW ∧ Cond.selects yX10_dearest.cls yX10_dearest yX10_dearest ∈ GW ∧ Cond.initialized yX10_dearest.cls ∈ GW ∧ Cond.code yX10_dearest cX10_dearest 4 (some .int) ∈ GW := ⟨ml_L_222, mI_X10_dearest, mV_X10_dearest, mN_X10, mC_X10_dearest⟩
theorem mC_X10_voices : Cond.code yX10_voices cX10_voices 4 (some .int) ∈ GW := GW_8 27 rfl rfl
theorem hy_X10_voices : yX10_voices.cls = yX10_voices.cls ∧ yX10_voices.cls ≠ "java/lang/invoke/MethodHandle" ∧ yX10_voices.cls ≠ "java/lang/invoke/VarHandle" ∧ (parseMethodDescriptor yX10_voices.desc).map (fun d => d.parameters.length) = some 1 := by decide +kernel
theorem mI_X10_voices : Cond.instanceMethod yX10_voices ∈ GW := GW_8 25 rfl rfl
theorem mV_X10_voices : Cond.selects yX10_voices.cls yX10_voices yX10_voices ∈ GW := GW_8 26 rfl rfl
theorem ml_L_225 : Cond.methodLink RL 225 yX10_voices ∈ GW := GW_8 24 rfl rfl
theorem cl_L_225 : Cond.methodLink RL 225 yX10_voices ∈ GW ∧ Cond.instanceMethod yX10_voices ∈ GW ∧ Cond.selects yX10_voices.cls yX10_voices yX10_voices ∈ GW ∧ Cond.initialized yX10_voices.cls ∈ GW ∧ Cond.code yX10_voices cX10_voices 4 (some .int) ∈ GW := ⟨ml_L_225, mI_X10_voices, mV_X10_voices, mN_X10, mC_X10_voices⟩
theorem mC_X10_sounds : Cond.code yX10_sounds cX10_sounds 4 (some .int) ∈ GW := GW_8 31 rfl rfl
theorem hy_X10_sounds : yX10_sounds.cls = yX10_sounds.cls ∧ yX10_sounds.cls ≠ "java/lang/invoke/MethodHandle" ∧ yX10_sounds.cls ≠ "java/lang/invoke/VarHandle" ∧ (parseMethodDescriptor yX10_sounds.desc).map (fun d => d.parameters.length) = some 1 := by decide +kernel
theorem mI_X10_sounds : Cond.instanceMethod yX10_sounds ∈ GW := GW_8 29 rfl rfl
theorem mV_X10_sounds : Cond.selects yX10_sounds.cls yX10_sounds yX10_sounds ∈ GW := GW_8 30 rfl rfl
theorem ml_L_228 : Cond.methodLink RL 228 yX10_sounds ∈ GW := GW_8 28 rfl rfl
theorem cl_L_228 : Cond.methodLink RL 228 yX10_sounds ∈ GW ∧ Cond.instanceMethod yX10_sounds ∈ GW ∧ Cond.selects yX10_sounds.cls yX10_sounds yX10_sounds ∈ GW ∧ Cond.initialized yX10_sounds.cls ∈ GW ∧ Cond.code yX10_sounds cX10_sounds 4 (some .int) ∈ GW := ⟨ml_L_228, mI_X10_sounds, mV_X10_sounds, mN_X10, mC_X10_sounds⟩
theorem mC_X10_beats : Cond.code yX10_beats cX10_beats 4 (some .int) ∈ GW := GW_8 35 rfl rfl
theorem hy_X10_beats : yX10_beats.cls = yX10_beats.cls ∧ yX10_beats.cls ≠ "java/lang/invoke/MethodHandle" ∧ yX10_beats.cls ≠ "java/lang/invoke/VarHandle" ∧ (parseMethodDescriptor yX10_beats.desc).map (fun d => d.parameters.length) = some 1 := by decide +kernel
theorem mI_X10_beats : Cond.instanceMethod yX10_beats ∈ GW := GW_8 33 rfl rfl
theorem mV_X10_beats : Cond.selects yX10_beats.cls yX10_beats yX10_beats ∈ GW := GW_8 34 rfl rfl
theorem ml_L_231 : Cond.methodLink RL 231 yX10_beats ∈ GW := GW_8 32 rfl rfl
theorem cl_L_231 : Cond.methodLink RL 231 yX10_beats ∈ GW ∧ Cond.instanceMethod yX10_beats ∈ GW ∧ Cond.selects yX10_beats.cls yX10_beats yX10_beats ∈ GW ∧ Cond.initialized yX10_beats.cls ∈ GW ∧ Cond.code yX10_beats cX10_beats 4 (some .int) ∈ GW := ⟨ml_L_231, mI_X10_beats, mV_X10_beats, mN_X10, mC_X10_beats⟩
theorem mC_X10_words : Cond.code yX10_words cX10_words 2 (some .int) ∈ GW := GW_8 39 rfl rfl
theorem hy_X10_words : yX10_words.cls = yX10_words.cls ∧ yX10_words.cls ≠ "java/lang/invoke/MethodHandle" ∧ yX10_words.cls ≠ "java/lang/invoke/VarHandle" ∧ (parseMethodDescriptor yX10_words.desc).map (fun d => d.parameters.length) = some 1 := by decide +kernel
theorem mI_X10_words : Cond.instanceMethod yX10_words ∈ GW := GW_8 37 rfl rfl
theorem mV_X10_words : Cond.selects yX10_words.cls yX10_words yX10_words ∈ GW := GW_8 38 rfl rfl
theorem ml_L_234 : Cond.methodLink RL 234 yX10_words ∈ GW := GW_8 36 rfl rfl
theorem cl_L_234 : Cond.methodLink RL 234 yX10_words ∈ GW ∧ Cond.instanceMethod yX10_words ∈ GW ∧ Cond.selects yX10_words.cls yX10_words yX10_words ∈ GW ∧ Cond.initialized yX10_words.cls ∈ GW ∧ Cond.code yX10_words cX10_words 2 (some .int) ∈ GW := ⟨ml_L_234, mI_X10_words, mV_X10_words, mN_X10, mC_X10_words⟩
theorem mC_X9_mute : Cond.code yX9_mute cX9_mute 3 (some .int) ∈ GW := GW_3 7 rfl rfl
theorem hy_X9_mute : yX9_mute.cls = yX9_mute.cls ∧ yX9_mute.cls ≠ "java/lang/invoke/MethodHandle" ∧ yX9_mute.cls ≠ "java/lang/invoke/VarHandle" ∧ (parseMethodDescriptor yX9_mute.desc).map (fun d => d.parameters.length) = some 0 := by decide +kernel
theorem mI_X9_mute : Cond.instanceMethod yX9_mute ∈ GW := GW_3 5 rfl rfl
theorem mV_X9_mute : Cond.selects yX9_mute.cls yX9_mute yX9_mute ∈ GW := GW_3 6 rfl rfl
theorem ml_L_235 : Cond.methodLink RL 235 yX9_mute ∈ GW := GW_3 4 rfl rfl
theorem cl_L_235 : Cond.methodLink RL 235 yX9_mute ∈ GW ∧ Cond.instanceMethod yX9_mute ∈ GW ∧ Cond.selects yX9_mute.cls yX9_mute yX9_mute ∈ GW ∧ Cond.initialized yX9_mute.cls ∈ GW ∧ Cond.code yX9_mute cX9_mute 3 (some .int) ∈ GW := ⟨ml_L_235, mI_X9_mute, mV_X9_mute, mN_X9, mC_X9_mute⟩
theorem mC_X10_mute : Cond.code yX10_mute cX10_mute 3 (some .int) ∈ GW := GW_8 43 rfl rfl
theorem hy_X10_mute : yX10_mute.cls = yX10_mute.cls ∧ yX10_mute.cls ≠ "java/lang/invoke/MethodHandle" ∧ yX10_mute.cls ≠ "java/lang/invoke/VarHandle" ∧ (parseMethodDescriptor yX10_mute.desc).map (fun d => d.parameters.length) = some 0 := by decide +kernel
theorem mI_X10_mute : Cond.instanceMethod yX10_mute ∈ GW := GW_8 41 rfl rfl
theorem mV_X10_mute : Cond.selects yX10_mute.cls yX10_mute yX10_mute ∈ GW := GW_8 42 rfl rfl
theorem ml_L_238 : Cond.methodLink RL 238 yX10_mute ∈ GW := GW_8 40 rfl rfl
theorem cl_L_238 : Cond.methodLink RL 238 yX10_mute ∈ GW ∧ Cond.instanceMethod yX10_mute ∈ GW ∧ Cond.selects yX10_mute.cls yX10_mute yX10_mute ∈ GW ∧ Cond.initialized yX10_mute.cls ∈ GW ∧ Cond.code yX10_mute cX10_mute 3 (some .int) ∈ GW := ⟨ml_L_238, mI_X10_mute, mV_X10_mute, mN_X10, mC_X10_mute⟩
theorem mC_X9_idle : Cond.code yX9_idle cX9_idle 3 (some .int) ∈ GW := GW_3 15 rfl rfl
theorem hy_X9_idle : yX9_idle.cls = yX9_idle.cls ∧ yX9_idle.cls ≠ "java/lang/invoke/MethodHandle" ∧ yX9_idle.cls ≠ "java/lang/invoke/VarHandle" ∧ (parseMethodDescriptor yX9_idle.desc).map (fun d => d.parameters.length) = some 0 := by decide +kernel
theorem mI_X9_idle : Cond.instanceMethod yX9_idle ∈ GW := GW_3 13 rfl rfl
theorem mV_X9_idle : Cond.selects yX9_idle.cls yX9_idle yX9_idle ∈ GW := GW_3 14 rfl rfl
theorem ml_L_239 : Cond.methodLink RL 239 yX9_idle ∈ GW := GW_3 12 rfl rfl
theorem cl_L_239 : Cond.methodLink RL 239 yX9_idle ∈ GW ∧ Cond.instanceMethod yX9_idle ∈ GW ∧ Cond.selects yX9_idle.cls yX9_idle yX9_idle ∈ GW ∧ Cond.initialized yX9_idle.cls ∈ GW ∧ Cond.code yX9_idle cX9_idle 3 (some .int) ∈ GW := ⟨ml_L_239, mI_X9_idle, mV_X9_idle, mN_X9, mC_X9_idle⟩
theorem mC_X10_idle : Cond.code yX10_idle cX10_idle 3 (some .int) ∈ GW := GW_8 47 rfl rfl
theorem hy_X10_idle : yX10_idle.cls = yX10_idle.cls ∧ yX10_idle.cls ≠ "java/lang/invoke/MethodHandle" ∧ yX10_idle.cls ≠ "java/lang/invoke/VarHandle" ∧ (parseMethodDescriptor yX10_idle.desc).map (fun d => d.parameters.length) = some 0 := by decide +kernel
theorem mI_X10_idle : Cond.instanceMethod yX10_idle ∈ GW := GW_8 45 rfl rfl
theorem mV_X10_idle : Cond.selects yX10_idle.cls yX10_idle yX10_idle ∈ GW := GW_8 46 rfl rfl
theorem ml_L_242 : Cond.methodLink RL 242 yX10_idle ∈ GW := GW_8 44 rfl rfl
theorem cl_L_242 : Cond.methodLink RL 242 yX10_idle ∈ GW ∧ Cond.instanceMethod yX10_idle ∈ GW ∧ Cond.selects yX10_idle.cls yX10_idle yX10_idle ∈ GW ∧ Cond.initialized yX10_idle.cls ∈ GW ∧ Cond.code yX10_idle cX10_idle 3 (some .int) ∈ GW := ⟨ml_L_242, mI_X10_idle, mV_X10_idle, mN_X10, mC_X10_idle⟩
theorem mC_X10_alone : Cond.code yX10_alone cX10_alone 5 (some .int) ∈ GW := GW_8 51 rfl rfl
theorem hy_X10_alone : yX10_alone.cls = yX10_alone.cls ∧ yX10_alone.cls ≠ "java/lang/invoke/MethodHandle" ∧ yX10_alone.cls ≠ "java/lang/invoke/VarHandle" ∧ (parseMethodDescriptor yX10_alone.desc).map (fun d => d.parameters.length) = some 1 := by decide +kernel
theorem mI_X10_alone : Cond.instanceMethod yX10_alone ∈ GW := GW_8 49 rfl rfl
theorem mV_X10_alone : Cond.selects yX10_alone.cls yX10_alone yX10_alone ∈ GW := GW_8 50 rfl rfl
theorem ml_L_245 : Cond.methodLink RL 245 yX10_alone ∈ GW := GW_8 48 rfl rfl
theorem cl_L_245 : Cond.methodLink RL 245 yX10_alone ∈ GW ∧ Cond.instanceMethod yX10_alone ∈ GW ∧ Cond.selects yX10_alone.cls yX10_alone yX10_alone ∈ GW ∧ Cond.initialized yX10_alone.cls ∈ GW ∧ Cond.code yX10_alone cX10_alone 5 (some .int) ∈ GW := ⟨ml_L_245, mI_X10_alone, mV_X10_alone, mN_X10, mC_X10_alone⟩
theorem mC_X10_longest : Cond.code yX10_longest cX10_longest 4 (some .int) ∈ GW := GW_8 55 rfl rfl
theorem hy_X10_longest : yX10_longest.cls = yX10_longest.cls ∧ yX10_longest.cls ≠ "java/lang/invoke/MethodHandle" ∧ yX10_longest.cls ≠ "java/lang/invoke/VarHandle" ∧ (parseMethodDescriptor yX10_longest.desc).map (fun d => d.parameters.length) = some 1 := by decide +kernel
theorem mI_X10_longest : Cond.instanceMethod yX10_longest ∈ GW := GW_8 53 rfl rfl
theorem mV_X10_longest : Cond.selects yX10_longest.cls yX10_longest yX10_longest ∈ GW := GW_8 54 rfl rfl
theorem ml_L_248 : Cond.methodLink RL 248 yX10_longest ∈ GW := GW_8 52 rfl rfl
theorem cl_L_248 : Cond.methodLink RL 248 yX10_longest ∈ GW ∧ Cond.instanceMethod yX10_longest ∈ GW ∧ Cond.selects yX10_longest.cls yX10_longest yX10_longest ∈ GW ∧ Cond.initialized yX10_longest.cls ∈ GW ∧ Cond.code yX10_longest cX10_longest 4 (some .int) ∈ GW := ⟨ml_L_248, mI_X10_longest, mV_X10_longest, mN_X10, mC_X10_longest⟩
theorem mC_X10_chorus : Cond.code yX10_chorus cX10_chorus 2 (some .int) ∈ GW := GW_8 59 rfl rfl
theorem hy_X10_chorus : yX10_chorus.cls = yX10_chorus.cls ∧ yX10_chorus.cls ≠ "java/lang/invoke/MethodHandle" ∧ yX10_chorus.cls ≠ "java/lang/invoke/VarHandle" ∧ (parseMethodDescriptor yX10_chorus.desc).map (fun d => d.parameters.length) = some 1 := by decide +kernel
theorem mI_X10_chorus : Cond.instanceMethod yX10_chorus ∈ GW := GW_8 57 rfl rfl
theorem mV_X10_chorus : Cond.selects yX10_chorus.cls yX10_chorus yX10_chorus ∈ GW := GW_8 58 rfl rfl
theorem ml_L_251 : Cond.methodLink RL 251 yX10_chorus ∈ GW := GW_8 56 rfl rfl
theorem cl_L_251 : Cond.methodLink RL 251 yX10_chorus ∈ GW ∧ Cond.instanceMethod yX10_chorus ∈ GW ∧ Cond.selects yX10_chorus.cls yX10_chorus yX10_chorus ∈ GW ∧ Cond.initialized yX10_chorus.cls ∈ GW ∧ Cond.code yX10_chorus cX10_chorus 2 (some .int) ∈ GW := ⟨ml_L_251, mI_X10_chorus, mV_X10_chorus, mN_X10, mC_X10_chorus⟩
theorem mC_X10_spare : Cond.code yX10_spare cX10_spare 4 (some .int) ∈ GW := GW_8 63 rfl rfl
theorem hy_X10_spare : yX10_spare.cls = yX10_spare.cls ∧ yX10_spare.cls ≠ "java/lang/invoke/MethodHandle" ∧ yX10_spare.cls ≠ "java/lang/invoke/VarHandle" ∧ (parseMethodDescriptor yX10_spare.desc).map (fun d => d.parameters.length) = some 1 := by decide +kernel
theorem mI_X10_spare : Cond.instanceMethod yX10_spare ∈ GW := GW_8 61 rfl rfl
theorem mV_X10_spare : Cond.selects yX10_spare.cls yX10_spare yX10_spare ∈ GW := GW_8 62 rfl rfl
theorem ml_L_254 : Cond.methodLink RL 254 yX10_spare ∈ GW := GW_8 60 rfl rfl
theorem cl_L_254 : Cond.methodLink RL 254 yX10_spare ∈ GW ∧ Cond.instanceMethod yX10_spare ∈ GW ∧ Cond.selects yX10_spare.cls yX10_spare yX10_spare ∈ GW ∧ Cond.initialized yX10_spare.cls ∈ GW ∧ Cond.code yX10_spare cX10_spare 4 (some .int) ∈ GW := ⟨ml_L_254, mI_X10_spare, mV_X10_spare, mN_X10, mC_X10_spare⟩
theorem mC_X10_sunday : Cond.code yX10_sunday cX10_sunday 5 (some .int) ∈ GW := GW_8 67 rfl rfl
theorem hy_X10_sunday : yX10_sunday.cls = yX10_sunday.cls ∧ yX10_sunday.cls ≠ "java/lang/invoke/MethodHandle" ∧ yX10_sunday.cls ≠ "java/lang/invoke/VarHandle" ∧ (parseMethodDescriptor yX10_sunday.desc).map (fun d => d.parameters.length) = some 4 := by decide +kernel
theorem mI_X10_sunday : Cond.instanceMethod yX10_sunday ∈ GW := GW_8 65 rfl rfl
theorem mV_X10_sunday : Cond.selects yX10_sunday.cls yX10_sunday yX10_sunday ∈ GW := GW_8 66 rfl rfl
theorem ml_L_257 : Cond.methodLink RL 257 yX10_sunday ∈ GW := GW_8 64 rfl rfl
theorem cl_L_257 : Cond.methodLink RL 257 yX10_sunday ∈ GW ∧ Cond.instanceMethod yX10_sunday ∈ GW ∧ Cond.selects yX10_sunday.cls yX10_sunday yX10_sunday ∈ GW ∧ Cond.initialized yX10_sunday.cls ∈ GW ∧ Cond.code yX10_sunday cX10_sunday 5 (some .int) ∈ GW := ⟨ml_L_257, mI_X10_sunday, mV_X10_sunday, mN_X10, mC_X10_sunday⟩
theorem mC_X10_span : Cond.code yX10_span cX10_span 12 (some .int) ∈ GW := GW_8 83 rfl rfl
theorem hy_X10_span : yX10_span.cls = yX10_span.cls ∧ yX10_span.cls ≠ "java/lang/invoke/MethodHandle" ∧ yX10_span.cls ≠ "java/lang/invoke/VarHandle" ∧ (parseMethodDescriptor yX10_span.desc).map (fun d => d.parameters.length) = some 6 := by decide +kernel
theorem mI_X10_span : Cond.instanceMethod yX10_span ∈ GW := GW_8 81 rfl rfl
theorem mV_X10_span : Cond.selects yX10_span.cls yX10_span yX10_span ∈ GW := GW_8 82 rfl rfl
theorem ml_L_261 : Cond.methodLink RL 261 yX10_span ∈ GW := GW_8 80 rfl rfl
theorem cl_L_261 : Cond.methodLink RL 261 yX10_span ∈ GW ∧ Cond.instanceMethod yX10_span ∈ GW ∧ Cond.selects yX10_span.cls yX10_span yX10_span ∈ GW ∧ Cond.initialized yX10_span.cls ∈ GW ∧ Cond.code yX10_span cX10_span 12 (some .int) ∈ GW := ⟨ml_L_261, mI_X10_span, mV_X10_span, mN_X10, mC_X10_span⟩
theorem mC_X9_image : Cond.code yX9_image cX9_image 1 (some .int) ∈ GW := GW_3 24 rfl rfl
theorem hy_X9_image : yX9_image.cls = yX9_image.cls ∧ yX9_image.cls ≠ "java/lang/invoke/MethodHandle" ∧ yX9_image.cls ≠ "java/lang/invoke/VarHandle" ∧ (parseMethodDescriptor yX9_image.desc).map (fun d => d.parameters.length) = some 0 := by decide +kernel
theorem mI_X9_image : Cond.instanceMethod yX9_image ∈ GW := GW_3 22 rfl rfl
theorem mV_X9_image : Cond.selects yX9_image.cls yX9_image yX9_image ∈ GW := GW_3 23 rfl rfl
theorem ml_L_262 : Cond.methodLink RL 262 yX9_image ∈ GW := GW_3 21 rfl rfl
theorem cl_L_262 : Cond.methodLink RL 262 yX9_image ∈ GW ∧ Cond.instanceMethod yX9_image ∈ GW ∧ Cond.selects yX9_image.cls yX9_image yX9_image ∈ GW ∧ Cond.initialized yX9_image.cls ∈ GW ∧ Cond.code yX9_image cX9_image 1 (some .int) ∈ GW := ⟨ml_L_262, mI_X9_image, mV_X9_image, mN_X9, mC_X9_image⟩
theorem mC_X10_image : Cond.code yX10_image cX10_image 1 (some .int) ∈ GW := GW_8 87 rfl rfl
theorem hy_X10_image : yX10_image.cls = yX10_image.cls ∧ yX10_image.cls ≠ "java/lang/invoke/MethodHandle" ∧ yX10_image.cls ≠ "java/lang/invoke/VarHandle" ∧ (parseMethodDescriptor yX10_image.desc).map (fun d => d.parameters.length) = some 0 := by decide +kernel
theorem mI_X10_image : Cond.instanceMethod yX10_image ∈ GW := GW_8 85 rfl rfl
theorem mV_X10_image : Cond.selects yX10_image.cls yX10_image yX10_image ∈ GW := GW_8 86 rfl rfl
theorem ml_L_265 : Cond.methodLink RL 265 yX10_image ∈ GW := GW_8 84 rfl rfl
theorem cl_L_265 : Cond.methodLink RL 265 yX10_image ∈ GW ∧ Cond.instanceMethod yX10_image ∈ GW ∧ Cond.selects yX10_image.cls yX10_image yX10_image ∈ GW ∧ Cond.initialized yX10_image.cls ∈ GW ∧ Cond.code yX10_image cX10_image 1 (some .int) ∈ GW := ⟨ml_L_265, mI_X10_image, mV_X10_image, mN_X10, mC_X10_image⟩
theorem mC_X9_restore : Cond.code yX9_restore cX9_restore 1 (some .int) ∈ GW := GW_3 32 rfl rfl
theorem hy_X9_restore : yX9_restore.cls = yX9_restore.cls ∧ yX9_restore.cls ≠ "java/lang/invoke/MethodHandle" ∧ yX9_restore.cls ≠ "java/lang/invoke/VarHandle" ∧ (parseMethodDescriptor yX9_restore.desc).map (fun d => d.parameters.length) = some 0 := by decide +kernel
theorem mI_X9_restore : Cond.instanceMethod yX9_restore ∈ GW := GW_3 30 rfl rfl
theorem mV_X9_restore : Cond.selects yX9_restore.cls yX9_restore yX9_restore ∈ GW := GW_3 31 rfl rfl
theorem ml_L_266 : Cond.methodLink RL 266 yX9_restore ∈ GW := GW_3 29 rfl rfl
theorem cl_L_266 : Cond.methodLink RL 266 yX9_restore ∈ GW ∧ Cond.instanceMethod yX9_restore ∈ GW ∧ Cond.selects yX9_restore.cls yX9_restore yX9_restore ∈ GW ∧ Cond.initialized yX9_restore.cls ∈ GW ∧ Cond.code yX9_restore cX9_restore 1 (some .int) ∈ GW := ⟨ml_L_266, mI_X9_restore, mV_X9_restore, mN_X9, mC_X9_restore⟩
theorem mC_X10_restore : Cond.code yX10_restore cX10_restore 1 (some .int) ∈ GW := GW_8 99 rfl rfl
theorem hy_X10_restore : yX10_restore.cls = yX10_restore.cls ∧ yX10_restore.cls ≠ "java/lang/invoke/MethodHandle" ∧ yX10_restore.cls ≠ "java/lang/invoke/VarHandle" ∧ (parseMethodDescriptor yX10_restore.desc).map (fun d => d.parameters.length) = some 0 := by decide +kernel
theorem mI_X10_restore : Cond.instanceMethod yX10_restore ∈ GW := GW_8 97 rfl rfl
theorem mV_X10_restore : Cond.selects yX10_restore.cls yX10_restore yX10_restore ∈ GW := GW_8 98 rfl rfl
theorem ml_L_269 : Cond.methodLink RL 269 yX10_restore ∈ GW := GW_8 96 rfl rfl
theorem cl_L_269 : Cond.methodLink RL 269 yX10_restore ∈ GW ∧ Cond.instanceMethod yX10_restore ∈ GW ∧ Cond.selects yX10_restore.cls yX10_restore yX10_restore ∈ GW ∧ Cond.initialized yX10_restore.cls ∈ GW ∧ Cond.code yX10_restore cX10_restore 1 (some .int) ∈ GW := ⟨ml_L_269, mI_X10_restore, mV_X10_restore, mN_X10, mC_X10_restore⟩
theorem mC_X9_status : Cond.code yX9_status cX9_status 2 (some .int) ∈ GW := GW_3 36 rfl rfl
theorem hy_X9_status : yX9_status.cls = yX9_status.cls ∧ yX9_status.cls ≠ "java/lang/invoke/MethodHandle" ∧ yX9_status.cls ≠ "java/lang/invoke/VarHandle" ∧ (parseMethodDescriptor yX9_status.desc).map (fun d => d.parameters.length) = some 1 := by decide +kernel
theorem mI_X9_status : Cond.instanceMethod yX9_status ∈ GW := GW_3 34 rfl rfl
theorem mV_X9_status : Cond.selects yX9_status.cls yX9_status yX9_status ∈ GW := GW_3 35 rfl rfl
theorem ml_L_270 : Cond.methodLink RL 270 yX9_status ∈ GW := GW_3 33 rfl rfl
theorem cl_L_270 : Cond.methodLink RL 270 yX9_status ∈ GW ∧ Cond.instanceMethod yX9_status ∈ GW ∧ Cond.selects yX9_status.cls yX9_status yX9_status ∈ GW ∧ Cond.initialized yX9_status.cls ∈ GW ∧ Cond.code yX9_status cX9_status 2 (some .int) ∈ GW := ⟨ml_L_270, mI_X9_status, mV_X9_status, mN_X9, mC_X9_status⟩
theorem mC_X10_status : Cond.code yX10_status cX10_status 2 (some .int) ∈ GW := GW_8 103 rfl rfl
theorem hy_X10_status : yX10_status.cls = yX10_status.cls ∧ yX10_status.cls ≠ "java/lang/invoke/MethodHandle" ∧ yX10_status.cls ≠ "java/lang/invoke/VarHandle" ∧ (parseMethodDescriptor yX10_status.desc).map (fun d => d.parameters.length) = some 1 := by decide +kernel
theorem mI_X10_status : Cond.instanceMethod yX10_status ∈ GW := GW_8 101 rfl rfl
theorem mV_X10_status : Cond.selects yX10_status.cls yX10_status yX10_status ∈ GW := GW_8 102 rfl rfl
theorem ml_L_273 : Cond.methodLink RL 273 yX10_status ∈ GW := GW_8 100 rfl rfl
theorem cl_L_273 : Cond.methodLink RL 273 yX10_status ∈ GW ∧ Cond.instanceMethod yX10_status ∈ GW ∧ Cond.selects yX10_status.cls yX10_status yX10_status ∈ GW ∧ Cond.initialized yX10_status.cls ∈ GW ∧ Cond.code yX10_status cX10_status 2 (some .int) ∈ GW := ⟨ml_L_273, mI_X10_status, mV_X10_status, mN_X10, mC_X10_status⟩
theorem mC_X9_count : Cond.code yX9_count cX9_count 2 (some .int) ∈ GW := GW_3 40 rfl rfl
theorem hy_X9_count : yX9_count.cls = yX9_count.cls ∧ yX9_count.cls ≠ "java/lang/invoke/MethodHandle" ∧ yX9_count.cls ≠ "java/lang/invoke/VarHandle" ∧ (parseMethodDescriptor yX9_count.desc).map (fun d => d.parameters.length) = some 1 := by decide +kernel
theorem mI_X9_count : Cond.instanceMethod yX9_count ∈ GW := GW_3 38 rfl rfl
theorem mV_X9_count : Cond.selects yX9_count.cls yX9_count yX9_count ∈ GW := GW_3 39 rfl rfl
theorem ml_L_274 : Cond.methodLink RL 274 yX9_count ∈ GW := GW_3 37 rfl rfl
theorem cl_L_274 : Cond.methodLink RL 274 yX9_count ∈ GW ∧ Cond.instanceMethod yX9_count ∈ GW ∧ Cond.selects yX9_count.cls yX9_count yX9_count ∈ GW ∧ Cond.initialized yX9_count.cls ∈ GW ∧ Cond.code yX9_count cX9_count 2 (some .int) ∈ GW := ⟨ml_L_274, mI_X9_count, mV_X9_count, mN_X9, mC_X9_count⟩
theorem mC_X10_count : Cond.code yX10_count cX10_count 2 (some .int) ∈ GW := GW_8 107 rfl rfl
theorem hy_X10_count : yX10_count.cls = yX10_count.cls ∧ yX10_count.cls ≠ "java/lang/invoke/MethodHandle" ∧ yX10_count.cls ≠ "java/lang/invoke/VarHandle" ∧ (parseMethodDescriptor yX10_count.desc).map (fun d => d.parameters.length) = some 1 := by decide +kernel
theorem mI_X10_count : Cond.instanceMethod yX10_count ∈ GW := GW_8 105 rfl rfl
theorem mV_X10_count : Cond.selects yX10_count.cls yX10_count yX10_count ∈ GW := GW_8 106 rfl rfl
theorem ml_L_277 : Cond.methodLink RL 277 yX10_count ∈ GW := GW_8 104 rfl rfl
theorem cl_L_277 : Cond.methodLink RL 277 yX10_count ∈ GW ∧ Cond.instanceMethod yX10_count ∈ GW ∧ Cond.selects yX10_count.cls yX10_count yX10_count ∈ GW ∧ Cond.initialized yX10_count.cls ∈ GW ∧ Cond.code yX10_count cX10_count 2 (some .int) ∈ GW := ⟨ml_L_277, mI_X10_count, mV_X10_count, mN_X10, mC_X10_count⟩
theorem mC_X10_tellsNothing : Cond.code yX10_tellsNothing cX10_tellsNothing 2 none ∈ GW := GW_5 238 rfl rfl
theorem hy_X10_tellsNothing : yX10_tellsNothing.cls = yX10_tellsNothing.cls ∧ yX10_tellsNothing.cls ≠ "java/lang/invoke/MethodHandle" ∧ yX10_tellsNothing.cls ≠ "java/lang/invoke/VarHandle" ∧ (parseMethodDescriptor yX10_tellsNothing.desc).map (fun d => d.parameters.length) = some 0 := by decide +kernel
theorem mI_X10_tellsNothing : Cond.instanceMethod yX10_tellsNothing ∈ GW := GW_5 237 rfl rfl
theorem mV_X10_tellsNothing : Cond.selects yX10_tellsNothing.cls yX10_tellsNothing yX10_tellsNothing ∈ GW := GW_p 41 rfl rfl
theorem ml_X10_89 : Cond.methodLink RX10 89 yX10_tellsNothing ∈ GW := GW_5 235 rfl rfl
theorem cl_X10_89 : Cond.methodLink RX10 89 yX10_tellsNothing ∈ GW ∧ Cond.instanceMethod yX10_tellsNothing ∈ GW ∧ Cond.selects yX10_tellsNothing.cls yX10_tellsNothing yX10_tellsNothing ∈ GW ∧ Cond.initialized yX10_tellsNothing.cls ∈ GW ∧ Cond.code yX10_tellsNothing cX10_tellsNothing 2 none ∈ GW := ⟨ml_X10_89, mI_X10_tellsNothing, mV_X10_tellsNothing, mN_X10, mC_X10_tellsNothing⟩
theorem mC_X10_beginsAnew : Cond.code yX10_beginsAnew cX10_beginsAnew 2 none ∈ GW := GW_6 2 rfl rfl
theorem hy_X10_beginsAnew : yX10_beginsAnew.cls = yX10_beginsAnew.cls ∧ yX10_beginsAnew.cls ≠ "java/lang/invoke/MethodHandle" ∧ yX10_beginsAnew.cls ≠ "java/lang/invoke/VarHandle" ∧ (parseMethodDescriptor yX10_beginsAnew.desc).map (fun d => d.parameters.length) = some 0 := by decide +kernel
theorem mI_X10_beginsAnew : Cond.instanceMethod yX10_beginsAnew ∈ GW := GW_6 1 rfl rfl
theorem mV_X10_beginsAnew : Cond.selects yX10_beginsAnew.cls yX10_beginsAnew yX10_beginsAnew ∈ GW := GW_p 42 rfl rfl
theorem ml_X10_92 : Cond.methodLink RX10 92 yX10_beginsAnew ∈ GW := GW_5 239 rfl rfl
theorem cl_X10_92 : Cond.methodLink RX10 92 yX10_beginsAnew ∈ GW ∧ Cond.instanceMethod yX10_beginsAnew ∈ GW ∧ Cond.selects yX10_beginsAnew.cls yX10_beginsAnew yX10_beginsAnew ∈ GW ∧ Cond.initialized yX10_beginsAnew.cls ∈ GW ∧ Cond.code yX10_beginsAnew cX10_beginsAnew 2 none ∈ GW := ⟨ml_X10_92, mI_X10_beginsAnew, mV_X10_beginsAnew, mN_X10, mC_X10_beginsAnew⟩
theorem mC_X10_byteAt : Cond.code yX10_byteAt cX10_byteAt 2 (some .int) ∈ GW := GW_6 180 rfl rfl
theorem hy_X10_byteAt : yX10_byteAt.cls = yX10_byteAt.cls ∧ yX10_byteAt.cls ≠ "java/lang/invoke/MethodHandle" ∧ yX10_byteAt.cls ≠ "java/lang/invoke/VarHandle" ∧ (parseMethodDescriptor yX10_byteAt.desc).map (fun d => d.parameters.length) = some 1 := by decide +kernel
theorem mI_X10_byteAt : Cond.instanceMethod yX10_byteAt ∈ GW := GW_6 179 rfl rfl
theorem mV_X10_byteAt : Cond.selects yX10_byteAt.cls yX10_byteAt yX10_byteAt ∈ GW := GW_p 47 rfl rfl
theorem ml_X10_107 : Cond.methodLink RX10 107 yX10_byteAt ∈ GW := GW_6 177 rfl rfl
theorem cl_X10_107 : Cond.methodLink RX10 107 yX10_byteAt ∈ GW ∧ Cond.instanceMethod yX10_byteAt ∈ GW ∧ Cond.selects yX10_byteAt.cls yX10_byteAt yX10_byteAt ∈ GW ∧ Cond.initialized yX10_byteAt.cls ∈ GW ∧ Cond.code yX10_byteAt cX10_byteAt 2 (some .int) ∈ GW := ⟨ml_X10_107, mI_X10_byteAt, mV_X10_byteAt, mN_X10, mC_X10_byteAt⟩
theorem mC_X10_blanks : Cond.code yX10_blanks cX10_blanks 1 none ∈ GW := GW_6 176 rfl rfl
theorem hy_X10_blanks : yX10_blanks.cls = yX10_blanks.cls ∧ yX10_blanks.cls ≠ "java/lang/invoke/MethodHandle" ∧ yX10_blanks.cls ≠ "java/lang/invoke/VarHandle" ∧ (parseMethodDescriptor yX10_blanks.desc).map (fun d => d.parameters.length) = some 0 := by decide +kernel
theorem mI_X10_blanks : Cond.instanceMethod yX10_blanks ∈ GW := GW_6 175 rfl rfl
theorem mV_X10_blanks : Cond.selects yX10_blanks.cls yX10_blanks yX10_blanks ∈ GW := GW_p 46 rfl rfl
theorem ml_X10_117 : Cond.methodLink RX10 117 yX10_blanks ∈ GW := GW_6 173 rfl rfl
theorem cl_X10_117 : Cond.methodLink RX10 117 yX10_blanks ∈ GW ∧ Cond.instanceMethod yX10_blanks ∈ GW ∧ Cond.selects yX10_blanks.cls yX10_blanks yX10_blanks ∈ GW ∧ Cond.initialized yX10_blanks.cls ∈ GW ∧ Cond.code yX10_blanks cX10_blanks 1 none ∈ GW := ⟨ml_X10_117, mI_X10_blanks, mV_X10_blanks, mN_X10, mC_X10_blanks⟩
theorem mC_X10_isDigit : Cond.code yX10_isDigit cX10_isDigit 1 (some .boolean) ∈ GW := GW_6 220 rfl rfl
theorem hy_X10_isDigit : yX10_isDigit.cls = yX10_isDigit.cls ∧ yX10_isDigit.cls ≠ "java/lang/invoke/MethodHandle" ∧ yX10_isDigit.cls ≠ "java/lang/invoke/VarHandle" ∧ (parseMethodDescriptor yX10_isDigit.desc).map (fun d => d.parameters.length) = some 1 := by decide +kernel
theorem mS_X10_isDigit : Cond.static yX10_isDigit ∈ GW := GW_6 219 rfl rfl
theorem ml_X10_120 : Cond.methodLink RX10 120 yX10_isDigit ∈ GW := GW_6 218 rfl rfl
theorem cl_X10_120 : Cond.methodLink RX10 120 yX10_isDigit ∈ GW ∧ Cond.static yX10_isDigit ∈ GW ∧ Cond.initialized yX10_isDigit.cls ∈ GW ∧ Cond.code yX10_isDigit cX10_isDigit 1 (some .boolean) ∈ GW := ⟨ml_X10_120, mS_X10_isDigit, mN_X10, mC_X10_isDigit⟩
theorem mC_X10_wrong : Cond.code yX10_wrong cX10_wrong 3 none ∈ GW := GW_6 206 rfl rfl
theorem hy_X10_wrong : yX10_wrong.cls = yX10_wrong.cls ∧ yX10_wrong.cls ≠ "java/lang/invoke/MethodHandle" ∧ yX10_wrong.cls ≠ "java/lang/invoke/VarHandle" ∧ (parseMethodDescriptor yX10_wrong.desc).map (fun d => d.parameters.length) = some 2 := by decide +kernel
theorem mI_X10_wrong : Cond.instanceMethod yX10_wrong ∈ GW := GW_6 205 rfl rfl
theorem mV_X10_wrong : Cond.selects yX10_wrong.cls yX10_wrong yX10_wrong ∈ GW := GW_p 52 rfl rfl
theorem ml_X10_124 : Cond.methodLink RX10 124 yX10_wrong ∈ GW := GW_6 203 rfl rfl
theorem cl_X10_124 : Cond.methodLink RX10 124 yX10_wrong ∈ GW ∧ Cond.instanceMethod yX10_wrong ∈ GW ∧ Cond.selects yX10_wrong.cls yX10_wrong yX10_wrong ∈ GW ∧ Cond.initialized yX10_wrong.cls ∈ GW ∧ Cond.code yX10_wrong cX10_wrong 3 none ∈ GW := ⟨ml_X10_124, mI_X10_wrong, mV_X10_wrong, mN_X10, mC_X10_wrong⟩
theorem mC_X10_in : Cond.code yX10_in cX10_in 3 (some .boolean) ∈ GW := GW_6 164 rfl rfl
theorem hy_X10_in : yX10_in.cls = yX10_in.cls ∧ yX10_in.cls ≠ "java/lang/invoke/MethodHandle" ∧ yX10_in.cls ≠ "java/lang/invoke/VarHandle" ∧ (parseMethodDescriptor yX10_in.desc).map (fun d => d.parameters.length) = some 3 := by decide +kernel
theorem mS_X10_in : Cond.static yX10_in ∈ GW := GW_6 163 rfl rfl
theorem ml_X10_129 : Cond.methodLink RX10 129 yX10_in ∈ GW := GW_6 162 rfl rfl
theorem cl_X10_129 : Cond.methodLink RX10 129 yX10_in ∈ GW ∧ Cond.static yX10_in ∈ GW ∧ Cond.initialized yX10_in.cls ∈ GW ∧ Cond.code yX10_in cX10_in 3 (some .boolean) ∈ GW := ⟨ml_X10_129, mS_X10_in, mN_X10, mC_X10_in⟩
theorem mC_X10_isSmall : Cond.code yX10_isSmall cX10_isSmall 1 (some .boolean) ∈ GW := GW_6 199 rfl rfl
theorem hy_X10_isSmall : yX10_isSmall.cls = yX10_isSmall.cls ∧ yX10_isSmall.cls ≠ "java/lang/invoke/MethodHandle" ∧ yX10_isSmall.cls ≠ "java/lang/invoke/VarHandle" ∧ (parseMethodDescriptor yX10_isSmall.desc).map (fun d => d.parameters.length) = some 1 := by decide +kernel
theorem mS_X10_isSmall : Cond.static yX10_isSmall ∈ GW := GW_6 198 rfl rfl
theorem ml_X10_133 : Cond.methodLink RX10 133 yX10_isSmall ∈ GW := GW_6 197 rfl rfl
theorem cl_X10_133 : Cond.methodLink RX10 133 yX10_isSmall ∈ GW ∧ Cond.static yX10_isSmall ∈ GW ∧ Cond.initialized yX10_isSmall.cls ∈ GW ∧ Cond.code yX10_isSmall cX10_isSmall 1 (some .boolean) ∈ GW := ⟨ml_X10_133, mS_X10_isSmall, mN_X10, mC_X10_isSmall⟩
theorem mC_X10_wordHere : Cond.code yX10_wordHere cX10_wordHere 3 (some .int) ∈ GW := GW_6 196 rfl rfl
theorem hy_X10_wordHere : yX10_wordHere.cls = yX10_wordHere.cls ∧ yX10_wordHere.cls ≠ "java/lang/invoke/MethodHandle" ∧ yX10_wordHere.cls ≠ "java/lang/invoke/VarHandle" ∧ (parseMethodDescriptor yX10_wordHere.desc).map (fun d => d.parameters.length) = some 0 := by decide +kernel
theorem mI_X10_wordHere : Cond.instanceMethod yX10_wordHere ∈ GW := GW_6 195 rfl rfl
theorem mV_X10_wordHere : Cond.selects yX10_wordHere.cls yX10_wordHere yX10_wordHere ∈ GW := GW_p 51 rfl rfl
theorem ml_X10_136 : Cond.methodLink RX10 136 yX10_wordHere ∈ GW := GW_6 193 rfl rfl
theorem cl_X10_136 : Cond.methodLink RX10 136 yX10_wordHere ∈ GW ∧ Cond.instanceMethod yX10_wordHere ∈ GW ∧ Cond.selects yX10_wordHere.cls yX10_wordHere yX10_wordHere ∈ GW ∧ Cond.initialized yX10_wordHere.cls ∈ GW ∧ Cond.code yX10_wordHere cX10_wordHere 3 (some .int) ∈ GW := ⟨ml_X10_136, mI_X10_wordHere, mV_X10_wordHere, mN_X10, mC_X10_wordHere⟩
theorem mC_X10_six : Cond.code yX10_six cX10_six 7 (some .int) ∈ GW := GW_6 202 rfl rfl
theorem hy_X10_six : yX10_six.cls = yX10_six.cls ∧ yX10_six.cls ≠ "java/lang/invoke/MethodHandle" ∧ yX10_six.cls ≠ "java/lang/invoke/VarHandle" ∧ (parseMethodDescriptor yX10_six.desc).map (fun d => d.parameters.length) = some 6 := by decide +kernel
theorem mS_X10_six : Cond.static yX10_six ∈ GW := GW_6 201 rfl rfl
theorem ml_X10_140 : Cond.methodLink RX10 140 yX10_six ∈ GW := GW_6 200 rfl rfl
theorem cl_X10_140 : Cond.methodLink RX10 140 yX10_six ∈ GW ∧ Cond.static yX10_six ∈ GW ∧ Cond.initialized yX10_six.cls ∈ GW ∧ Cond.code yX10_six cX10_six 7 (some .int) ∈ GW := ⟨ml_X10_140, mS_X10_six, mN_X10, mC_X10_six⟩
theorem mC_X10_isWord : Cond.code yX10_isWord cX10_isWord 7 (some .boolean) ∈ GW := GW_6 192 rfl rfl
theorem hy_X10_isWord : yX10_isWord.cls = yX10_isWord.cls ∧ yX10_isWord.cls ≠ "java/lang/invoke/MethodHandle" ∧ yX10_isWord.cls ≠ "java/lang/invoke/VarHandle" ∧ (parseMethodDescriptor yX10_isWord.desc).map (fun d => d.parameters.length) = some 6 := by decide +kernel
theorem mI_X10_isWord : Cond.instanceMethod yX10_isWord ∈ GW := GW_6 191 rfl rfl
theorem mV_X10_isWord : Cond.selects yX10_isWord.cls yX10_isWord yX10_isWord ∈ GW := GW_p 50 rfl rfl
theorem ml_X10_144 : Cond.methodLink RX10 144 yX10_isWord ∈ GW := GW_6 189 rfl rfl
theorem cl_X10_144 : Cond.methodLink RX10 144 yX10_isWord ∈ GW ∧ Cond.instanceMethod yX10_isWord ∈ GW ∧ Cond.selects yX10_isWord.cls yX10_isWord yX10_isWord ∈ GW ∧ Cond.initialized yX10_isWord.cls ∈ GW ∧ Cond.code yX10_isWord cX10_isWord 7 (some .boolean) ∈ GW := ⟨ml_X10_144, mI_X10_isWord, mV_X10_isWord, mN_X10, mC_X10_isWord⟩
theorem mC_X10_skipWord : Cond.code yX10_skipWord cX10_skipWord 1 none ∈ GW := GW_6 213 rfl rfl
theorem hy_X10_skipWord : yX10_skipWord.cls = yX10_skipWord.cls ∧ yX10_skipWord.cls ≠ "java/lang/invoke/MethodHandle" ∧ yX10_skipWord.cls ≠ "java/lang/invoke/VarHandle" ∧ (parseMethodDescriptor yX10_skipWord.desc).map (fun d => d.parameters.length) = some 0 := by decide +kernel
theorem mI_X10_skipWord : Cond.instanceMethod yX10_skipWord ∈ GW := GW_6 212 rfl rfl
theorem mV_X10_skipWord : Cond.selects yX10_skipWord.cls yX10_skipWord yX10_skipWord ∈ GW := GW_p 53 rfl rfl
theorem ml_X10_148 : Cond.methodLink RX10 148 yX10_skipWord ∈ GW := GW_6 210 rfl rfl
theorem cl_X10_148 : Cond.methodLink RX10 148 yX10_skipWord ∈ GW ∧ Cond.instanceMethod yX10_skipWord ∈ GW ∧ Cond.selects yX10_skipWord.cls yX10_skipWord yX10_skipWord ∈ GW ∧ Cond.initialized yX10_skipWord.cls ∈ GW ∧ Cond.code yX10_skipWord cX10_skipWord 1 none ∈ GW := ⟨ml_X10_148, mI_X10_skipWord, mV_X10_skipWord, mN_X10, mC_X10_skipWord⟩
theorem mC_X10_kindHere : Cond.code yX10_kindHere cX10_kindHere 1 (some .int) ∈ GW := GW_6 188 rfl rfl
theorem hy_X10_kindHere : yX10_kindHere.cls = yX10_kindHere.cls ∧ yX10_kindHere.cls ≠ "java/lang/invoke/MethodHandle" ∧ yX10_kindHere.cls ≠ "java/lang/invoke/VarHandle" ∧ (parseMethodDescriptor yX10_kindHere.desc).map (fun d => d.parameters.length) = some 0 := by decide +kernel
theorem mI_X10_kindHere : Cond.instanceMethod yX10_kindHere ∈ GW := GW_6 187 rfl rfl
theorem mV_X10_kindHere : Cond.selects yX10_kindHere.cls yX10_kindHere yX10_kindHere ∈ GW := GW_p 49 rfl rfl
theorem ml_X10_157 : Cond.methodLink RX10 157 yX10_kindHere ∈ GW := GW_6 185 rfl rfl
theorem cl_X10_157 : Cond.methodLink RX10 157 yX10_kindHere ∈ GW ∧ Cond.instanceMethod yX10_kindHere ∈ GW ∧ Cond.selects yX10_kindHere.cls yX10_kindHere yX10_kindHere ∈ GW ∧ Cond.initialized yX10_kindHere.cls ∈ GW ∧ Cond.code yX10_kindHere cX10_kindHere 1 (some .int) ∈ GW := ⟨ml_X10_157, mI_X10_kindHere, mV_X10_kindHere, mN_X10, mC_X10_kindHere⟩
theorem mC_X10_mostOf : Cond.code yX10_mostOf cX10_mostOf 1 (some .int) ∈ GW := GW_6 209 rfl rfl
theorem hy_X10_mostOf : yX10_mostOf.cls = yX10_mostOf.cls ∧ yX10_mostOf.cls ≠ "java/lang/invoke/MethodHandle" ∧ yX10_mostOf.cls ≠ "java/lang/invoke/VarHandle" ∧ (parseMethodDescriptor yX10_mostOf.desc).map (fun d => d.parameters.length) = some 1 := by decide +kernel
theorem mS_X10_mostOf : Cond.static yX10_mostOf ∈ GW := GW_6 208 rfl rfl
theorem ml_X10_160 : Cond.methodLink RX10 160 yX10_mostOf ∈ GW := GW_6 207 rfl rfl
theorem cl_X10_160 : Cond.methodLink RX10 160 yX10_mostOf ∈ GW ∧ Cond.static yX10_mostOf ∈ GW ∧ Cond.initialized yX10_mostOf.cls ∈ GW ∧ Cond.code yX10_mostOf cX10_mostOf 1 (some .int) ∈ GW := ⟨ml_X10_160, mS_X10_mostOf, mN_X10, mC_X10_mostOf⟩
theorem mC_X10_number : Cond.code yX10_number cX10_number 5 (some .int) ∈ GW := GW_6 217 rfl rfl
theorem hy_X10_number : yX10_number.cls = yX10_number.cls ∧ yX10_number.cls ≠ "java/lang/invoke/MethodHandle" ∧ yX10_number.cls ≠ "java/lang/invoke/VarHandle" ∧ (parseMethodDescriptor yX10_number.desc).map (fun d => d.parameters.length) = some 2 := by decide +kernel
theorem mI_X10_number : Cond.instanceMethod yX10_number ∈ GW := GW_6 216 rfl rfl
theorem mV_X10_number : Cond.selects yX10_number.cls yX10_number yX10_number ∈ GW := GW_p 54 rfl rfl
theorem ml_X10_163 : Cond.methodLink RX10 163 yX10_number ∈ GW := GW_6 214 rfl rfl
theorem cl_X10_163 : Cond.methodLink RX10 163 yX10_number ∈ GW ∧ Cond.instanceMethod yX10_number ∈ GW ∧ Cond.selects yX10_number.cls yX10_number yX10_number ∈ GW ∧ Cond.initialized yX10_number.cls ∈ GW ∧ Cond.code yX10_number cX10_number 5 (some .int) ∈ GW := ⟨ml_X10_163, mI_X10_number, mV_X10_number, mN_X10, mC_X10_number⟩
theorem mC_X10_sign : Cond.code yX10_sign cX10_sign 2 none ∈ GW := GW_6 225 rfl rfl
theorem hy_X10_sign : yX10_sign.cls = yX10_sign.cls ∧ yX10_sign.cls ≠ "java/lang/invoke/MethodHandle" ∧ yX10_sign.cls ≠ "java/lang/invoke/VarHandle" ∧ (parseMethodDescriptor yX10_sign.desc).map (fun d => d.parameters.length) = some 1 := by decide +kernel
theorem mI_X10_sign : Cond.instanceMethod yX10_sign ∈ GW := GW_6 224 rfl rfl
theorem mV_X10_sign : Cond.selects yX10_sign.cls yX10_sign yX10_sign ∈ GW := GW_p 55 rfl rfl
theorem ml_X10_167 : Cond.methodLink RX10 167 yX10_sign ∈ GW := GW_6 222 rfl rfl
theorem cl_X10_167 : Cond.methodLink RX10 167 yX10_sign ∈ GW ∧ Cond.instanceMethod yX10_sign ∈ GW ∧ Cond.selects yX10_sign.cls yX10_sign yX10_sign ∈ GW ∧ Cond.initialized yX10_sign.cls ∈ GW ∧ Cond.code yX10_sign cX10_sign 2 none ∈ GW := ⟨ml_X10_167, mI_X10_sign, mV_X10_sign, mN_X10, mC_X10_sign⟩
theorem mC_X10_bad : Cond.code yX10_bad cX10_bad 4 (some .boolean) ∈ GW := GW_6 168 rfl rfl
theorem hy_X10_bad : yX10_bad.cls = yX10_bad.cls ∧ yX10_bad.cls ≠ "java/lang/invoke/MethodHandle" ∧ yX10_bad.cls ≠ "java/lang/invoke/VarHandle" ∧ (parseMethodDescriptor yX10_bad.desc).map (fun d => d.parameters.length) = some 3 := by decide +kernel
theorem mI_X10_bad : Cond.instanceMethod yX10_bad ∈ GW := GW_6 167 rfl rfl
theorem mV_X10_bad : Cond.selects yX10_bad.cls yX10_bad yX10_bad ∈ GW := GW_p 44 rfl rfl
theorem ml_X10_171 : Cond.methodLink RX10 171 yX10_bad ∈ GW := GW_6 165 rfl rfl
theorem cl_X10_171 : Cond.methodLink RX10 171 yX10_bad ∈ GW ∧ Cond.instanceMethod yX10_bad ∈ GW ∧ Cond.selects yX10_bad.cls yX10_bad yX10_bad ∈ GW ∧ Cond.initialized yX10_bad.cls ∈ GW ∧ Cond.code yX10_bad cX10_bad 4 (some .boolean) ∈ GW := ⟨ml_X10_171, mI_X10_bad, mV_X10_bad, mN_X10, mC_X10_bad⟩
theorem mC_X10_starts : Cond.code yX10_starts cX10_starts 2 none ∈ GW := GW_6 172 rfl rfl
theorem hy_X10_starts : yX10_starts.cls = yX10_starts.cls ∧ yX10_starts.cls ≠ "java/lang/invoke/MethodHandle" ∧ yX10_starts.cls ≠ "java/lang/invoke/VarHandle" ∧ (parseMethodDescriptor yX10_starts.desc).map (fun d => d.parameters.length) = some 1 := by decide +kernel
theorem mI_X10_starts : Cond.instanceMethod yX10_starts ∈ GW := GW_6 171 rfl rfl
theorem mV_X10_starts : Cond.selects yX10_starts.cls yX10_starts yX10_starts ∈ GW := GW_p 45 rfl rfl
theorem ml_X10_175 : Cond.methodLink RX10 175 yX10_starts ∈ GW := GW_6 169 rfl rfl
theorem cl_X10_175 : Cond.methodLink RX10 175 yX10_starts ∈ GW ∧ Cond.instanceMethod yX10_starts ∈ GW ∧ Cond.selects yX10_starts.cls yX10_starts yX10_starts ∈ GW ∧ Cond.initialized yX10_starts.cls ∈ GW ∧ Cond.code yX10_starts cX10_starts 2 none ∈ GW := ⟨ml_X10_175, mI_X10_starts, mV_X10_starts, mN_X10, mC_X10_starts⟩
theorem mC_X10_clause : Cond.code yX10_clause cX10_clause 4 none ∈ GW := GW_6 184 rfl rfl
theorem hy_X10_clause : yX10_clause.cls = yX10_clause.cls ∧ yX10_clause.cls ≠ "java/lang/invoke/MethodHandle" ∧ yX10_clause.cls ≠ "java/lang/invoke/VarHandle" ∧ (parseMethodDescriptor yX10_clause.desc).map (fun d => d.parameters.length) = some 0 := by decide +kernel
theorem mI_X10_clause : Cond.instanceMethod yX10_clause ∈ GW := GW_6 183 rfl rfl
theorem mV_X10_clause : Cond.selects yX10_clause.cls yX10_clause yX10_clause ∈ GW := GW_p 48 rfl rfl
theorem ml_X10_178 : Cond.methodLink RX10 178 yX10_clause ∈ GW := GW_6 181 rfl rfl
theorem cl_X10_178 : Cond.methodLink RX10 178 yX10_clause ∈ GW ∧ Cond.instanceMethod yX10_clause ∈ GW ∧ Cond.selects yX10_clause.cls yX10_clause yX10_clause ∈ GW ∧ Cond.initialized yX10_clause.cls ∈ GW ∧ Cond.code yX10_clause cX10_clause 4 none ∈ GW := ⟨ml_X10_178, mI_X10_clause, mV_X10_clause, mN_X10, mC_X10_clause⟩
theorem mC_X10_ends : Cond.code yX10_ends cX10_ends 1 (some .int) ∈ GW := GW_6 229 rfl rfl
theorem hy_X10_ends : yX10_ends.cls = yX10_ends.cls ∧ yX10_ends.cls ≠ "java/lang/invoke/MethodHandle" ∧ yX10_ends.cls ≠ "java/lang/invoke/VarHandle" ∧ (parseMethodDescriptor yX10_ends.desc).map (fun d => d.parameters.length) = some 0 := by decide +kernel
theorem mI_X10_ends : Cond.instanceMethod yX10_ends ∈ GW := GW_6 228 rfl rfl
theorem mV_X10_ends : Cond.selects yX10_ends.cls yX10_ends yX10_ends ∈ GW := GW_p 56 rfl rfl
theorem ml_X10_181 : Cond.methodLink RX10 181 yX10_ends ∈ GW := GW_6 226 rfl rfl
theorem cl_X10_181 : Cond.methodLink RX10 181 yX10_ends ∈ GW ∧ Cond.instanceMethod yX10_ends ∈ GW ∧ Cond.selects yX10_ends.cls yX10_ends yX10_ends ∈ GW ∧ Cond.initialized yX10_ends.cls ∈ GW ∧ Cond.code yX10_ends cX10_ends 1 (some .int) ∈ GW := ⟨ml_X10_181, mI_X10_ends, mV_X10_ends, mN_X10, mC_X10_ends⟩
theorem mC_X10_lays : Cond.code yX10_lays cX10_lays 5 none ∈ GW := GW_6 5 rfl rfl
theorem hy_X10_lays : yX10_lays.cls = yX10_lays.cls ∧ yX10_lays.cls ≠ "java/lang/invoke/MethodHandle" ∧ yX10_lays.cls ≠ "java/lang/invoke/VarHandle" ∧ (parseMethodDescriptor yX10_lays.desc).map (fun d => d.parameters.length) = some 3 := by decide +kernel
theorem mS_X10_lays : Cond.static yX10_lays ∈ GW := GW_6 4 rfl rfl
theorem ml_X10_184 : Cond.methodLink RX10 184 yX10_lays ∈ GW := GW_6 3 rfl rfl
theorem cl_X10_184 : Cond.methodLink RX10 184 yX10_lays ∈ GW ∧ Cond.static yX10_lays ∈ GW ∧ Cond.initialized yX10_lays.cls ∈ GW ∧ Cond.code yX10_lays cX10_lays 5 none ∈ GW := ⟨ml_X10_184, mS_X10_lays, mN_X10, mC_X10_lays⟩
theorem mC_X10_breathes : Cond.code yX10_breathes cX10_breathes 3 none ∈ GW := GW_6 9 rfl rfl
theorem hy_X10_breathes : yX10_breathes.cls = yX10_breathes.cls ∧ yX10_breathes.cls ≠ "java/lang/invoke/MethodHandle" ∧ yX10_breathes.cls ≠ "java/lang/invoke/VarHandle" ∧ (parseMethodDescriptor yX10_breathes.desc).map (fun d => d.parameters.length) = some 1 := by decide +kernel
theorem mI_X10_breathes : Cond.instanceMethod yX10_breathes ∈ GW := GW_6 8 rfl rfl
theorem mV_X10_breathes : Cond.selects yX10_breathes.cls yX10_breathes yX10_breathes ∈ GW := GW_p 43 rfl rfl
theorem ml_X10_188 : Cond.methodLink RX10 188 yX10_breathes ∈ GW := GW_6 6 rfl rfl
theorem cl_X10_188 : Cond.methodLink RX10 188 yX10_breathes ∈ GW ∧ Cond.instanceMethod yX10_breathes ∈ GW ∧ Cond.selects yX10_breathes.cls yX10_breathes yX10_breathes ∈ GW ∧ Cond.initialized yX10_breathes.cls ∈ GW ∧ Cond.code yX10_breathes cX10_breathes 3 none ∈ GW := ⟨ml_X10_188, mI_X10_breathes, mV_X10_breathes, mN_X10, mC_X10_breathes⟩
theorem mC_X10_product : Cond.code yX10_product cX10_product 2 none ∈ GW := GW_7 1 rfl rfl
theorem hy_X10_product : yX10_product.cls = yX10_product.cls ∧ yX10_product.cls ≠ "java/lang/invoke/MethodHandle" ∧ yX10_product.cls ≠ "java/lang/invoke/VarHandle" ∧ (parseMethodDescriptor yX10_product.desc).map (fun d => d.parameters.length) = some 0 := by decide +kernel
theorem mI_X10_product : Cond.instanceMethod yX10_product ∈ GW := GW_7 0 rfl rfl
theorem mV_X10_product : Cond.selects yX10_product.cls yX10_product yX10_product ∈ GW := GW_p 58 rfl rfl
theorem ml_X10_210 : Cond.methodLink RX10 210 yX10_product ∈ GW := GW_6 238 rfl rfl
theorem cl_X10_210 : Cond.methodLink RX10 210 yX10_product ∈ GW ∧ Cond.instanceMethod yX10_product ∈ GW ∧ Cond.selects yX10_product.cls yX10_product yX10_product ∈ GW ∧ Cond.initialized yX10_product.cls ∈ GW ∧ Cond.code yX10_product cX10_product 2 none ∈ GW := ⟨ml_X10_210, mI_X10_product, mV_X10_product, mN_X10, mC_X10_product⟩
theorem mC_X10_takesSign : Cond.code yX10_takesSign cX10_takesSign 3 (some .boolean) ∈ GW := GW_7 25 rfl rfl
theorem hy_X10_takesSign : yX10_takesSign.cls = yX10_takesSign.cls ∧ yX10_takesSign.cls ≠ "java/lang/invoke/MethodHandle" ∧ yX10_takesSign.cls ≠ "java/lang/invoke/VarHandle" ∧ (parseMethodDescriptor yX10_takesSign.desc).map (fun d => d.parameters.length) = some 1 := by decide +kernel
theorem mI_X10_takesSign : Cond.instanceMethod yX10_takesSign ∈ GW := GW_7 24 rfl rfl
theorem mV_X10_takesSign : Cond.selects yX10_takesSign.cls yX10_takesSign yX10_takesSign ∈ GW := GW_p 64 rfl rfl
theorem ml_X10_213 : Cond.methodLink RX10 213 yX10_takesSign ∈ GW := GW_7 22 rfl rfl
theorem cl_X10_213 : Cond.methodLink RX10 213 yX10_takesSign ∈ GW ∧ Cond.instanceMethod yX10_takesSign ∈ GW ∧ Cond.selects yX10_takesSign.cls yX10_takesSign yX10_takesSign ∈ GW ∧ Cond.initialized yX10_takesSign.cls ∈ GW ∧ Cond.code yX10_takesSign cX10_takesSign 3 (some .boolean) ∈ GW := ⟨ml_X10_213, mI_X10_takesSign, mV_X10_takesSign, mN_X10, mC_X10_takesSign⟩
theorem mC_X10_notes : Cond.code yX10_notes cX10_notes 3 none ∈ GW := GW_7 13 rfl rfl
theorem hy_X10_notes : yX10_notes.cls = yX10_notes.cls ∧ yX10_notes.cls ≠ "java/lang/invoke/MethodHandle" ∧ yX10_notes.cls ≠ "java/lang/invoke/VarHandle" ∧ (parseMethodDescriptor yX10_notes.desc).map (fun d => d.parameters.length) = some 2 := by decide +kernel
theorem mI_X10_notes : Cond.instanceMethod yX10_notes ∈ GW := GW_7 12 rfl rfl
theorem mV_X10_notes : Cond.selects yX10_notes.cls yX10_notes yX10_notes ∈ GW := GW_p 61 rfl rfl
theorem ml_X10_216 : Cond.methodLink RX10 216 yX10_notes ∈ GW := GW_7 10 rfl rfl
theorem cl_X10_216 : Cond.methodLink RX10 216 yX10_notes ∈ GW ∧ Cond.instanceMethod yX10_notes ∈ GW ∧ Cond.selects yX10_notes.cls yX10_notes yX10_notes ∈ GW ∧ Cond.initialized yX10_notes.cls ∈ GW ∧ Cond.code yX10_notes cX10_notes 3 none ∈ GW := ⟨ml_X10_216, mI_X10_notes, mV_X10_notes, mN_X10, mC_X10_notes⟩
theorem mC_X10_one : Cond.code yX10_one cX10_one 3 none ∈ GW := GW_7 5 rfl rfl
theorem hy_X10_one : yX10_one.cls = yX10_one.cls ∧ yX10_one.cls ≠ "java/lang/invoke/MethodHandle" ∧ yX10_one.cls ≠ "java/lang/invoke/VarHandle" ∧ (parseMethodDescriptor yX10_one.desc).map (fun d => d.parameters.length) = some 0 := by decide +kernel
theorem mI_X10_one : Cond.instanceMethod yX10_one ∈ GW := GW_7 4 rfl rfl
theorem mV_X10_one : Cond.selects yX10_one.cls yX10_one yX10_one ∈ GW := GW_p 59 rfl rfl
theorem ml_X10_219 : Cond.methodLink RX10 219 yX10_one ∈ GW := GW_7 2 rfl rfl
theorem cl_X10_219 : Cond.methodLink RX10 219 yX10_one ∈ GW ∧ Cond.instanceMethod yX10_one ∈ GW ∧ Cond.selects yX10_one.cls yX10_one yX10_one ∈ GW ∧ Cond.initialized yX10_one.cls ∈ GW ∧ Cond.code yX10_one cX10_one 3 none ∈ GW := ⟨ml_X10_219, mI_X10_one, mV_X10_one, mN_X10, mC_X10_one⟩
theorem mC_X10_isNext : Cond.code yX10_isNext cX10_isNext 8 (some .boolean) ∈ GW := GW_7 21 rfl rfl
theorem hy_X10_isNext : yX10_isNext.cls = yX10_isNext.cls ∧ yX10_isNext.cls ≠ "java/lang/invoke/MethodHandle" ∧ yX10_isNext.cls ≠ "java/lang/invoke/VarHandle" ∧ (parseMethodDescriptor yX10_isNext.desc).map (fun d => d.parameters.length) = some 6 := by decide +kernel
theorem mI_X10_isNext : Cond.instanceMethod yX10_isNext ∈ GW := GW_7 20 rfl rfl
theorem mV_X10_isNext : Cond.selects yX10_isNext.cls yX10_isNext yX10_isNext ∈ GW := GW_p 63 rfl rfl
theorem ml_X10_222 : Cond.methodLink RX10 222 yX10_isNext ∈ GW := GW_7 18 rfl rfl
theorem cl_X10_222 : Cond.methodLink RX10 222 yX10_isNext ∈ GW ∧ Cond.instanceMethod yX10_isNext ∈ GW ∧ Cond.selects yX10_isNext.cls yX10_isNext yX10_isNext ∈ GW ∧ Cond.initialized yX10_isNext.cls ∈ GW ∧ Cond.code yX10_isNext cX10_isNext 8 (some .boolean) ∈ GW := ⟨ml_X10_222, mI_X10_isNext, mV_X10_isNext, mN_X10, mC_X10_isNext⟩
theorem mC_X10_opensOne : Cond.code yX10_opensOne cX10_opensOne 1 (some .boolean) ∈ GW := GW_7 9 rfl rfl
theorem hy_X10_opensOne : yX10_opensOne.cls = yX10_opensOne.cls ∧ yX10_opensOne.cls ≠ "java/lang/invoke/MethodHandle" ∧ yX10_opensOne.cls ≠ "java/lang/invoke/VarHandle" ∧ (parseMethodDescriptor yX10_opensOne.desc).map (fun d => d.parameters.length) = some 0 := by decide +kernel
theorem mI_X10_opensOne : Cond.instanceMethod yX10_opensOne ∈ GW := GW_7 8 rfl rfl
theorem mV_X10_opensOne : Cond.selects yX10_opensOne.cls yX10_opensOne yX10_opensOne ∈ GW := GW_p 60 rfl rfl
theorem ml_X10_225 : Cond.methodLink RX10 225 yX10_opensOne ∈ GW := GW_7 6 rfl rfl
theorem cl_X10_225 : Cond.methodLink RX10 225 yX10_opensOne ∈ GW ∧ Cond.instanceMethod yX10_opensOne ∈ GW ∧ Cond.selects yX10_opensOne.cls yX10_opensOne yX10_opensOne ∈ GW ∧ Cond.initialized yX10_opensOne.cls ∈ GW ∧ Cond.code yX10_opensOne cX10_opensOne 1 (some .boolean) ∈ GW := ⟨ml_X10_225, mI_X10_opensOne, mV_X10_opensOne, mN_X10, mC_X10_opensOne⟩
theorem mC_X10_sum : Cond.code yX10_sum cX10_sum 2 none ∈ GW := GW_6 237 rfl rfl
theorem hy_X10_sum : yX10_sum.cls = yX10_sum.cls ∧ yX10_sum.cls ≠ "java/lang/invoke/MethodHandle" ∧ yX10_sum.cls ≠ "java/lang/invoke/VarHandle" ∧ (parseMethodDescriptor yX10_sum.desc).map (fun d => d.parameters.length) = some 0 := by decide +kernel
theorem mI_X10_sum : Cond.instanceMethod yX10_sum ∈ GW := GW_6 236 rfl rfl
theorem mV_X10_sum : Cond.selects yX10_sum.cls yX10_sum yX10_sum ∈ GW := GW_p 57 rfl rfl
theorem ml_X10_229 : Cond.methodLink RX10 229 yX10_sum ∈ GW := GW_6 234 rfl rfl
theorem cl_X10_229 : Cond.methodLink RX10 229 yX10_sum ∈ GW ∧ Cond.instanceMethod yX10_sum ∈ GW ∧ Cond.selects yX10_sum.cls yX10_sum yX10_sum ∈ GW ∧ Cond.initialized yX10_sum.cls ∈ GW ∧ Cond.code yX10_sum cX10_sum 2 none ∈ GW := ⟨ml_X10_229, mI_X10_sum, mV_X10_sum, mN_X10, mC_X10_sum⟩
theorem mC_X10_knownHere : Cond.code yX10_knownHere cX10_knownHere 1 (some .int) ∈ GW := GW_7 17 rfl rfl
theorem hy_X10_knownHere : yX10_knownHere.cls = yX10_knownHere.cls ∧ yX10_knownHere.cls ≠ "java/lang/invoke/MethodHandle" ∧ yX10_knownHere.cls ≠ "java/lang/invoke/VarHandle" ∧ (parseMethodDescriptor yX10_knownHere.desc).map (fun d => d.parameters.length) = some 0 := by decide +kernel
theorem mI_X10_knownHere : Cond.instanceMethod yX10_knownHere ∈ GW := GW_7 16 rfl rfl
theorem mV_X10_knownHere : Cond.selects yX10_knownHere.cls yX10_knownHere yX10_knownHere ∈ GW := GW_p 62 rfl rfl
theorem ml_X10_232 : Cond.methodLink RX10 232 yX10_knownHere ∈ GW := GW_7 14 rfl rfl
theorem cl_X10_232 : Cond.methodLink RX10 232 yX10_knownHere ∈ GW ∧ Cond.instanceMethod yX10_knownHere ∈ GW ∧ Cond.selects yX10_knownHere.cls yX10_knownHere yX10_knownHere ∈ GW ∧ Cond.initialized yX10_knownHere.cls ∈ GW ∧ Cond.code yX10_knownHere cX10_knownHere 1 (some .int) ∈ GW := ⟨ml_X10_232, mI_X10_knownHere, mV_X10_knownHere, mN_X10, mC_X10_knownHere⟩
theorem mC_X10_less : Cond.code yX10_less cX10_less 2 (some .int) ∈ GW := GW_7 85 rfl rfl
theorem hy_X10_less : yX10_less.cls = yX10_less.cls ∧ yX10_less.cls ≠ "java/lang/invoke/MethodHandle" ∧ yX10_less.cls ≠ "java/lang/invoke/VarHandle" ∧ (parseMethodDescriptor yX10_less.desc).map (fun d => d.parameters.length) = some 2 := by decide +kernel
theorem mS_X10_less : Cond.static yX10_less ∈ GW := GW_7 84 rfl rfl
theorem ml_X10_235 : Cond.methodLink RX10 235 yX10_less ∈ GW := GW_7 83 rfl rfl
theorem cl_X10_235 : Cond.methodLink RX10 235 yX10_less ∈ GW ∧ Cond.static yX10_less ∈ GW ∧ Cond.initialized yX10_less.cls ∈ GW ∧ Cond.code yX10_less cX10_less 2 (some .int) ∈ GW := ⟨ml_X10_235, mS_X10_less, mN_X10, mC_X10_less⟩
theorem mC_X10_more : Cond.code yX10_more cX10_more 2 (some .int) ∈ GW := GW_7 88 rfl rfl
theorem hy_X10_more : yX10_more.cls = yX10_more.cls ∧ yX10_more.cls ≠ "java/lang/invoke/MethodHandle" ∧ yX10_more.cls ≠ "java/lang/invoke/VarHandle" ∧ (parseMethodDescriptor yX10_more.desc).map (fun d => d.parameters.length) = some 2 := by decide +kernel
theorem mS_X10_more : Cond.static yX10_more ∈ GW := GW_7 87 rfl rfl
theorem ml_X10_238 : Cond.methodLink RX10 238 yX10_more ∈ GW := GW_7 86 rfl rfl
theorem cl_X10_238 : Cond.methodLink RX10 238 yX10_more ∈ GW ∧ Cond.static yX10_more ∈ GW ∧ Cond.initialized yX10_more.cls ∈ GW ∧ Cond.code yX10_more cX10_more 2 (some .int) ∈ GW := ⟨ml_X10_238, mS_X10_more, mN_X10, mC_X10_more⟩
theorem mC_X10_by : Cond.code yX10_by cX10_by 3 (some .int) ∈ GW := GW_7 82 rfl rfl
theorem hy_X10_by : yX10_by.cls = yX10_by.cls ∧ yX10_by.cls ≠ "java/lang/invoke/MethodHandle" ∧ yX10_by.cls ≠ "java/lang/invoke/VarHandle" ∧ (parseMethodDescriptor yX10_by.desc).map (fun d => d.parameters.length) = some 3 := by decide +kernel
theorem mS_X10_by : Cond.static yX10_by ∈ GW := GW_7 81 rfl rfl
theorem ml_X10_241 : Cond.methodLink RX10 241 yX10_by ∈ GW := GW_7 80 rfl rfl
theorem cl_X10_241 : Cond.methodLink RX10 241 yX10_by ∈ GW ∧ Cond.static yX10_by ∈ GW ∧ Cond.initialized yX10_by.cls ∈ GW ∧ Cond.code yX10_by cX10_by 3 (some .int) ∈ GW := ⟨ml_X10_241, mS_X10_by, mN_X10, mC_X10_by⟩
theorem mC_X10_stepHere : Cond.code yX10_stepHere cX10_stepHere 1 (some .int) ∈ GW := GW_7 48 rfl rfl
theorem hy_X10_stepHere : yX10_stepHere.cls = yX10_stepHere.cls ∧ yX10_stepHere.cls ≠ "java/lang/invoke/MethodHandle" ∧ yX10_stepHere.cls ≠ "java/lang/invoke/VarHandle" ∧ (parseMethodDescriptor yX10_stepHere.desc).map (fun d => d.parameters.length) = some 0 := by decide +kernel
theorem mI_X10_stepHere : Cond.instanceMethod yX10_stepHere ∈ GW := GW_7 47 rfl rfl
theorem mV_X10_stepHere : Cond.selects yX10_stepHere.cls yX10_stepHere yX10_stepHere ∈ GW := GW_p 66 rfl rfl
theorem ml_X10_245 : Cond.methodLink RX10 245 yX10_stepHere ∈ GW := GW_7 45 rfl rfl
theorem cl_X10_245 : Cond.methodLink RX10 245 yX10_stepHere ∈ GW ∧ Cond.instanceMethod yX10_stepHere ∈ GW ∧ Cond.selects yX10_stepHere.cls yX10_stepHere yX10_stepHere ∈ GW ∧ Cond.initialized yX10_stepHere.cls ∈ GW ∧ Cond.code yX10_stepHere cX10_stepHere 1 (some .int) ∈ GW := ⟨ml_X10_245, mI_X10_stepHere, mV_X10_stepHere, mN_X10, mC_X10_stepHere⟩
theorem mC_X10_readsStep : Cond.code yX10_readsStep cX10_readsStep 3 none ∈ GW := GW_7 44 rfl rfl
theorem hy_X10_readsStep : yX10_readsStep.cls = yX10_readsStep.cls ∧ yX10_readsStep.cls ≠ "java/lang/invoke/MethodHandle" ∧ yX10_readsStep.cls ≠ "java/lang/invoke/VarHandle" ∧ (parseMethodDescriptor yX10_readsStep.desc).map (fun d => d.parameters.length) = some 0 := by decide +kernel
theorem mI_X10_readsStep : Cond.instanceMethod yX10_readsStep ∈ GW := GW_7 43 rfl rfl
theorem mV_X10_readsStep : Cond.selects yX10_readsStep.cls yX10_readsStep yX10_readsStep ∈ GW := GW_p 65 rfl rfl
theorem ml_X10_251 : Cond.methodLink RX10 251 yX10_readsStep ∈ GW := GW_7 41 rfl rfl
theorem cl_X10_251 : Cond.methodLink RX10 251 yX10_readsStep ∈ GW ∧ Cond.instanceMethod yX10_readsStep ∈ GW ∧ Cond.selects yX10_readsStep.cls yX10_readsStep yX10_readsStep ∈ GW ∧ Cond.initialized yX10_readsStep.cls ∈ GW ∧ Cond.code yX10_readsStep cX10_readsStep 3 none ∈ GW := ⟨ml_X10_251, mI_X10_readsStep, mV_X10_readsStep, mN_X10, mC_X10_readsStep⟩
theorem mC_X10_has : Cond.code yX10_has cX10_has 2 (some .boolean) ∈ GW := GW_7 32 rfl rfl
theorem hy_X10_has : yX10_has.cls = yX10_has.cls ∧ yX10_has.cls ≠ "java/lang/invoke/MethodHandle" ∧ yX10_has.cls ≠ "java/lang/invoke/VarHandle" ∧ (parseMethodDescriptor yX10_has.desc).map (fun d => d.parameters.length) = some 2 := by decide +kernel
theorem mS_X10_has : Cond.static yX10_has ∈ GW := GW_7 31 rfl rfl
theorem ml_X10_254 : Cond.methodLink RX10 254 yX10_has ∈ GW := GW_7 30 rfl rfl
theorem cl_X10_254 : Cond.methodLink RX10 254 yX10_has ∈ GW ∧ Cond.static yX10_has ∈ GW ∧ Cond.initialized yX10_has.cls ∈ GW ∧ Cond.code yX10_has cX10_has 2 (some .boolean) ∈ GW := ⟨ml_X10_254, mS_X10_has, mN_X10, mC_X10_has⟩
theorem mC_X10_byLaw : Cond.code yX10_byLaw cX10_byLaw 3 (some .int) ∈ GW := GW_7 79 rfl rfl
theorem hy_X10_byLaw : yX10_byLaw.cls = yX10_byLaw.cls ∧ yX10_byLaw.cls ≠ "java/lang/invoke/MethodHandle" ∧ yX10_byLaw.cls ≠ "java/lang/invoke/VarHandle" ∧ (parseMethodDescriptor yX10_byLaw.desc).map (fun d => d.parameters.length) = some 0 := by decide +kernel
theorem mI_X10_byLaw : Cond.instanceMethod yX10_byLaw ∈ GW := GW_7 78 rfl rfl
theorem mV_X10_byLaw : Cond.selects yX10_byLaw.cls yX10_byLaw yX10_byLaw ∈ GW := GW_p 73 rfl rfl
theorem ml_X10_258 : Cond.methodLink RX10 258 yX10_byLaw ∈ GW := GW_7 76 rfl rfl
theorem cl_X10_258 : Cond.methodLink RX10 258 yX10_byLaw ∈ GW ∧ Cond.instanceMethod yX10_byLaw ∈ GW ∧ Cond.selects yX10_byLaw.cls yX10_byLaw yX10_byLaw ∈ GW ∧ Cond.initialized yX10_byLaw.cls ∈ GW ∧ Cond.code yX10_byLaw cX10_byLaw 3 (some .int) ∈ GW := ⟨ml_X10_258, mI_X10_byLaw, mV_X10_byLaw, mN_X10, mC_X10_byLaw⟩
theorem mC_X10_breathBy : Cond.code yX10_breathBy cX10_breathBy 9 (some .int) ∈ GW := GW_7 75 rfl rfl
theorem hy_X10_breathBy : yX10_breathBy.cls = yX10_breathBy.cls ∧ yX10_breathBy.cls ≠ "java/lang/invoke/MethodHandle" ∧ yX10_breathBy.cls ≠ "java/lang/invoke/VarHandle" ∧ (parseMethodDescriptor yX10_breathBy.desc).map (fun d => d.parameters.length) = some 8 := by decide +kernel
theorem mI_X10_breathBy : Cond.instanceMethod yX10_breathBy ∈ GW := GW_7 74 rfl rfl
theorem mV_X10_breathBy : Cond.selects yX10_breathBy.cls yX10_breathBy yX10_breathBy ∈ GW := GW_p 72 rfl rfl
theorem ml_X10_261 : Cond.methodLink RX10 261 yX10_breathBy ∈ GW := GW_7 72 rfl rfl
theorem cl_X10_261 : Cond.methodLink RX10 261 yX10_breathBy ∈ GW ∧ Cond.instanceMethod yX10_breathBy ∈ GW ∧ Cond.selects yX10_breathBy.cls yX10_breathBy yX10_breathBy ∈ GW ∧ Cond.initialized yX10_breathBy.cls ∈ GW ∧ Cond.code yX10_breathBy cX10_breathBy 9 (some .int) ∈ GW := ⟨ml_X10_261, mI_X10_breathBy, mV_X10_breathBy, mN_X10, mC_X10_breathBy⟩
theorem mC_X10_breathOf : Cond.code yX10_breathOf cX10_breathOf 4 (some .int) ∈ GW := GW_7 71 rfl rfl
theorem hy_X10_breathOf : yX10_breathOf.cls = yX10_breathOf.cls ∧ yX10_breathOf.cls ≠ "java/lang/invoke/MethodHandle" ∧ yX10_breathOf.cls ≠ "java/lang/invoke/VarHandle" ∧ (parseMethodDescriptor yX10_breathOf.desc).map (fun d => d.parameters.length) = some 3 := by decide +kernel
theorem mI_X10_breathOf : Cond.instanceMethod yX10_breathOf ∈ GW := GW_7 70 rfl rfl
theorem mV_X10_breathOf : Cond.selects yX10_breathOf.cls yX10_breathOf yX10_breathOf ∈ GW := GW_p 71 rfl rfl
theorem ml_X10_265 : Cond.methodLink RX10 265 yX10_breathOf ∈ GW := GW_7 68 rfl rfl
theorem cl_X10_265 : Cond.methodLink RX10 265 yX10_breathOf ∈ GW ∧ Cond.instanceMethod yX10_breathOf ∈ GW ∧ Cond.selects yX10_breathOf.cls yX10_breathOf yX10_breathOf ∈ GW ∧ Cond.initialized yX10_breathOf.cls ∈ GW ∧ Cond.code yX10_breathOf cX10_breathOf 4 (some .int) ∈ GW := ⟨ml_X10_265, mI_X10_breathOf, mV_X10_breathOf, mN_X10, mC_X10_breathOf⟩
theorem mC_X10_sungBy : Cond.code yX10_sungBy cX10_sungBy 4 (some .int) ∈ GW := GW_7 67 rfl rfl
theorem hy_X10_sungBy : yX10_sungBy.cls = yX10_sungBy.cls ∧ yX10_sungBy.cls ≠ "java/lang/invoke/MethodHandle" ∧ yX10_sungBy.cls ≠ "java/lang/invoke/VarHandle" ∧ (parseMethodDescriptor yX10_sungBy.desc).map (fun d => d.parameters.length) = some 2 := by decide +kernel
theorem mI_X10_sungBy : Cond.instanceMethod yX10_sungBy ∈ GW := GW_7 66 rfl rfl
theorem mV_X10_sungBy : Cond.selects yX10_sungBy.cls yX10_sungBy yX10_sungBy ∈ GW := GW_p 70 rfl rfl
theorem ml_X10_269 : Cond.methodLink RX10 269 yX10_sungBy ∈ GW := GW_7 64 rfl rfl
theorem cl_X10_269 : Cond.methodLink RX10 269 yX10_sungBy ∈ GW ∧ Cond.instanceMethod yX10_sungBy ∈ GW ∧ Cond.selects yX10_sungBy.cls yX10_sungBy yX10_sungBy ∈ GW ∧ Cond.initialized yX10_sungBy.cls ∈ GW ∧ Cond.code yX10_sungBy cX10_sungBy 4 (some .int) ∈ GW := ⟨ml_X10_269, mI_X10_sungBy, mV_X10_sungBy, mN_X10, mC_X10_sungBy⟩
theorem mC_X10_sings : Cond.code yX10_sings cX10_sings 4 (some .boolean) ∈ GW := GW_7 63 rfl rfl
theorem hy_X10_sings : yX10_sings.cls = yX10_sings.cls ∧ yX10_sings.cls ≠ "java/lang/invoke/MethodHandle" ∧ yX10_sings.cls ≠ "java/lang/invoke/VarHandle" ∧ (parseMethodDescriptor yX10_sings.desc).map (fun d => d.parameters.length) = some 2 := by decide +kernel
theorem mI_X10_sings : Cond.instanceMethod yX10_sings ∈ GW := GW_7 62 rfl rfl
theorem mV_X10_sings : Cond.selects yX10_sings.cls yX10_sings yX10_sings ∈ GW := GW_p 69 rfl rfl
theorem ml_X10_276 : Cond.methodLink RX10 276 yX10_sings ∈ GW := GW_7 60 rfl rfl
theorem cl_X10_276 : Cond.methodLink RX10 276 yX10_sings ∈ GW ∧ Cond.instanceMethod yX10_sings ∈ GW ∧ Cond.selects yX10_sings.cls yX10_sings yX10_sings ∈ GW ∧ Cond.initialized yX10_sings.cls ∈ GW ∧ Cond.code yX10_sings cX10_sings 4 (some .boolean) ∈ GW := ⟨ml_X10_276, mI_X10_sings, mV_X10_sings, mN_X10, mC_X10_sings⟩
theorem mC_X10_hymns : Cond.code yX10_hymns cX10_hymns 4 none ∈ GW := GW_7 92 rfl rfl
theorem hy_X10_hymns : yX10_hymns.cls = yX10_hymns.cls ∧ yX10_hymns.cls ≠ "java/lang/invoke/MethodHandle" ∧ yX10_hymns.cls ≠ "java/lang/invoke/VarHandle" ∧ (parseMethodDescriptor yX10_hymns.desc).map (fun d => d.parameters.length) = some 1 := by decide +kernel
theorem mI_X10_hymns : Cond.instanceMethod yX10_hymns ∈ GW := GW_7 91 rfl rfl
theorem mV_X10_hymns : Cond.selects yX10_hymns.cls yX10_hymns yX10_hymns ∈ GW := GW_p 74 rfl rfl
theorem ml_X10_280 : Cond.methodLink RX10 280 yX10_hymns ∈ GW := GW_7 89 rfl rfl
theorem cl_X10_280 : Cond.methodLink RX10 280 yX10_hymns ∈ GW ∧ Cond.instanceMethod yX10_hymns ∈ GW ∧ Cond.selects yX10_hymns.cls yX10_hymns yX10_hymns ∈ GW ∧ Cond.initialized yX10_hymns.cls ∈ GW ∧ Cond.code yX10_hymns cX10_hymns 4 none ∈ GW := ⟨ml_X10_280, mI_X10_hymns, mV_X10_hymns, mN_X10, mC_X10_hymns⟩
theorem mC_X10_rests : Cond.code yX10_rests cX10_rests 4 (some .boolean) ∈ GW := GW_7 96 rfl rfl
theorem hy_X10_rests : yX10_rests.cls = yX10_rests.cls ∧ yX10_rests.cls ≠ "java/lang/invoke/MethodHandle" ∧ yX10_rests.cls ≠ "java/lang/invoke/VarHandle" ∧ (parseMethodDescriptor yX10_rests.desc).map (fun d => d.parameters.length) = some 1 := by decide +kernel
theorem mI_X10_rests : Cond.instanceMethod yX10_rests ∈ GW := GW_7 95 rfl rfl
theorem mV_X10_rests : Cond.selects yX10_rests.cls yX10_rests yX10_rests ∈ GW := GW_p 75 rfl rfl
theorem ml_X10_283 : Cond.methodLink RX10 283 yX10_rests ∈ GW := GW_7 93 rfl rfl
theorem cl_X10_283 : Cond.methodLink RX10 283 yX10_rests ∈ GW ∧ Cond.instanceMethod yX10_rests ∈ GW ∧ Cond.selects yX10_rests.cls yX10_rests yX10_rests ∈ GW ∧ Cond.initialized yX10_rests.cls ∈ GW ∧ Cond.code yX10_rests cX10_rests 4 (some .boolean) ∈ GW := ⟨ml_X10_283, mI_X10_rests, mV_X10_rests, mN_X10, mC_X10_rests⟩
theorem mC_X10_becomes : Cond.code yX10_becomes cX10_becomes 3 (some .boolean) ∈ GW := GW_7 99 rfl rfl
theorem hy_X10_becomes : yX10_becomes.cls = yX10_becomes.cls ∧ yX10_becomes.cls ≠ "java/lang/invoke/MethodHandle" ∧ yX10_becomes.cls ≠ "java/lang/invoke/VarHandle" ∧ (parseMethodDescriptor yX10_becomes.desc).map (fun d => d.parameters.length) = some 3 := by decide +kernel
theorem mS_X10_becomes : Cond.static yX10_becomes ∈ GW := GW_7 98 rfl rfl
theorem ml_X10_287 : Cond.methodLink RX10 287 yX10_becomes ∈ GW := GW_7 97 rfl rfl
theorem cl_X10_287 : Cond.methodLink RX10 287 yX10_becomes ∈ GW ∧ Cond.static yX10_becomes ∈ GW ∧ Cond.initialized yX10_becomes.cls ∈ GW ∧ Cond.code yX10_becomes cX10_becomes 3 (some .boolean) ∈ GW := ⟨ml_X10_287, mS_X10_becomes, mN_X10, mC_X10_becomes⟩
theorem mC_X10_wordsOf : Cond.code yX10_wordsOf cX10_wordsOf 4 (some .int) ∈ GW := GW_7 103 rfl rfl
theorem hy_X10_wordsOf : yX10_wordsOf.cls = yX10_wordsOf.cls ∧ yX10_wordsOf.cls ≠ "java/lang/invoke/MethodHandle" ∧ yX10_wordsOf.cls ≠ "java/lang/invoke/VarHandle" ∧ (parseMethodDescriptor yX10_wordsOf.desc).map (fun d => d.parameters.length) = some 1 := by decide +kernel
theorem mI_X10_wordsOf : Cond.instanceMethod yX10_wordsOf ∈ GW := GW_7 102 rfl rfl
theorem mV_X10_wordsOf : Cond.selects yX10_wordsOf.cls yX10_wordsOf yX10_wordsOf ∈ GW := GW_p 76 rfl rfl
theorem ml_X10_291 : Cond.methodLink RX10 291 yX10_wordsOf ∈ GW := GW_7 100 rfl rfl
theorem cl_X10_291 : Cond.methodLink RX10 291 yX10_wordsOf ∈ GW ∧ Cond.instanceMethod yX10_wordsOf ∈ GW ∧ Cond.selects yX10_wordsOf.cls yX10_wordsOf yX10_wordsOf ∈ GW ∧ Cond.initialized yX10_wordsOf.cls ∈ GW ∧ Cond.code yX10_wordsOf cX10_wordsOf 4 (some .int) ∈ GW := ⟨ml_X10_291, mI_X10_wordsOf, mV_X10_wordsOf, mN_X10, mC_X10_wordsOf⟩
theorem mC_X10_dayEnds : Cond.code yX10_dayEnds cX10_dayEnds 3 none ∈ GW := GW_7 107 rfl rfl
theorem hy_X10_dayEnds : yX10_dayEnds.cls = yX10_dayEnds.cls ∧ yX10_dayEnds.cls ≠ "java/lang/invoke/MethodHandle" ∧ yX10_dayEnds.cls ≠ "java/lang/invoke/VarHandle" ∧ (parseMethodDescriptor yX10_dayEnds.desc).map (fun d => d.parameters.length) = some 1 := by decide +kernel
theorem mI_X10_dayEnds : Cond.instanceMethod yX10_dayEnds ∈ GW := GW_7 106 rfl rfl
theorem mV_X10_dayEnds : Cond.selects yX10_dayEnds.cls yX10_dayEnds yX10_dayEnds ∈ GW := GW_p 77 rfl rfl
theorem ml_X10_294 : Cond.methodLink RX10 294 yX10_dayEnds ∈ GW := GW_7 104 rfl rfl
theorem cl_X10_294 : Cond.methodLink RX10 294 yX10_dayEnds ∈ GW ∧ Cond.instanceMethod yX10_dayEnds ∈ GW ∧ Cond.selects yX10_dayEnds.cls yX10_dayEnds yX10_dayEnds ∈ GW ∧ Cond.initialized yX10_dayEnds.cls ∈ GW ∧ Cond.code yX10_dayEnds cX10_dayEnds 3 none ∈ GW := ⟨ml_X10_294, mI_X10_dayEnds, mV_X10_dayEnds, mN_X10, mC_X10_dayEnds⟩
theorem mC_X10_goes : Cond.code yX10_goes cX10_goes 5 none ∈ GW := GW_7 55 rfl rfl
theorem hy_X10_goes : yX10_goes.cls = yX10_goes.cls ∧ yX10_goes.cls ≠ "java/lang/invoke/MethodHandle" ∧ yX10_goes.cls ≠ "java/lang/invoke/VarHandle" ∧ (parseMethodDescriptor yX10_goes.desc).map (fun d => d.parameters.length) = some 2 := by decide +kernel
theorem mI_X10_goes : Cond.instanceMethod yX10_goes ∈ GW := GW_7 54 rfl rfl
theorem mV_X10_goes : Cond.selects yX10_goes.cls yX10_goes yX10_goes ∈ GW := GW_p 67 rfl rfl
theorem ml_X10_300 : Cond.methodLink RX10 300 yX10_goes ∈ GW := GW_7 52 rfl rfl
theorem cl_X10_300 : Cond.methodLink RX10 300 yX10_goes ∈ GW ∧ Cond.instanceMethod yX10_goes ∈ GW ∧ Cond.selects yX10_goes.cls yX10_goes yX10_goes ∈ GW ∧ Cond.initialized yX10_goes.cls ∈ GW ∧ Cond.code yX10_goes cX10_goes 5 none ∈ GW := ⟨ml_X10_300, mI_X10_goes, mV_X10_goes, mN_X10, mC_X10_goes⟩
theorem mC_X10_does : Cond.code yX10_does cX10_does 3 (some .boolean) ∈ GW := GW_7 59 rfl rfl
theorem hy_X10_does : yX10_does.cls = yX10_does.cls ∧ yX10_does.cls ≠ "java/lang/invoke/MethodHandle" ∧ yX10_does.cls ≠ "java/lang/invoke/VarHandle" ∧ (parseMethodDescriptor yX10_does.desc).map (fun d => d.parameters.length) = some 2 := by decide +kernel
theorem mI_X10_does : Cond.instanceMethod yX10_does ∈ GW := GW_7 58 rfl rfl
theorem mV_X10_does : Cond.selects yX10_does.cls yX10_does yX10_does ∈ GW := GW_p 68 rfl rfl
theorem ml_X10_303 : Cond.methodLink RX10 303 yX10_does ∈ GW := GW_7 56 rfl rfl
theorem cl_X10_303 : Cond.methodLink RX10 303 yX10_does ∈ GW ∧ Cond.instanceMethod yX10_does ∈ GW ∧ Cond.selects yX10_does.cls yX10_does yX10_does ∈ GW ∧ Cond.initialized yX10_does.cls ∈ GW ∧ Cond.code yX10_does cX10_does 3 (some .boolean) ∈ GW := ⟨ml_X10_303, mI_X10_does, mV_X10_does, mN_X10, mC_X10_does⟩
theorem mC_X10_copies : Cond.code yX10_copies cX10_copies 3 none ∈ GW := GW_7 51 rfl rfl
theorem hy_X10_copies : yX10_copies.cls = yX10_copies.cls ∧ yX10_copies.cls ≠ "java/lang/invoke/MethodHandle" ∧ yX10_copies.cls ≠ "java/lang/invoke/VarHandle" ∧ (parseMethodDescriptor yX10_copies.desc).map (fun d => d.parameters.length) = some 2 := by decide +kernel
theorem mS_X10_copies : Cond.static yX10_copies ∈ GW := GW_7 50 rfl rfl
theorem ml_X10_310 : Cond.methodLink RX10 310 yX10_copies ∈ GW := GW_7 49 rfl rfl
theorem cl_X10_310 : Cond.methodLink RX10 310 yX10_copies ∈ GW ∧ Cond.static yX10_copies ∈ GW ∧ Cond.initialized yX10_copies.cls ∈ GW ∧ Cond.code yX10_copies cX10_copies 3 none ∈ GW := ⟨ml_X10_310, mS_X10_copies, mN_X10, mC_X10_copies⟩
theorem mC_X10_hoarse : Cond.code yX10_hoarse cX10_hoarse 4 (some .int) ∈ GW := GW_7 119 rfl rfl
theorem hy_X10_hoarse : yX10_hoarse.cls = yX10_hoarse.cls ∧ yX10_hoarse.cls ≠ "java/lang/invoke/MethodHandle" ∧ yX10_hoarse.cls ≠ "java/lang/invoke/VarHandle" ∧ (parseMethodDescriptor yX10_hoarse.desc).map (fun d => d.parameters.length) = some 1 := by decide +kernel
theorem mI_X10_hoarse : Cond.instanceMethod yX10_hoarse ∈ GW := GW_7 118 rfl rfl
theorem mV_X10_hoarse : Cond.selects yX10_hoarse.cls yX10_hoarse yX10_hoarse ∈ GW := GW_p 78 rfl rfl
theorem ml_X10_314 : Cond.methodLink RX10 314 yX10_hoarse ∈ GW := GW_7 116 rfl rfl
theorem cl_X10_314 : Cond.methodLink RX10 314 yX10_hoarse ∈ GW ∧ Cond.instanceMethod yX10_hoarse ∈ GW ∧ Cond.selects yX10_hoarse.cls yX10_hoarse yX10_hoarse ∈ GW ∧ Cond.initialized yX10_hoarse.cls ∈ GW ∧ Cond.code yX10_hoarse cX10_hoarse 4 (some .int) ∈ GW := ⟨ml_X10_314, mI_X10_hoarse, mV_X10_hoarse, mN_X10, mC_X10_hoarse⟩
theorem mC_X10_all : Cond.code yX10_all cX10_all 5 (some .int) ∈ GW := GW_7 123 rfl rfl
theorem hy_X10_all : yX10_all.cls = yX10_all.cls ∧ yX10_all.cls ≠ "java/lang/invoke/MethodHandle" ∧ yX10_all.cls ≠ "java/lang/invoke/VarHandle" ∧ (parseMethodDescriptor yX10_all.desc).map (fun d => d.parameters.length) = some 2 := by decide +kernel
theorem mI_X10_all : Cond.instanceMethod yX10_all ∈ GW := GW_7 122 rfl rfl
theorem mV_X10_all : Cond.selects yX10_all.cls yX10_all yX10_all ∈ GW := GW_p 79 rfl rfl
theorem ml_X10_318 : Cond.methodLink RX10 318 yX10_all ∈ GW := GW_7 120 rfl rfl
theorem cl_X10_318 : Cond.methodLink RX10 318 yX10_all ∈ GW ∧ Cond.instanceMethod yX10_all ∈ GW ∧ Cond.selects yX10_all.cls yX10_all yX10_all ∈ GW ∧ Cond.initialized yX10_all.cls ∈ GW ∧ Cond.code yX10_all cX10_all 5 (some .int) ∈ GW := ⟨ml_X10_318, mI_X10_all, mV_X10_all, mN_X10, mC_X10_all⟩
theorem mC_X10_isSinger : Cond.code yX10_isSinger cX10_isSinger 2 (some .boolean) ∈ GW := GW_7 131 rfl rfl
theorem hy_X10_isSinger : yX10_isSinger.cls = yX10_isSinger.cls ∧ yX10_isSinger.cls ≠ "java/lang/invoke/MethodHandle" ∧ yX10_isSinger.cls ≠ "java/lang/invoke/VarHandle" ∧ (parseMethodDescriptor yX10_isSinger.desc).map (fun d => d.parameters.length) = some 1 := by decide +kernel
theorem mI_X10_isSinger : Cond.instanceMethod yX10_isSinger ∈ GW := GW_7 130 rfl rfl
theorem mV_X10_isSinger : Cond.selects yX10_isSinger.cls yX10_isSinger yX10_isSinger ∈ GW := GW_p 80 rfl rfl
theorem ml_X10_321 : Cond.methodLink RX10 321 yX10_isSinger ∈ GW := GW_7 128 rfl rfl
theorem cl_X10_321 : Cond.methodLink RX10 321 yX10_isSinger ∈ GW ∧ Cond.instanceMethod yX10_isSinger ∈ GW ∧ Cond.selects yX10_isSinger.cls yX10_isSinger yX10_isSinger ∈ GW ∧ Cond.initialized yX10_isSinger.cls ∈ GW ∧ Cond.code yX10_isSinger cX10_isSinger 2 (some .boolean) ∈ GW := ⟨ml_X10_321, mI_X10_isSinger, mV_X10_isSinger, mN_X10, mC_X10_isSinger⟩
theorem mC_X10_isNote : Cond.code yX10_isNote cX10_isNote 2 (some .boolean) ∈ GW := GW_7 139 rfl rfl
theorem hy_X10_isNote : yX10_isNote.cls = yX10_isNote.cls ∧ yX10_isNote.cls ≠ "java/lang/invoke/MethodHandle" ∧ yX10_isNote.cls ≠ "java/lang/invoke/VarHandle" ∧ (parseMethodDescriptor yX10_isNote.desc).map (fun d => d.parameters.length) = some 1 := by decide +kernel
theorem mI_X10_isNote : Cond.instanceMethod yX10_isNote ∈ GW := GW_7 138 rfl rfl
theorem mV_X10_isNote : Cond.selects yX10_isNote.cls yX10_isNote yX10_isNote ∈ GW := GW_p 81 rfl rfl
theorem ml_X10_324 : Cond.methodLink RX10 324 yX10_isNote ∈ GW := GW_7 136 rfl rfl
theorem cl_X10_324 : Cond.methodLink RX10 324 yX10_isNote ∈ GW ∧ Cond.instanceMethod yX10_isNote ∈ GW ∧ Cond.selects yX10_isNote.cls yX10_isNote yX10_isNote ∈ GW ∧ Cond.initialized yX10_isNote.cls ∈ GW ∧ Cond.code yX10_isNote cX10_isNote 2 (some .boolean) ∈ GW := ⟨ml_X10_324, mI_X10_isNote, mV_X10_isNote, mN_X10, mC_X10_isNote⟩
theorem mC_X10_isVowel : Cond.code yX10_isVowel cX10_isVowel 1 (some .boolean) ∈ GW := GW_7 154 rfl rfl
theorem hy_X10_isVowel : yX10_isVowel.cls = yX10_isVowel.cls ∧ yX10_isVowel.cls ≠ "java/lang/invoke/MethodHandle" ∧ yX10_isVowel.cls ≠ "java/lang/invoke/VarHandle" ∧ (parseMethodDescriptor yX10_isVowel.desc).map (fun d => d.parameters.length) = some 1 := by decide +kernel
theorem mS_X10_isVowel : Cond.static yX10_isVowel ∈ GW := GW_7 153 rfl rfl
theorem ml_X10_327 : Cond.methodLink RX10 327 yX10_isVowel ∈ GW := GW_7 152 rfl rfl
theorem cl_X10_327 : Cond.methodLink RX10 327 yX10_isVowel ∈ GW ∧ Cond.static yX10_isVowel ∈ GW ∧ Cond.initialized yX10_isVowel.cls ∈ GW ∧ Cond.code yX10_isVowel cX10_isVowel 1 (some .boolean) ∈ GW := ⟨ml_X10_327, mS_X10_isVowel, mN_X10, mC_X10_isVowel⟩
theorem mC_X10_everySinger : Cond.code yX10_everySinger cX10_everySinger 1 (some .int) ∈ GW := GW_7 166 rfl rfl
theorem hy_X10_everySinger : yX10_everySinger.cls = yX10_everySinger.cls ∧ yX10_everySinger.cls ≠ "java/lang/invoke/MethodHandle" ∧ yX10_everySinger.cls ≠ "java/lang/invoke/VarHandle" ∧ (parseMethodDescriptor yX10_everySinger.desc).map (fun d => d.parameters.length) = some 0 := by decide +kernel
theorem mI_X10_everySinger : Cond.instanceMethod yX10_everySinger ∈ GW := GW_7 165 rfl rfl
theorem mV_X10_everySinger : Cond.selects yX10_everySinger.cls yX10_everySinger yX10_everySinger ∈ GW := GW_p 82 rfl rfl
theorem ml_X10_330 : Cond.methodLink RX10 330 yX10_everySinger ∈ GW := GW_7 163 rfl rfl
theorem cl_X10_330 : Cond.methodLink RX10 330 yX10_everySinger ∈ GW ∧ Cond.instanceMethod yX10_everySinger ∈ GW ∧ Cond.selects yX10_everySinger.cls yX10_everySinger yX10_everySinger ∈ GW ∧ Cond.initialized yX10_everySinger.cls ∈ GW ∧ Cond.code yX10_everySinger cX10_everySinger 1 (some .int) ∈ GW := ⟨ml_X10_330, mI_X10_everySinger, mV_X10_everySinger, mN_X10, mC_X10_everySinger⟩
theorem mC_X10_ones : Cond.code yX10_ones cX10_ones 3 (some .int) ∈ GW := GW_7 169 rfl rfl
theorem hy_X10_ones : yX10_ones.cls = yX10_ones.cls ∧ yX10_ones.cls ≠ "java/lang/invoke/MethodHandle" ∧ yX10_ones.cls ≠ "java/lang/invoke/VarHandle" ∧ (parseMethodDescriptor yX10_ones.desc).map (fun d => d.parameters.length) = some 1 := by decide +kernel
theorem mS_X10_ones : Cond.static yX10_ones ∈ GW := GW_7 168 rfl rfl
theorem ml_X10_333 : Cond.methodLink RX10 333 yX10_ones ∈ GW := GW_7 167 rfl rfl
theorem cl_X10_333 : Cond.methodLink RX10 333 yX10_ones ∈ GW ∧ Cond.static yX10_ones ∈ GW ∧ Cond.initialized yX10_ones.cls ∈ GW ∧ Cond.code yX10_ones cX10_ones 3 (some .int) ∈ GW := ⟨ml_X10_333, mS_X10_ones, mN_X10, mC_X10_ones⟩
theorem mC_X10_payOf : Cond.code yX10_payOf cX10_payOf 4 (some .int) ∈ GW := GW_7 173 rfl rfl
theorem hy_X10_payOf : yX10_payOf.cls = yX10_payOf.cls ∧ yX10_payOf.cls ≠ "java/lang/invoke/MethodHandle" ∧ yX10_payOf.cls ≠ "java/lang/invoke/VarHandle" ∧ (parseMethodDescriptor yX10_payOf.desc).map (fun d => d.parameters.length) = some 1 := by decide +kernel
theorem mI_X10_payOf : Cond.instanceMethod yX10_payOf ∈ GW := GW_7 172 rfl rfl
theorem mV_X10_payOf : Cond.selects yX10_payOf.cls yX10_payOf yX10_payOf ∈ GW := GW_p 83 rfl rfl
theorem ml_X10_336 : Cond.methodLink RX10 336 yX10_payOf ∈ GW := GW_7 170 rfl rfl
theorem cl_X10_336 : Cond.methodLink RX10 336 yX10_payOf ∈ GW ∧ Cond.instanceMethod yX10_payOf ∈ GW ∧ Cond.selects yX10_payOf.cls yX10_payOf yX10_payOf ∈ GW ∧ Cond.initialized yX10_payOf.cls ∈ GW ∧ Cond.code yX10_payOf cX10_payOf 4 (some .int) ∈ GW := ⟨ml_X10_336, mI_X10_payOf, mV_X10_payOf, mN_X10, mC_X10_payOf⟩
theorem mC_X10_onlyThese : Cond.code yX10_onlyThese cX10_onlyThese 3 none ∈ GW := GW_7 177 rfl rfl
theorem hy_X10_onlyThese : yX10_onlyThese.cls = yX10_onlyThese.cls ∧ yX10_onlyThese.cls ≠ "java/lang/invoke/MethodHandle" ∧ yX10_onlyThese.cls ≠ "java/lang/invoke/VarHandle" ∧ (parseMethodDescriptor yX10_onlyThese.desc).map (fun d => d.parameters.length) = some 1 := by decide +kernel
theorem mI_X10_onlyThese : Cond.instanceMethod yX10_onlyThese ∈ GW := GW_7 176 rfl rfl
theorem mV_X10_onlyThese : Cond.selects yX10_onlyThese.cls yX10_onlyThese yX10_onlyThese ∈ GW := GW_p 84 rfl rfl
theorem ml_X10_339 : Cond.methodLink RX10 339 yX10_onlyThese ∈ GW := GW_7 174 rfl rfl
theorem cl_X10_339 : Cond.methodLink RX10 339 yX10_onlyThese ∈ GW ∧ Cond.instanceMethod yX10_onlyThese ∈ GW ∧ Cond.selects yX10_onlyThese.cls yX10_onlyThese yX10_onlyThese ∈ GW ∧ Cond.initialized yX10_onlyThese.cls ∈ GW ∧ Cond.code yX10_onlyThese cX10_onlyThese 3 none ∈ GW := ⟨ml_X10_339, mI_X10_onlyThese, mV_X10_onlyThese, mN_X10, mC_X10_onlyThese⟩
theorem mC_X10_handedOf : Cond.code yX10_handedOf cX10_handedOf 7 (some .int) ∈ GW := GW_7 185 rfl rfl
theorem hy_X10_handedOf : yX10_handedOf.cls = yX10_handedOf.cls ∧ yX10_handedOf.cls ≠ "java/lang/invoke/MethodHandle" ∧ yX10_handedOf.cls ≠ "java/lang/invoke/VarHandle" ∧ (parseMethodDescriptor yX10_handedOf.desc).map (fun d => d.parameters.length) = some 2 := by decide +kernel
theorem mI_X10_handedOf : Cond.instanceMethod yX10_handedOf ∈ GW := GW_7 184 rfl rfl
theorem mV_X10_handedOf : Cond.selects yX10_handedOf.cls yX10_handedOf yX10_handedOf ∈ GW := GW_p 85 rfl rfl
theorem ml_X10_342 : Cond.methodLink RX10 342 yX10_handedOf ∈ GW := GW_7 182 rfl rfl
theorem cl_X10_342 : Cond.methodLink RX10 342 yX10_handedOf ∈ GW ∧ Cond.instanceMethod yX10_handedOf ∈ GW ∧ Cond.selects yX10_handedOf.cls yX10_handedOf yX10_handedOf ∈ GW ∧ Cond.initialized yX10_handedOf.cls ∈ GW ∧ Cond.code yX10_handedOf cX10_handedOf 7 (some .int) ∈ GW := ⟨ml_X10_342, mI_X10_handedOf, mV_X10_handedOf, mN_X10, mC_X10_handedOf⟩
theorem mC_X10_benches : Cond.code yX10_benches cX10_benches 5 none ∈ GW := GW_7 197 rfl rfl
theorem hy_X10_benches : yX10_benches.cls = yX10_benches.cls ∧ yX10_benches.cls ≠ "java/lang/invoke/MethodHandle" ∧ yX10_benches.cls ≠ "java/lang/invoke/VarHandle" ∧ (parseMethodDescriptor yX10_benches.desc).map (fun d => d.parameters.length) = some 3 := by decide +kernel
theorem mI_X10_benches : Cond.instanceMethod yX10_benches ∈ GW := GW_7 196 rfl rfl
theorem mV_X10_benches : Cond.selects yX10_benches.cls yX10_benches yX10_benches ∈ GW := GW_p 87 rfl rfl
theorem ml_X10_348 : Cond.methodLink RX10 348 yX10_benches ∈ GW := GW_7 194 rfl rfl
theorem cl_X10_348 : Cond.methodLink RX10 348 yX10_benches ∈ GW ∧ Cond.instanceMethod yX10_benches ∈ GW ∧ Cond.selects yX10_benches.cls yX10_benches yX10_benches ∈ GW ∧ Cond.initialized yX10_benches.cls ∈ GW ∧ Cond.code yX10_benches cX10_benches 5 none ∈ GW := ⟨ml_X10_348, mI_X10_benches, mV_X10_benches, mN_X10, mC_X10_benches⟩
theorem mC_X10_laysBench : Cond.code yX10_laysBench cX10_laysBench 1 none ∈ GW := GW_7 193 rfl rfl
theorem hy_X10_laysBench : yX10_laysBench.cls = yX10_laysBench.cls ∧ yX10_laysBench.cls ≠ "java/lang/invoke/MethodHandle" ∧ yX10_laysBench.cls ≠ "java/lang/invoke/VarHandle" ∧ (parseMethodDescriptor yX10_laysBench.desc).map (fun d => d.parameters.length) = some 0 := by decide +kernel
theorem mI_X10_laysBench : Cond.instanceMethod yX10_laysBench ∈ GW := GW_7 192 rfl rfl
theorem mV_X10_laysBench : Cond.selects yX10_laysBench.cls yX10_laysBench yX10_laysBench ∈ GW := GW_p 86 rfl rfl
theorem ml_X10_352 : Cond.methodLink RX10 352 yX10_laysBench ∈ GW := GW_7 190 rfl rfl
theorem cl_X10_352 : Cond.methodLink RX10 352 yX10_laysBench ∈ GW ∧ Cond.instanceMethod yX10_laysBench ∈ GW ∧ Cond.selects yX10_laysBench.cls yX10_laysBench yX10_laysBench ∈ GW ∧ Cond.initialized yX10_laysBench.cls ∈ GW ∧ Cond.code yX10_laysBench cX10_laysBench 1 none ∈ GW := ⟨ml_X10_352, mI_X10_laysBench, mV_X10_laysBench, mN_X10, mC_X10_laysBench⟩
theorem mC_X10_isHeard : Cond.code yX10_isHeard cX10_isHeard 3 (some .boolean) ∈ GW := GW_7 217 rfl rfl
theorem hy_X10_isHeard : yX10_isHeard.cls = yX10_isHeard.cls ∧ yX10_isHeard.cls ≠ "java/lang/invoke/MethodHandle" ∧ yX10_isHeard.cls ≠ "java/lang/invoke/VarHandle" ∧ (parseMethodDescriptor yX10_isHeard.desc).map (fun d => d.parameters.length) = some 1 := by decide +kernel
theorem mI_X10_isHeard : Cond.instanceMethod yX10_isHeard ∈ GW := GW_7 216 rfl rfl
theorem mV_X10_isHeard : Cond.selects yX10_isHeard.cls yX10_isHeard yX10_isHeard ∈ GW := GW_p 88 rfl rfl
theorem ml_X10_355 : Cond.methodLink RX10 355 yX10_isHeard ∈ GW := GW_7 214 rfl rfl
theorem cl_X10_355 : Cond.methodLink RX10 355 yX10_isHeard ∈ GW ∧ Cond.instanceMethod yX10_isHeard ∈ GW ∧ Cond.selects yX10_isHeard.cls yX10_isHeard yX10_isHeard ∈ GW ∧ Cond.initialized yX10_isHeard.cls ∈ GW ∧ Cond.code yX10_isHeard cX10_isHeard 3 (some .boolean) ∈ GW := ⟨ml_X10_355, mI_X10_isHeard, mV_X10_isHeard, mN_X10, mC_X10_isHeard⟩
theorem mC_X10_isTold : Cond.code yX10_isTold cX10_isTold 3 (some .boolean) ∈ GW := GW_7 225 rfl rfl
theorem hy_X10_isTold : yX10_isTold.cls = yX10_isTold.cls ∧ yX10_isTold.cls ≠ "java/lang/invoke/MethodHandle" ∧ yX10_isTold.cls ≠ "java/lang/invoke/VarHandle" ∧ (parseMethodDescriptor yX10_isTold.desc).map (fun d => d.parameters.length) = some 1 := by decide +kernel
theorem mI_X10_isTold : Cond.instanceMethod yX10_isTold ∈ GW := GW_7 224 rfl rfl
theorem mV_X10_isTold : Cond.selects yX10_isTold.cls yX10_isTold yX10_isTold ∈ GW := GW_p 89 rfl rfl
theorem ml_X10_358 : Cond.methodLink RX10 358 yX10_isTold ∈ GW := GW_7 222 rfl rfl
theorem cl_X10_358 : Cond.methodLink RX10 358 yX10_isTold ∈ GW ∧ Cond.instanceMethod yX10_isTold ∈ GW ∧ Cond.selects yX10_isTold.cls yX10_isTold yX10_isTold ∈ GW ∧ Cond.initialized yX10_isTold.cls ∈ GW ∧ Cond.code yX10_isTold cX10_isTold 3 (some .boolean) ∈ GW := ⟨ml_X10_358, mI_X10_isTold, mV_X10_isTold, mN_X10, mC_X10_isTold⟩
theorem mC_X10_worstOf : Cond.code yX10_worstOf cX10_worstOf 5 (some .int) ∈ GW := GW_7 229 rfl rfl
theorem hy_X10_worstOf : yX10_worstOf.cls = yX10_worstOf.cls ∧ yX10_worstOf.cls ≠ "java/lang/invoke/MethodHandle" ∧ yX10_worstOf.cls ≠ "java/lang/invoke/VarHandle" ∧ (parseMethodDescriptor yX10_worstOf.desc).map (fun d => d.parameters.length) = some 1 := by decide +kernel
theorem mI_X10_worstOf : Cond.instanceMethod yX10_worstOf ∈ GW := GW_7 228 rfl rfl
theorem mV_X10_worstOf : Cond.selects yX10_worstOf.cls yX10_worstOf yX10_worstOf ∈ GW := GW_p 90 rfl rfl
theorem ml_X10_361 : Cond.methodLink RX10 361 yX10_worstOf ∈ GW := GW_7 226 rfl rfl
theorem cl_X10_361 : Cond.methodLink RX10 361 yX10_worstOf ∈ GW ∧ Cond.instanceMethod yX10_worstOf ∈ GW ∧ Cond.selects yX10_worstOf.cls yX10_worstOf yX10_worstOf ∈ GW ∧ Cond.initialized yX10_worstOf.cls ∈ GW ∧ Cond.code yX10_worstOf cX10_worstOf 5 (some .int) ∈ GW := ⟨ml_X10_361, mI_X10_worstOf, mV_X10_worstOf, mN_X10, mC_X10_worstOf⟩
theorem mC_X10_hasBy : Cond.code yX10_hasBy cX10_hasBy 4 (some .int) ∈ GW := GW_8 7 rfl rfl
theorem hy_X10_hasBy : yX10_hasBy.cls = yX10_hasBy.cls ∧ yX10_hasBy.cls ≠ "java/lang/invoke/MethodHandle" ∧ yX10_hasBy.cls ≠ "java/lang/invoke/VarHandle" ∧ (parseMethodDescriptor yX10_hasBy.desc).map (fun d => d.parameters.length) = some 4 := by decide +kernel
theorem mS_X10_hasBy : Cond.static yX10_hasBy ∈ GW := GW_8 6 rfl rfl
theorem ml_X10_364 : Cond.methodLink RX10 364 yX10_hasBy ∈ GW := GW_8 5 rfl rfl
theorem cl_X10_364 : Cond.methodLink RX10 364 yX10_hasBy ∈ GW ∧ Cond.static yX10_hasBy ∈ GW ∧ Cond.initialized yX10_hasBy.cls ∈ GW ∧ Cond.code yX10_hasBy cX10_hasBy 4 (some .int) ∈ GW := ⟨ml_X10_364, mS_X10_hasBy, mN_X10, mC_X10_hasBy⟩
theorem mC_X10_isBest : Cond.code yX10_isBest cX10_isBest 4 (some .boolean) ∈ GW := GW_8 4 rfl rfl
theorem hy_X10_isBest : yX10_isBest.cls = yX10_isBest.cls ∧ yX10_isBest.cls ≠ "java/lang/invoke/MethodHandle" ∧ yX10_isBest.cls ≠ "java/lang/invoke/VarHandle" ∧ (parseMethodDescriptor yX10_isBest.desc).map (fun d => d.parameters.length) = some 4 := by decide +kernel
theorem mS_X10_isBest : Cond.static yX10_isBest ∈ GW := GW_8 3 rfl rfl
theorem ml_X10_368 : Cond.methodLink RX10 368 yX10_isBest ∈ GW := GW_8 2 rfl rfl
theorem cl_X10_368 : Cond.methodLink RX10 368 yX10_isBest ∈ GW ∧ Cond.static yX10_isBest ∈ GW ∧ Cond.initialized yX10_isBest.cls ∈ GW ∧ Cond.code yX10_isBest cX10_isBest 4 (some .boolean) ∈ GW := ⟨ml_X10_368, mS_X10_isBest, mN_X10, mC_X10_isBest⟩
theorem mC_X10_givenBy : Cond.code yX10_givenBy cX10_givenBy 5 (some .int) ∈ GW := GW_8 19 rfl rfl
theorem hy_X10_givenBy : yX10_givenBy.cls = yX10_givenBy.cls ∧ yX10_givenBy.cls ≠ "java/lang/invoke/MethodHandle" ∧ yX10_givenBy.cls ≠ "java/lang/invoke/VarHandle" ∧ (parseMethodDescriptor yX10_givenBy.desc).map (fun d => d.parameters.length) = some 2 := by decide +kernel
theorem mI_X10_givenBy : Cond.instanceMethod yX10_givenBy ∈ GW := GW_8 18 rfl rfl
theorem mV_X10_givenBy : Cond.selects yX10_givenBy.cls yX10_givenBy yX10_givenBy ∈ GW := GW_p 91 rfl rfl
theorem ml_X10_372 : Cond.methodLink RX10 372 yX10_givenBy ∈ GW := GW_8 16 rfl rfl
theorem cl_X10_372 : Cond.methodLink RX10 372 yX10_givenBy ∈ GW ∧ Cond.instanceMethod yX10_givenBy ∈ GW ∧ Cond.selects yX10_givenBy.cls yX10_givenBy yX10_givenBy ∈ GW ∧ Cond.initialized yX10_givenBy.cls ∈ GW ∧ Cond.code yX10_givenBy cX10_givenBy 5 (some .int) ∈ GW := ⟨ml_X10_372, mI_X10_givenBy, mV_X10_givenBy, mN_X10, mC_X10_givenBy⟩
theorem mC_X10_draw : Cond.code yX10_draw cX10_draw 2 (some .int) ∈ GW := GW_8 78 rfl rfl
theorem hy_X10_draw : yX10_draw.cls = yX10_draw.cls ∧ yX10_draw.cls ≠ "java/lang/invoke/MethodHandle" ∧ yX10_draw.cls ≠ "java/lang/invoke/VarHandle" ∧ (parseMethodDescriptor yX10_draw.desc).map (fun d => d.parameters.length) = some 1 := by decide +kernel
theorem mI_X10_draw : Cond.instanceMethod yX10_draw ∈ GW := GW_8 77 rfl rfl
theorem mV_X10_draw : Cond.selects yX10_draw.cls yX10_draw yX10_draw ∈ GW := GW_p 93 rfl rfl
theorem ml_X10_379 : Cond.methodLink RX10 379 yX10_draw ∈ GW := GW_8 75 rfl rfl
theorem cl_X10_379 : Cond.methodLink RX10 379 yX10_draw ∈ GW ∧ Cond.instanceMethod yX10_draw ∈ GW ∧ Cond.selects yX10_draw.cls yX10_draw yX10_draw ∈ GW ∧ Cond.initialized yX10_draw.cls ∈ GW ∧ Cond.code yX10_draw cX10_draw 2 (some .int) ∈ GW := ⟨ml_X10_379, mI_X10_draw, mV_X10_draw, mN_X10, mC_X10_draw⟩
theorem mC_X10_isSunday : Cond.code yX10_isSunday cX10_isSunday 2 (some .boolean) ∈ GW := GW_8 70 rfl rfl
theorem hy_X10_isSunday : yX10_isSunday.cls = yX10_isSunday.cls ∧ yX10_isSunday.cls ≠ "java/lang/invoke/MethodHandle" ∧ yX10_isSunday.cls ≠ "java/lang/invoke/VarHandle" ∧ (parseMethodDescriptor yX10_isSunday.desc).map (fun d => d.parameters.length) = some 2 := by decide +kernel
theorem mS_X10_isSunday : Cond.static yX10_isSunday ∈ GW := GW_8 69 rfl rfl
theorem ml_X10_382 : Cond.methodLink RX10 382 yX10_isSunday ∈ GW := GW_8 68 rfl rfl
theorem cl_X10_382 : Cond.methodLink RX10 382 yX10_isSunday ∈ GW ∧ Cond.static yX10_isSunday ∈ GW ∧ Cond.initialized yX10_isSunday.cls ∈ GW ∧ Cond.code yX10_isSunday cX10_isSunday 2 (some .boolean) ∈ GW := ⟨ml_X10_382, mS_X10_isSunday, mN_X10, mC_X10_isSunday⟩
theorem mC_X10_sundayBy : Cond.code yX10_sundayBy cX10_sundayBy 6 none ∈ GW := GW_8 74 rfl rfl
theorem hy_X10_sundayBy : yX10_sundayBy.cls = yX10_sundayBy.cls ∧ yX10_sundayBy.cls ≠ "java/lang/invoke/MethodHandle" ∧ yX10_sundayBy.cls ≠ "java/lang/invoke/VarHandle" ∧ (parseMethodDescriptor yX10_sundayBy.desc).map (fun d => d.parameters.length) = some 3 := by decide +kernel
theorem mI_X10_sundayBy : Cond.instanceMethod yX10_sundayBy ∈ GW := GW_8 73 rfl rfl
theorem mV_X10_sundayBy : Cond.selects yX10_sundayBy.cls yX10_sundayBy yX10_sundayBy ∈ GW := GW_p 92 rfl rfl
theorem ml_X10_385 : Cond.methodLink RX10 385 yX10_sundayBy ∈ GW := GW_8 71 rfl rfl
theorem cl_X10_385 : Cond.methodLink RX10 385 yX10_sundayBy ∈ GW ∧ Cond.instanceMethod yX10_sundayBy ∈ GW ∧ Cond.selects yX10_sundayBy.cls yX10_sundayBy yX10_sundayBy ∈ GW ∧ Cond.initialized yX10_sundayBy.cls ∈ GW ∧ Cond.code yX10_sundayBy cX10_sundayBy 6 none ∈ GW := ⟨ml_X10_385, mI_X10_sundayBy, mV_X10_sundayBy, mN_X10, mC_X10_sundayBy⟩
theorem mC_X10_puts : Cond.code yX10_puts cX10_puts 4 (some .int) ∈ GW := GW_8 95 rfl rfl
theorem hy_X10_puts : yX10_puts.cls = yX10_puts.cls ∧ yX10_puts.cls ≠ "java/lang/invoke/MethodHandle" ∧ yX10_puts.cls ≠ "java/lang/invoke/VarHandle" ∧ (parseMethodDescriptor yX10_puts.desc).map (fun d => d.parameters.length) = some 3 := by decide +kernel
theorem mI_X10_puts : Cond.instanceMethod yX10_puts ∈ GW := GW_8 94 rfl rfl
theorem mV_X10_puts : Cond.selects yX10_puts.cls yX10_puts yX10_puts ∈ GW := GW_p 95 rfl rfl
theorem ml_X10_391 : Cond.methodLink RX10 391 yX10_puts ∈ GW := GW_8 92 rfl rfl
theorem cl_X10_391 : Cond.methodLink RX10 391 yX10_puts ∈ GW ∧ Cond.instanceMethod yX10_puts ∈ GW ∧ Cond.selects yX10_puts.cls yX10_puts yX10_puts ∈ GW ∧ Cond.initialized yX10_puts.cls ∈ GW ∧ Cond.code yX10_puts cX10_puts 4 (some .int) ∈ GW := ⟨ml_X10_391, mI_X10_puts, mV_X10_puts, mN_X10, mC_X10_puts⟩
theorem mC_X10_putsAll : Cond.code yX10_putsAll cX10_putsAll 5 none ∈ GW := GW_8 91 rfl rfl
theorem hy_X10_putsAll : yX10_putsAll.cls = yX10_putsAll.cls ∧ yX10_putsAll.cls ≠ "java/lang/invoke/MethodHandle" ∧ yX10_putsAll.cls ≠ "java/lang/invoke/VarHandle" ∧ (parseMethodDescriptor yX10_putsAll.desc).map (fun d => d.parameters.length) = some 2 := by decide +kernel
theorem mI_X10_putsAll : Cond.instanceMethod yX10_putsAll ∈ GW := GW_8 90 rfl rfl
theorem mV_X10_putsAll : Cond.selects yX10_putsAll.cls yX10_putsAll yX10_putsAll ∈ GW := GW_p 94 rfl rfl
theorem ml_X10_395 : Cond.methodLink RX10 395 yX10_putsAll ∈ GW := GW_8 88 rfl rfl
theorem cl_X10_395 : Cond.methodLink RX10 395 yX10_putsAll ∈ GW ∧ Cond.instanceMethod yX10_putsAll ∈ GW ∧ Cond.selects yX10_putsAll.cls yX10_putsAll yX10_putsAll ∈ GW ∧ Cond.initialized yX10_putsAll.cls ∈ GW ∧ Cond.code yX10_putsAll cX10_putsAll 5 none ∈ GW := ⟨ml_X10_395, mI_X10_putsAll, mV_X10_putsAll, mN_X10, mC_X10_putsAll⟩
