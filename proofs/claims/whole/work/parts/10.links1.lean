abbrev miX0_init : MI := (RX0, cX0_init, 5, none, true)
set_option maxRecDepth 20000 in
theorem msX0_init : MS yX0_init miX0_init 4 := ⟨⟨by decide +kernel, by decide +kernel, by decide +kernel⟩, gT_3 85 rfl rfl, gT_1 22 rfl rfl, by decide⟩
set_option maxRecDepth 20000 in
theorem liX0_init : Cond.instanceMethod yX0_init ∈ gT := gT_3 84 rfl rfl
abbrev miX0_pays : MI := (RX0, cX0_pays, 4, some (.boolean), false)
set_option maxRecDepth 20000 in
theorem msX0_pays : MS yX0_pays miX0_pays 3 := ⟨⟨by decide +kernel, by decide +kernel, by decide +kernel⟩, gT_3 239 rfl rfl, gT_1 22 rfl rfl, by decide⟩
set_option maxRecDepth 20000 in
theorem liX0_pays : Cond.instanceMethod yX0_pays ∈ gT := gT_3 238 rfl rfl
abbrev miX0_gaffs : MI := (RX0, cX0_gaffs, 1, some (.int), false)
set_option maxRecDepth 20000 in
theorem msX0_gaffs : MS yX0_gaffs miX0_gaffs 0 := ⟨⟨by decide +kernel, by decide +kernel, by decide +kernel⟩, gT_3 179 rfl rfl, gT_1 22 rfl rfl, by decide⟩
set_option maxRecDepth 20000 in
theorem liX0_gaffs : Cond.instanceMethod yX0_gaffs ∈ gT := gT_3 178 rfl rfl
abbrev miX1_init : MI := (RX1, cX1_init, 5, none, true)
set_option maxRecDepth 20000 in
theorem msX1_init : MS yX1_init miX1_init 4 := ⟨⟨by decide +kernel, by decide +kernel, by decide +kernel⟩, gT_3 100 rfl rfl, gT_1 23 rfl rfl, by decide⟩
set_option maxRecDepth 20000 in
theorem liX1_init : Cond.instanceMethod yX1_init ∈ gT := gT_3 99 rfl rfl
abbrev miX1_pays : MI := (RX1, cX1_pays, 4, some (.boolean), false)
set_option maxRecDepth 20000 in
theorem msX1_pays : MS yX1_pays miX1_pays 3 := ⟨⟨by decide +kernel, by decide +kernel, by decide +kernel⟩, gT_4 3 rfl rfl, gT_1 23 rfl rfl, by decide⟩
set_option maxRecDepth 20000 in
theorem liX1_pays : Cond.instanceMethod yX1_pays ∈ gT := gT_4 2 rfl rfl
abbrev miX1_gaffs : MI := (RX1, cX1_gaffs, 1, some (.int), false)
set_option maxRecDepth 20000 in
theorem msX1_gaffs : MS yX1_gaffs miX1_gaffs 0 := ⟨⟨by decide +kernel, by decide +kernel, by decide +kernel⟩, gT_3 182 rfl rfl, gT_1 23 rfl rfl, by decide⟩
set_option maxRecDepth 20000 in
theorem liX1_gaffs : Cond.instanceMethod yX1_gaffs ∈ gT := gT_3 181 rfl rfl
abbrev miX2_init : MI := (RX2, cX2_init, 1, none, true)
set_option maxRecDepth 20000 in
theorem msX2_init : MS yX2_init miX2_init 0 := ⟨⟨by decide +kernel, by decide +kernel, by decide +kernel⟩, gT_1 130 rfl rfl, gT_1 7 rfl rfl, by decide⟩
set_option maxRecDepth 20000 in
theorem liX2_init : Cond.instanceMethod yX2_init ∈ gT := gT_1 129 rfl rfl
abbrev miX2_fill : MI := (RX2, cX2_fill, 6, none, false)
set_option maxRecDepth 20000 in
theorem msX2_fill : MS yX2_fill miX2_fill 2 := ⟨⟨by decide +kernel, by decide +kernel, by decide +kernel⟩, gT_4 73 rfl rfl, gT_1 7 rfl rfl, by decide⟩
set_option maxRecDepth 20000 in
theorem liX2_fill : Cond.instanceMethod yX2_fill ∈ gT := gT_4 71 rfl rfl
abbrev miX2_winning : MI := (RX2, cX2_winning, 9, some (.int), false)
set_option maxRecDepth 20000 in
theorem msX2_winning : MS yX2_winning miX2_winning 2 := ⟨⟨by decide +kernel, by decide +kernel, by decide +kernel⟩, gT_4 78 rfl rfl, gT_1 7 rfl rfl, by decide⟩
set_option maxRecDepth 20000 in
theorem liX2_winning : Cond.instanceMethod yX2_winning ∈ gT := gT_4 76 rfl rfl
abbrev miX2_bestAim : MI := (RX2, cX2_bestAim, 7, some (.int), false)
set_option maxRecDepth 20000 in
theorem msX2_bestAim : MS yX2_bestAim miX2_bestAim 1 := ⟨⟨by decide +kernel, by decide +kernel, by decide +kernel⟩, gT_4 108 rfl rfl, gT_1 7 rfl rfl, by decide⟩
set_option maxRecDepth 20000 in
theorem liX2_bestAim : Cond.instanceMethod yX2_bestAim ∈ gT := gT_4 106 rfl rfl
abbrev miX2_line : MI := (RX2, cX2_line, 1, some (.int), false)
set_option maxRecDepth 20000 in
theorem msX2_line : MS yX2_line miX2_line 1 := ⟨⟨by decide +kernel, by decide +kernel, by decide +kernel⟩, gT_4 81 rfl rfl, gT_1 7 rfl rfl, by decide⟩
set_option maxRecDepth 20000 in
theorem lsX2_line : Cond.static yX2_line ∈ gT := gT_4 80 rfl rfl
abbrev miX2_sum : MI := (RX2, cX2_sum, 4, some (.int), false)
set_option maxRecDepth 20000 in
theorem msX2_sum : MS yX2_sum miX2_sum 2 := ⟨⟨by decide +kernel, by decide +kernel, by decide +kernel⟩, gT_4 87 rfl rfl, gT_1 7 rfl rfl, by decide⟩
set_option maxRecDepth 20000 in
theorem liX2_sum : Cond.instanceMethod yX2_sum ∈ gT := gT_4 86 rfl rfl
set_option maxRecDepth 20000 in
theorem lvX2_X2_sum : Cond.selects RX2 yX2_sum yX2_sum ∈ gT := gT_sel (y := yX2_sum) 32 3 (by decide +kernel)
abbrev miX3_init : MI := (RX3, cX3_init, 4, none, true)
set_option maxRecDepth 20000 in
theorem msX3_init : MS yX3_init miX3_init 3 := ⟨⟨by decide +kernel, by decide +kernel, by decide +kernel⟩, gT_4 35 rfl rfl, gT_1 25 rfl rfl, by decide⟩
set_option maxRecDepth 20000 in
theorem liX3_init : Cond.instanceMethod yX3_init ∈ gT := gT_4 34 rfl rfl
abbrev miX4_init : MI := (RX4, cX4_init, 5, none, true)
set_option maxRecDepth 20000 in
theorem msX4_init : MS yX4_init miX4_init 4 := ⟨⟨by decide +kernel, by decide +kernel, by decide +kernel⟩, gT_3 5 rfl rfl, gT_1 19 rfl rfl, by decide⟩
set_option maxRecDepth 20000 in
theorem liX4_init : Cond.instanceMethod yX4_init ∈ gT := gT_3 4 rfl rfl
abbrev miX4_pays : MI := (RX4, cX4_pays, 4, some (.boolean), false)
set_option maxRecDepth 20000 in
theorem msX4_pays : MS yX4_pays miX4_pays 3 := ⟨⟨by decide +kernel, by decide +kernel, by decide +kernel⟩, gT_4 6 rfl rfl, gT_1 19 rfl rfl, by decide⟩
set_option maxRecDepth 20000 in
theorem liX4_pays : Cond.instanceMethod yX4_pays ∈ gT := gT_4 5 rfl rfl
abbrev miX4_gaffs : MI := (RX4, cX4_gaffs, 1, some (.int), false)
set_option maxRecDepth 20000 in
theorem msX4_gaffs : MS yX4_gaffs miX4_gaffs 0 := ⟨⟨by decide +kernel, by decide +kernel, by decide +kernel⟩, gT_3 185 rfl rfl, gT_1 19 rfl rfl, by decide⟩
set_option maxRecDepth 20000 in
theorem liX4_gaffs : Cond.instanceMethod yX4_gaffs ∈ gT := gT_3 184 rfl rfl
abbrev miX5_init : MI := (RX5, cX5_init, 1, none, true)
set_option maxRecDepth 20000 in
theorem msX5_init : MS yX5_init miX5_init 0 := ⟨⟨by decide +kernel, by decide +kernel, by decide +kernel⟩, gT_1 102 rfl rfl, gT_1 6 rfl rfl, by decide⟩
set_option maxRecDepth 20000 in
theorem liX5_init : Cond.instanceMethod yX5_init ∈ gT := gT_1 101 rfl rfl
abbrev miX5_keep : MI := (RX5, cX5_keep, 4, none, false)
set_option maxRecDepth 20000 in
theorem msX5_keep : MS yX5_keep miX5_keep 2 := ⟨⟨by decide +kernel, by decide +kernel, by decide +kernel⟩, gT_5 66 rfl rfl, gT_1 6 rfl rfl, by decide⟩
set_option maxRecDepth 20000 in
theorem liX5_keep : Cond.instanceMethod yX5_keep ∈ gT := gT_5 64 rfl rfl
abbrev miX5_layBack : MI := (RX5, cX5_layBack, 4, none, false)
set_option maxRecDepth 20000 in
theorem msX5_layBack : MS yX5_layBack miX5_layBack 2 := ⟨⟨by decide +kernel, by decide +kernel, by decide +kernel⟩, gT_5 76 rfl rfl, gT_1 6 rfl rfl, by decide⟩
set_option maxRecDepth 20000 in
theorem liX5_layBack : Cond.instanceMethod yX5_layBack ∈ gT := gT_5 74 rfl rfl
abbrev miX6_init : MI := (RX6, cX6_init, 1, none, true)
set_option maxRecDepth 20000 in
theorem msX6_init : MS yX6_init miX6_init 0 := ⟨⟨by decide +kernel, by decide +kernel, by decide +kernel⟩, gT_1 65 rfl rfl, gT_1 5 rfl rfl, by decide⟩
set_option maxRecDepth 20000 in
theorem liX6_init : Cond.instanceMethod yX6_init ∈ gT := gT_1 64 rfl rfl
abbrev miX6_put : MI := (RX6, cX6_put, 2, none, false)
set_option maxRecDepth 20000 in
theorem msX6_put : MS yX6_put miX6_put 1 := ⟨⟨by decide +kernel, by decide +kernel, by decide +kernel⟩, gT_1 198 rfl rfl, gT_1 5 rfl rfl, by decide⟩
set_option maxRecDepth 20000 in
theorem liX6_put : Cond.instanceMethod yX6_put ∈ gT := gT_1 196 rfl rfl
abbrev miX6_spell : MI := (RX6, cX6_spell, 3, none, false)
set_option maxRecDepth 20000 in
theorem msX6_spell : MS yX6_spell miX6_spell 1 := ⟨⟨by decide +kernel, by decide +kernel, by decide +kernel⟩, gT_1 146 rfl rfl, gT_1 5 rfl rfl, by decide⟩
set_option maxRecDepth 20000 in
theorem liX6_spell : Cond.instanceMethod yX6_spell ∈ gT := gT_1 144 rfl rfl
abbrev miX6_read : MI := (RX6, cX6_read, 3, some (.object "ThreeBalls$Text"), false)
set_option maxRecDepth 20000 in
theorem msX6_read : MS yX6_read miX6_read 0 := ⟨⟨by decide +kernel, by decide +kernel, by decide +kernel⟩, gT_1 202 rfl rfl, gT_1 5 rfl rfl, by decide⟩
set_option maxRecDepth 20000 in
theorem liX6_read : Cond.instanceMethod yX6_read ∈ gT := gT_1 200 rfl rfl
abbrev miX6_split : MI := (RX6, cX6_split, 3, none, false)
set_option maxRecDepth 20000 in
theorem msX6_split : MS yX6_split miX6_split 0 := ⟨⟨by decide +kernel, by decide +kernel, by decide +kernel⟩, gT_1 206 rfl rfl, gT_1 5 rfl rfl, by decide⟩
set_option maxRecDepth 20000 in
theorem liX6_split : Cond.instanceMethod yX6_split ∈ gT := gT_1 205 rfl rfl
set_option maxRecDepth 20000 in
theorem lvX6_X6_split : Cond.selects RX6 yX6_split yX6_split ∈ gT := gT_sel (y := yX6_split) 0 9 (by decide +kernel)
abbrev miX6_splitOne : MI := (RX6, cX6_splitOne, 4, some (.int), false)
set_option maxRecDepth 20000 in
theorem msX6_splitOne : MS yX6_splitOne miX6_splitOne 1 := ⟨⟨by decide +kernel, by decide +kernel, by decide +kernel⟩, gT_1 210 rfl rfl, gT_1 5 rfl rfl, by decide⟩
set_option maxRecDepth 20000 in
theorem liX6_splitOne : Cond.instanceMethod yX6_splitOne ∈ gT := gT_1 209 rfl rfl
set_option maxRecDepth 20000 in
theorem lvX6_X6_splitOne : Cond.selects RX6 yX6_splitOne yX6_splitOne ∈ gT := gT_sel (y := yX6_splitOne) 1 9 (by decide +kernel)
abbrev miX6_addToken : MI := (RX6, cX6_addToken, 3, none, false)
set_option maxRecDepth 20000 in
theorem msX6_addToken : MS yX6_addToken miX6_addToken 2 := ⟨⟨by decide +kernel, by decide +kernel, by decide +kernel⟩, gT_1 229 rfl rfl, gT_1 5 rfl rfl, by decide⟩
set_option maxRecDepth 20000 in
theorem liX6_addToken : Cond.instanceMethod yX6_addToken ∈ gT := gT_1 228 rfl rfl
set_option maxRecDepth 20000 in
theorem lvX6_X6_addToken : Cond.selects RX6 yX6_addToken yX6_addToken ∈ gT := gT_sel (y := yX6_addToken) 5 9 (by decide +kernel)
abbrev miX6_endOfDigits : MI := (RX6, cX6_endOfDigits, 3, some (.int), false)
set_option maxRecDepth 20000 in
theorem msX6_endOfDigits : MS yX6_endOfDigits miX6_endOfDigits 1 := ⟨⟨by decide +kernel, by decide +kernel, by decide +kernel⟩, gT_1 221 rfl rfl, gT_1 5 rfl rfl, by decide⟩
set_option maxRecDepth 20000 in
theorem liX6_endOfDigits : Cond.instanceMethod yX6_endOfDigits ∈ gT := gT_1 220 rfl rfl
set_option maxRecDepth 20000 in
theorem lvX6_X6_endOfDigits : Cond.selects RX6 yX6_endOfDigits yX6_endOfDigits ∈ gT := gT_sel (y := yX6_endOfDigits) 3 9 (by decide +kernel)
abbrev miX6_endOfLetters : MI := (RX6, cX6_endOfLetters, 3, some (.int), false)
set_option maxRecDepth 20000 in
theorem msX6_endOfLetters : MS yX6_endOfLetters miX6_endOfLetters 1 := ⟨⟨by decide +kernel, by decide +kernel, by decide +kernel⟩, gT_1 236 rfl rfl, gT_1 5 rfl rfl, by decide⟩
set_option maxRecDepth 20000 in
theorem liX6_endOfLetters : Cond.instanceMethod yX6_endOfLetters ∈ gT := gT_1 235 rfl rfl
set_option maxRecDepth 20000 in
theorem lvX6_X6_endOfLetters : Cond.selects RX6 yX6_endOfLetters yX6_endOfLetters ∈ gT := gT_sel (y := yX6_endOfLetters) 6 9 (by decide +kernel)
abbrev miX6_numberToken : MI := (RX6, cX6_numberToken, 5, some (.int), false)
set_option maxRecDepth 20000 in
theorem msX6_numberToken : MS yX6_numberToken miX6_numberToken 2 := ⟨⟨by decide +kernel, by decide +kernel, by decide +kernel⟩, gT_1 225 rfl rfl, gT_1 5 rfl rfl, by decide⟩
set_option maxRecDepth 20000 in
theorem liX6_numberToken : Cond.instanceMethod yX6_numberToken ∈ gT := gT_1 224 rfl rfl
set_option maxRecDepth 20000 in
theorem lvX6_X6_numberToken : Cond.selects RX6 yX6_numberToken yX6_numberToken ∈ gT := gT_sel (y := yX6_numberToken) 4 9 (by decide +kernel)
abbrev miX6_wordToken : MI := (RX6, cX6_wordToken, 3, some (.int), false)
set_option maxRecDepth 20000 in
theorem msX6_wordToken : MS yX6_wordToken miX6_wordToken 2 := ⟨⟨by decide +kernel, by decide +kernel, by decide +kernel⟩, gT_2 0 rfl rfl, gT_1 5 rfl rfl, by decide⟩
set_option maxRecDepth 20000 in
theorem liX6_wordToken : Cond.instanceMethod yX6_wordToken ∈ gT := gT_1 239 rfl rfl
set_option maxRecDepth 20000 in
theorem lvX6_X6_wordToken : Cond.selects RX6 yX6_wordToken yX6_wordToken ∈ gT := gT_sel (y := yX6_wordToken) 7 9 (by decide +kernel)
abbrev miX6_isWord : MI := (RX6, cX6_isWord, 5, some (.boolean), false)
set_option maxRecDepth 20000 in
theorem msX6_isWord : MS yX6_isWord miX6_isWord 3 := ⟨⟨by decide +kernel, by decide +kernel, by decide +kernel⟩, gT_2 5 rfl rfl, gT_1 5 rfl rfl, by decide⟩
set_option maxRecDepth 20000 in
theorem liX6_isWord : Cond.instanceMethod yX6_isWord ∈ gT := gT_2 4 rfl rfl
set_option maxRecDepth 20000 in
theorem lvX6_X6_isWord : Cond.selects RX6 yX6_isWord yX6_isWord ∈ gT := gT_sel (y := yX6_isWord) 8 9 (by decide +kernel)
abbrev miX6_byteAt : MI := (RX6, cX6_byteAt, 2, some (.int), false)
set_option maxRecDepth 20000 in
theorem msX6_byteAt : MS yX6_byteAt miX6_byteAt 1 := ⟨⟨by decide +kernel, by decide +kernel, by decide +kernel⟩, gT_1 214 rfl rfl, gT_1 5 rfl rfl, by decide⟩
set_option maxRecDepth 20000 in
theorem liX6_byteAt : Cond.instanceMethod yX6_byteAt ∈ gT := gT_1 213 rfl rfl
set_option maxRecDepth 20000 in
theorem lvX6_X6_byteAt : Cond.selects RX6 yX6_byteAt yX6_byteAt ∈ gT := gT_sel (y := yX6_byteAt) 2 9 (by decide +kernel)
abbrev miX6_isDigit : MI := (RX6, cX6_isDigit, 1, some (.boolean), false)
set_option maxRecDepth 20000 in
theorem msX6_isDigit : MS yX6_isDigit miX6_isDigit 1 := ⟨⟨by decide +kernel, by decide +kernel, by decide +kernel⟩, gT_1 217 rfl rfl, gT_1 5 rfl rfl, by decide⟩
set_option maxRecDepth 20000 in
theorem lsX6_isDigit : Cond.static yX6_isDigit ∈ gT := gT_1 216 rfl rfl
abbrev miX6_isLetter : MI := (RX6, cX6_isLetter, 1, some (.boolean), false)
set_option maxRecDepth 20000 in
theorem msX6_isLetter : MS yX6_isLetter miX6_isLetter 1 := ⟨⟨by decide +kernel, by decide +kernel, by decide +kernel⟩, gT_1 232 rfl rfl, gT_1 5 rfl rfl, by decide⟩
set_option maxRecDepth 20000 in
theorem lsX6_isLetter : Cond.static yX6_isLetter ∈ gT := gT_1 231 rfl rfl
abbrev miX6_isSign : MI := (RX6, cX6_isSign, 1, some (.boolean), false)
set_option maxRecDepth 20000 in
theorem msX6_isSign : MS yX6_isSign miX6_isSign 1 := ⟨⟨by decide +kernel, by decide +kernel, by decide +kernel⟩, gT_2 19 rfl rfl, gT_1 5 rfl rfl, by decide⟩
set_option maxRecDepth 20000 in
theorem lsX6_isSign : Cond.static yX6_isSign ∈ gT := gT_2 18 rfl rfl
abbrev miX6_readPart : MI := (RX6, cX6_readPart, 2, none, false)
set_option maxRecDepth 20000 in
theorem msX6_readPart : MS yX6_readPart miX6_readPart 1 := ⟨⟨by decide +kernel, by decide +kernel, by decide +kernel⟩, gT_2 23 rfl rfl, gT_1 5 rfl rfl, by decide⟩
set_option maxRecDepth 20000 in
theorem liX6_readPart : Cond.instanceMethod yX6_readPart ∈ gT := gT_2 22 rfl rfl
set_option maxRecDepth 20000 in
theorem lvX6_X6_readPart : Cond.selects RX6 yX6_readPart yX6_readPart ∈ gT := gT_sel (y := yX6_readPart) 9 9 (by decide +kernel)
abbrev miX6_readAny : MI := (RX6, cX6_readAny, 3, none, false)
set_option maxRecDepth 20000 in
theorem msX6_readAny : MS yX6_readAny miX6_readAny 1 := ⟨⟨by decide +kernel, by decide +kernel, by decide +kernel⟩, gT_2 43 rfl rfl, gT_1 5 rfl rfl, by decide⟩
set_option maxRecDepth 20000 in
theorem liX6_readAny : Cond.instanceMethod yX6_readAny ∈ gT := gT_2 42 rfl rfl
set_option maxRecDepth 20000 in
theorem lvX6_X6_readAny : Cond.selects RX6 yX6_readAny yX6_readAny ∈ gT := gT_sel (y := yX6_readAny) 14 9 (by decide +kernel)
abbrev miX6_readEach : MI := (RX6, cX6_readEach, 3, none, false)
set_option maxRecDepth 20000 in
theorem msX6_readEach : MS yX6_readEach miX6_readEach 1 := ⟨⟨by decide +kernel, by decide +kernel, by decide +kernel⟩, gT_2 47 rfl rfl, gT_1 5 rfl rfl, by decide⟩
set_option maxRecDepth 20000 in
theorem liX6_readEach : Cond.instanceMethod yX6_readEach ∈ gT := gT_2 46 rfl rfl
set_option maxRecDepth 20000 in
theorem lvX6_X6_readEach : Cond.selects RX6 yX6_readEach yX6_readEach ∈ gT := gT_sel (y := yX6_readEach) 15 9 (by decide +kernel)
abbrev miX6_readNot : MI := (RX6, cX6_readNot, 3, none, false)
set_option maxRecDepth 20000 in
theorem msX6_readNot : MS yX6_readNot miX6_readNot 1 := ⟨⟨by decide +kernel, by decide +kernel, by decide +kernel⟩, gT_2 51 rfl rfl, gT_1 5 rfl rfl, by decide⟩
set_option maxRecDepth 20000 in
theorem liX6_readNot : Cond.instanceMethod yX6_readNot ∈ gT := gT_2 50 rfl rfl
set_option maxRecDepth 20000 in
theorem lvX6_X6_readNot : Cond.selects RX6 yX6_readNot yX6_readNot ∈ gT := gT_sel (y := yX6_readNot) 16 9 (by decide +kernel)
abbrev miX6_readSum : MI := (RX6, cX6_readSum, 4, none, false)
set_option maxRecDepth 20000 in
theorem msX6_readSum : MS yX6_readSum miX6_readSum 1 := ⟨⟨by decide +kernel, by decide +kernel, by decide +kernel⟩, gT_2 59 rfl rfl, gT_1 5 rfl rfl, by decide⟩
set_option maxRecDepth 20000 in
theorem liX6_readSum : Cond.instanceMethod yX6_readSum ∈ gT := gT_2 58 rfl rfl
set_option maxRecDepth 20000 in
theorem lvX6_X6_readSum : Cond.selects RX6 yX6_readSum yX6_readSum ∈ gT := gT_sel (y := yX6_readSum) 18 9 (by decide +kernel)
abbrev miX6_readTerm : MI := (RX6, cX6_readTerm, 3, none, false)
set_option maxRecDepth 20000 in
theorem msX6_readTerm : MS yX6_readTerm miX6_readTerm 1 := ⟨⟨by decide +kernel, by decide +kernel, by decide +kernel⟩, gT_2 63 rfl rfl, gT_1 5 rfl rfl, by decide⟩
set_option maxRecDepth 20000 in
theorem liX6_readTerm : Cond.instanceMethod yX6_readTerm ∈ gT := gT_2 62 rfl rfl
set_option maxRecDepth 20000 in
theorem lvX6_X6_readTerm : Cond.selects RX6 yX6_readTerm yX6_readTerm ∈ gT := gT_sel (y := yX6_readTerm) 19 9 (by decide +kernel)
abbrev miX6_readOne : MI := (RX6, cX6_readOne, 3, none, false)
set_option maxRecDepth 20000 in
theorem msX6_readOne : MS yX6_readOne miX6_readOne 1 := ⟨⟨by decide +kernel, by decide +kernel, by decide +kernel⟩, gT_2 67 rfl rfl, gT_1 5 rfl rfl, by decide⟩
set_option maxRecDepth 20000 in
theorem liX6_readOne : Cond.instanceMethod yX6_readOne ∈ gT := gT_2 66 rfl rfl
set_option maxRecDepth 20000 in
theorem lvX6_X6_readOne : Cond.selects RX6 yX6_readOne yX6_readOne ∈ gT := gT_sel (y := yX6_readOne) 20 9 (by decide +kernel)
abbrev miX6_isValue : MI := (RX6, cX6_isValue, 1, some (.boolean), false)
set_option maxRecDepth 20000 in
theorem msX6_isValue : MS yX6_isValue miX6_isValue 1 := ⟨⟨by decide +kernel, by decide +kernel, by decide +kernel⟩, gT_2 70 rfl rfl, gT_1 5 rfl rfl, by decide⟩
set_option maxRecDepth 20000 in
theorem lsX6_isValue : Cond.static yX6_isValue ∈ gT := gT_2 69 rfl rfl
abbrev miX6_token : MI := (RX6, cX6_token, 1, some (.int), false)
set_option maxRecDepth 20000 in
theorem msX6_token : MS yX6_token miX6_token 0 := ⟨⟨by decide +kernel, by decide +kernel, by decide +kernel⟩, gT_2 35 rfl rfl, gT_1 5 rfl rfl, by decide⟩
set_option maxRecDepth 20000 in
theorem liX6_token : Cond.instanceMethod yX6_token ∈ gT := gT_2 34 rfl rfl
set_option maxRecDepth 20000 in
theorem lvX6_X6_token : Cond.selects RX6 yX6_token yX6_token ∈ gT := gT_sel (y := yX6_token) 12 9 (by decide +kernel)
abbrev miX6_takes : MI := (RX6, cX6_takes, 2, some (.boolean), false)
set_option maxRecDepth 20000 in
theorem msX6_takes : MS yX6_takes miX6_takes 1 := ⟨⟨by decide +kernel, by decide +kernel, by decide +kernel⟩, gT_2 31 rfl rfl, gT_1 5 rfl rfl, by decide⟩
set_option maxRecDepth 20000 in
theorem liX6_takes : Cond.instanceMethod yX6_takes ∈ gT := gT_2 30 rfl rfl
set_option maxRecDepth 20000 in
theorem lvX6_X6_takes : Cond.selects RX6 yX6_takes yX6_takes ∈ gT := gT_sel (y := yX6_takes) 11 9 (by decide +kernel)
abbrev miX6_ask : MI := (RX6, cX6_ask, 2, none, false)
set_option maxRecDepth 20000 in
theorem msX6_ask : MS yX6_ask miX6_ask 1 := ⟨⟨by decide +kernel, by decide +kernel, by decide +kernel⟩, gT_2 27 rfl rfl, gT_1 5 rfl rfl, by decide⟩
set_option maxRecDepth 20000 in
theorem liX6_ask : Cond.instanceMethod yX6_ask ∈ gT := gT_2 26 rfl rfl
set_option maxRecDepth 20000 in
theorem lvX6_X6_ask : Cond.selects RX6 yX6_ask yX6_ask ∈ gT := gT_sel (y := yX6_ask) 10 9 (by decide +kernel)
abbrev miX6_refuse : MI := (RX6, cX6_refuse, 1, none, false)
set_option maxRecDepth 20000 in
theorem msX6_refuse : MS yX6_refuse miX6_refuse 0 := ⟨⟨by decide +kernel, by decide +kernel, by decide +kernel⟩, gT_2 39 rfl rfl, gT_1 5 rfl rfl, by decide⟩
set_option maxRecDepth 20000 in
theorem liX6_refuse : Cond.instanceMethod yX6_refuse ∈ gT := gT_2 38 rfl rfl
set_option maxRecDepth 20000 in
theorem lvX6_X6_refuse : Cond.selects RX6 yX6_refuse yX6_refuse ∈ gT := gT_sel (y := yX6_refuse) 13 9 (by decide +kernel)
abbrev miX6_write : MI := (RX6, cX6_write, 2, none, false)
set_option maxRecDepth 20000 in
theorem msX6_write : MS yX6_write miX6_write 1 := ⟨⟨by decide +kernel, by decide +kernel, by decide +kernel⟩, gT_2 55 rfl rfl, gT_1 5 rfl rfl, by decide⟩
set_option maxRecDepth 20000 in
theorem liX6_write : Cond.instanceMethod yX6_write ∈ gT := gT_2 54 rfl rfl
set_option maxRecDepth 20000 in
theorem lvX6_X6_write : Cond.selects RX6 yX6_write yX6_write ∈ gT := gT_sel (y := yX6_write) 17 9 (by decide +kernel)
abbrev miX7_init : MI := (RX7, cX7_init, 5, none, true)
set_option maxRecDepth 20000 in
theorem msX7_init : MS yX7_init miX7_init 4 := ⟨⟨by decide +kernel, by decide +kernel, by decide +kernel⟩, gT_3 70 rfl rfl, gT_1 21 rfl rfl, by decide⟩
set_option maxRecDepth 20000 in
theorem liX7_init : Cond.instanceMethod yX7_init ∈ gT := gT_3 69 rfl rfl
abbrev miX7_pays : MI := (RX7, cX7_pays, 5, some (.boolean), false)
set_option maxRecDepth 20000 in
theorem msX7_pays : MS yX7_pays miX7_pays 3 := ⟨⟨by decide +kernel, by decide +kernel, by decide +kernel⟩, gT_4 16 rfl rfl, gT_1 21 rfl rfl, by decide⟩
set_option maxRecDepth 20000 in
theorem liX7_pays : Cond.instanceMethod yX7_pays ∈ gT := gT_4 15 rfl rfl
abbrev miX7_gaffs : MI := (RX7, cX7_gaffs, 1, some (.int), false)
set_option maxRecDepth 20000 in
theorem msX7_gaffs : MS yX7_gaffs miX7_gaffs 0 := ⟨⟨by decide +kernel, by decide +kernel, by decide +kernel⟩, gT_3 189 rfl rfl, gT_1 21 rfl rfl, by decide⟩
set_option maxRecDepth 20000 in
theorem liX7_gaffs : Cond.instanceMethod yX7_gaffs ∈ gT := gT_3 188 rfl rfl
abbrev miX8_init : MI := (RX8, cX8_init, 5, none, true)
set_option maxRecDepth 20000 in
theorem msX8_init : MS yX8_init miX8_init 4 := ⟨⟨by decide +kernel, by decide +kernel, by decide +kernel⟩, gT_3 8 rfl rfl, gT_1 18 rfl rfl, by decide⟩
set_option maxRecDepth 20000 in
theorem liX8_init : Cond.instanceMethod yX8_init ∈ gT := gT_3 7 rfl rfl
abbrev miX8_pays : MI := (RX8, cX8_pays, 4, some (.boolean), false)
set_option maxRecDepth 20000 in
theorem msX8_pays : MS yX8_pays miX8_pays 3 := ⟨⟨by decide +kernel, by decide +kernel, by decide +kernel⟩, gT_4 22 rfl rfl, gT_1 18 rfl rfl, by decide⟩
set_option maxRecDepth 20000 in
theorem liX8_pays : Cond.instanceMethod yX8_pays ∈ gT := gT_3 234 rfl rfl
abbrev miX8_gaffs : MI := (RX8, cX8_gaffs, 1, some (.int), false)
set_option maxRecDepth 20000 in
theorem msX8_gaffs : MS yX8_gaffs miX8_gaffs 0 := ⟨⟨by decide +kernel, by decide +kernel, by decide +kernel⟩, gT_3 194 rfl rfl, gT_1 18 rfl rfl, by decide⟩
set_option maxRecDepth 20000 in
theorem liX8_gaffs : Cond.instanceMethod yX8_gaffs ∈ gT := gT_3 174 rfl rfl
abbrev miX8_isWithin : MI := (RX8, cX8_isWithin, 3, some (.boolean), false)
set_option maxRecDepth 20000 in
theorem msX8_isWithin : MS yX8_isWithin miX8_isWithin 3 := ⟨⟨by decide +kernel, by decide +kernel, by decide +kernel⟩, gT_4 10 rfl rfl, gT_1 18 rfl rfl, by decide⟩
set_option maxRecDepth 20000 in
theorem lsX8_isWithin : Cond.static yX8_isWithin ∈ gT := gT_4 9 rfl rfl
abbrev miX8_changeable : MI := (RX8, cX8_changeable, 2, some (.int), false)
set_option maxRecDepth 20000 in
theorem msX8_changeable : MS yX8_changeable miX8_changeable 1 := ⟨⟨by decide +kernel, by decide +kernel, by decide +kernel⟩, gT_3 158 rfl rfl, gT_1 18 rfl rfl, by decide⟩
set_option maxRecDepth 20000 in
theorem liX8_changeable : Cond.instanceMethod yX8_changeable ∈ gT := gT_3 150 rfl rfl
abbrev miX8_change : MI := (RX8, cX8_change, 3, none, false)
set_option maxRecDepth 20000 in
theorem msX8_change : MS yX8_change miX8_change 2 := ⟨⟨by decide +kernel, by decide +kernel, by decide +kernel⟩, gT_3 168 rfl rfl, gT_1 18 rfl rfl, by decide⟩
set_option maxRecDepth 20000 in
theorem liX8_change : Cond.instanceMethod yX8_change ∈ gT := gT_3 160 rfl rfl
abbrev miX9_init : MI := (RX9, cX9_init, 4, none, true)
set_option maxRecDepth 20000 in
theorem msX9_init : MS yX9_init miX9_init 3 := ⟨⟨by decide +kernel, by decide +kernel, by decide +kernel⟩, gT_2 91 rfl rfl, gT_1 12 rfl rfl, by decide⟩
set_option maxRecDepth 20000 in
theorem liX9_init : Cond.instanceMethod yX9_init ∈ gT := gT_2 90 rfl rfl
abbrev miX9_comesTo : MI := (RX9, cX9_comesTo, 7, some (.int), false)
set_option maxRecDepth 20000 in
theorem msX9_comesTo : MS yX9_comesTo miX9_comesTo 2 := ⟨⟨by decide +kernel, by decide +kernel, by decide +kernel⟩, gT_3 211 rfl rfl, gT_1 12 rfl rfl, by decide⟩
set_option maxRecDepth 20000 in
theorem liX9_comesTo : Cond.instanceMethod yX9_comesTo ∈ gT := gT_3 209 rfl rfl
abbrev miX9_step : MI := (RX9, cX9_step, 5, some (.int), false)
set_option maxRecDepth 20000 in
theorem msX9_step : MS yX9_step miX9_step 3 := ⟨⟨by decide +kernel, by decide +kernel, by decide +kernel⟩, gT_3 215 rfl rfl, gT_1 12 rfl rfl, by decide⟩
set_option maxRecDepth 20000 in
theorem liX9_step : Cond.instanceMethod yX9_step ∈ gT := gT_3 214 rfl rfl
set_option maxRecDepth 20000 in
theorem lvX9_X9_step : Cond.selects RX9 yX9_step yX9_step ∈ gT := gT_sel (y := yX9_step) 28 4 (by decide +kernel)
abbrev miX9_push : MI := (RX9, cX9_push, 3, some (.int), false)
set_option maxRecDepth 20000 in
theorem msX9_push : MS yX9_push miX9_push 2 := ⟨⟨by decide +kernel, by decide +kernel, by decide +kernel⟩, gT_3 219 rfl rfl, gT_1 12 rfl rfl, by decide⟩
set_option maxRecDepth 20000 in
theorem liX9_push : Cond.instanceMethod yX9_push ∈ gT := gT_3 218 rfl rfl
set_option maxRecDepth 20000 in
theorem lvX9_X9_push : Cond.selects RX9 yX9_push yX9_push ∈ gT := gT_sel (y := yX9_push) 29 4 (by decide +kernel)
abbrev miX9_alter : MI := (RX9, cX9_alter, 4, some (.int), false)
set_option maxRecDepth 20000 in
theorem msX9_alter : MS yX9_alter miX9_alter 2 := ⟨⟨by decide +kernel, by decide +kernel, by decide +kernel⟩, gT_3 223 rfl rfl, gT_1 12 rfl rfl, by decide⟩
set_option maxRecDepth 20000 in
theorem liX9_alter : Cond.instanceMethod yX9_alter ∈ gT := gT_3 222 rfl rfl
set_option maxRecDepth 20000 in
theorem lvX9_X9_alter : Cond.selects RX9 yX9_alter yX9_alter ∈ gT := gT_sel (y := yX9_alter) 30 4 (by decide +kernel)
abbrev miX9_joined : MI := (RX9, cX9_joined, 3, some (.int), false)
set_option maxRecDepth 20000 in
theorem msX9_joined : MS yX9_joined miX9_joined 3 := ⟨⟨by decide +kernel, by decide +kernel, by decide +kernel⟩, gT_3 226 rfl rfl, gT_1 12 rfl rfl, by decide⟩
set_option maxRecDepth 20000 in
theorem lsX9_joined : Cond.static yX9_joined ∈ gT := gT_3 225 rfl rfl
abbrev miX10_init : MI := (RX10, cX10_init, 5, none, true)
set_option maxRecDepth 20000 in
theorem msX10_init : MS yX10_init miX10_init 4 := ⟨⟨by decide +kernel, by decide +kernel, by decide +kernel⟩, gT_3 55 rfl rfl, gT_1 20 rfl rfl, by decide⟩
set_option maxRecDepth 20000 in
theorem liX10_init : Cond.instanceMethod yX10_init ∈ gT := gT_3 54 rfl rfl
abbrev miX10_pays : MI := (RX10, cX10_pays, 4, some (.boolean), false)
set_option maxRecDepth 20000 in
theorem msX10_pays : MS yX10_pays miX10_pays 3 := ⟨⟨by decide +kernel, by decide +kernel, by decide +kernel⟩, gT_4 19 rfl rfl, gT_1 20 rfl rfl, by decide⟩
set_option maxRecDepth 20000 in
theorem liX10_pays : Cond.instanceMethod yX10_pays ∈ gT := gT_4 18 rfl rfl
abbrev miX10_gaffs : MI := (RX10, cX10_gaffs, 1, some (.int), false)
set_option maxRecDepth 20000 in
theorem msX10_gaffs : MS yX10_gaffs miX10_gaffs 0 := ⟨⟨by decide +kernel, by decide +kernel, by decide +kernel⟩, gT_3 192 rfl rfl, gT_1 20 rfl rfl, by decide⟩
set_option maxRecDepth 20000 in
theorem liX10_gaffs : Cond.instanceMethod yX10_gaffs ∈ gT := gT_3 191 rfl rfl
abbrev miX11_init : MI := (RX11, cX11_init, 2, none, true)
set_option maxRecDepth 20000 in
theorem msX11_init : MS yX11_init miX11_init 0 := ⟨⟨by decide +kernel, by decide +kernel, by decide +kernel⟩, gT_1 31 rfl rfl, gT_1 1 rfl rfl, by decide⟩
set_option maxRecDepth 20000 in
theorem liX11_init : Cond.instanceMethod yX11_init ∈ gT := gT_1 30 rfl rfl
abbrev miX11_stall : MI := (RX11, cX11_stall, 5, some (.int), false)
set_option maxRecDepth 20000 in
theorem msX11_stall : MS yX11_stall miX11_stall 4 := ⟨⟨by decide +kernel, by decide +kernel, by decide +kernel⟩, gT_2 227 rfl rfl, gT_1 1 rfl rfl, by decide⟩
set_option maxRecDepth 20000 in
theorem liX11_stall : Cond.instanceMethod yX11_stall ∈ gT := gT_2 225 rfl rfl
abbrev miX11_set : MI := (RX11, cX11_set, 6, some (.int), false)
set_option maxRecDepth 20000 in
theorem msX11_set : MS yX11_set miX11_set 3 := ⟨⟨by decide +kernel, by decide +kernel, by decide +kernel⟩, gT_3 126 rfl rfl, gT_1 1 rfl rfl, by decide⟩
set_option maxRecDepth 20000 in
theorem liX11_set : Cond.instanceMethod yX11_set ∈ gT := gT_3 124 rfl rfl
abbrev miX11_told : MI := (RX11, cX11_told, 4, some (.int), false)
set_option maxRecDepth 20000 in
theorem msX11_told : MS yX11_told miX11_told 2 := ⟨⟨by decide +kernel, by decide +kernel, by decide +kernel⟩, gT_3 172 rfl rfl, gT_1 1 rfl rfl, by decide⟩
set_option maxRecDepth 20000 in
theorem liX11_told : Cond.instanceMethod yX11_told ∈ gT := gT_3 170 rfl rfl
abbrev miX11_wins : MI := (RX11, cX11_wins, 5, some (.int), false)
set_option maxRecDepth 20000 in
theorem msX11_wins : MS yX11_wins miX11_wins 3 := ⟨⟨by decide +kernel, by decide +kernel, by decide +kernel⟩, gT_3 232 rfl rfl, gT_1 1 rfl rfl, by decide⟩
set_option maxRecDepth 20000 in
theorem liX11_wins : Cond.instanceMethod yX11_wins ∈ gT := gT_3 230 rfl rfl
abbrev miX11_hand : MI := (RX11, cX11_hand, 4, some (.int), false)
set_option maxRecDepth 20000 in
theorem msX11_hand : MS yX11_hand miX11_hand 3 := ⟨⟨by decide +kernel, by decide +kernel, by decide +kernel⟩, gT_4 30 rfl rfl, gT_1 1 rfl rfl, by decide⟩
set_option maxRecDepth 20000 in
theorem liX11_hand : Cond.instanceMethod yX11_hand ∈ gT := gT_4 28 rfl rfl
abbrev miX11_odds : MI := (RX11, cX11_odds, 7, some (.long), false)
set_option maxRecDepth 20000 in
theorem msX11_odds : MS yX11_odds miX11_odds 4 := ⟨⟨by decide +kernel, by decide +kernel, by decide +kernel⟩, gT_4 64 rfl rfl, gT_1 1 rfl rfl, by decide⟩
set_option maxRecDepth 20000 in
theorem liX11_odds : Cond.instanceMethod yX11_odds ∈ gT := gT_4 62 rfl rfl
abbrev miX11_best : MI := (RX11, cX11_best, 7, some (.long), false)
set_option maxRecDepth 20000 in
theorem msX11_best : MS yX11_best miX11_best 3 := ⟨⟨by decide +kernel, by decide +kernel, by decide +kernel⟩, gT_4 104 rfl rfl, gT_1 1 rfl rfl, by decide⟩
set_option maxRecDepth 20000 in
theorem liX11_best : Cond.instanceMethod yX11_best ∈ gT := gT_4 102 rfl rfl
abbrev miX11_newStall : MI := (RX11, cX11_newStall, 4, some (.object "ThreeBalls$Stall"), false)
set_option maxRecDepth 20000 in
theorem msX11_newStall : MS yX11_newStall miX11_newStall 4 := ⟨⟨by decide +kernel, by decide +kernel, by decide +kernel⟩, gT_3 0 rfl rfl, gT_1 1 rfl rfl, by decide⟩
set_option maxRecDepth 20000 in
theorem lsX11_newStall : Cond.static yX11_newStall ∈ gT := gT_2 239 rfl rfl
abbrev miX11_isSettable : MI := (RX11, cX11_isSettable, 2, some (.boolean), false)
set_option maxRecDepth 20000 in
theorem msX11_isSettable : MS yX11_isSettable miX11_isSettable 2 := ⟨⟨by decide +kernel, by decide +kernel, by decide +kernel⟩, gT_3 145 rfl rfl, gT_1 1 rfl rfl, by decide⟩
set_option maxRecDepth 20000 in
theorem lsX11_isSettable : Cond.static yX11_isSettable ∈ gT := gT_3 144 rfl rfl
abbrev miX11_tried : MI := (RX11, cX11_tried, 8, some (.int), false)
set_option maxRecDepth 20000 in
theorem msX11_tried : MS yX11_tried miX11_tried 4 := ⟨⟨by decide +kernel, by decide +kernel, by decide +kernel⟩, gT_4 113 rfl rfl, gT_1 1 rfl rfl, by decide⟩
set_option maxRecDepth 20000 in
theorem liX11_tried : Cond.instanceMethod yX11_tried ∈ gT := gT_4 111 rfl rfl
abbrev miX11_shown : MI := (RX11, cX11_shown, 5, some (.int), false)
set_option maxRecDepth 20000 in
theorem msX11_shown : MS yX11_shown miX11_shown 4 := ⟨⟨by decide +kernel, by decide +kernel, by decide +kernel⟩, gT_4 136 rfl rfl, gT_1 1 rfl rfl, by decide⟩
set_option maxRecDepth 20000 in
theorem liX11_shown : Cond.instanceMethod yX11_shown ∈ gT := gT_4 134 rfl rfl
abbrev miX11_tryTold : MI := (RX11, cX11_tryTold, 3, some (.int), false)
set_option maxRecDepth 20000 in
theorem msX11_tryTold : MS yX11_tryTold miX11_tryTold 2 := ⟨⟨by decide +kernel, by decide +kernel, by decide +kernel⟩, gT_4 144 rfl rfl, gT_1 1 rfl rfl, by decide⟩
set_option maxRecDepth 20000 in
theorem liX11_tryTold : Cond.instanceMethod yX11_tryTold ∈ gT := gT_4 142 rfl rfl
abbrev miX11_setAll : MI := (RX11, cX11_setAll, 9, some (.long), false)
set_option maxRecDepth 20000 in
theorem msX11_setAll : MS yX11_setAll miX11_setAll 3 := ⟨⟨by decide +kernel, by decide +kernel, by decide +kernel⟩, gT_4 152 rfl rfl, gT_1 1 rfl rfl, by decide⟩
set_option maxRecDepth 20000 in
theorem liX11_setAll : Cond.instanceMethod yX11_setAll ∈ gT := gT_4 150 rfl rfl
abbrev miX11_isTry : MI := (RX11, cX11_isTry, 5, some (.boolean), false)
set_option maxRecDepth 20000 in
theorem msX11_isTry : MS yX11_isTry miX11_isTry 4 := ⟨⟨by decide +kernel, by decide +kernel, by decide +kernel⟩, gT_4 140 rfl rfl, gT_1 1 rfl rfl, by decide⟩
set_option maxRecDepth 20000 in
theorem liX11_isTry : Cond.instanceMethod yX11_isTry ∈ gT := gT_4 139 rfl rfl
set_option maxRecDepth 20000 in
theorem lvX11_X11_isTry : Cond.selects RX11 yX11_isTry yX11_isTry ∈ gT := gT_sel (y := yX11_isTry) 34 20 (by decide +kernel)
abbrev miX11_keepTry : MI := (RX11, cX11_keepTry, 7, none, false)
set_option maxRecDepth 20000 in
theorem msX11_keepTry : MS yX11_keepTry miX11_keepTry 4 := ⟨⟨by decide +kernel, by decide +kernel, by decide +kernel⟩, gT_4 132 rfl rfl, gT_1 1 rfl rfl, by decide⟩
set_option maxRecDepth 20000 in
theorem liX11_keepTry : Cond.instanceMethod yX11_keepTry ∈ gT := gT_4 131 rfl rfl
set_option maxRecDepth 20000 in
theorem lvX11_X11_keepTry : Cond.selects RX11 yX11_keepTry yX11_keepTry ∈ gT := gT_sel (y := yX11_keepTry) 33 20 (by decide +kernel)
abbrev miX11_tryField : MI := (RX11, cX11_tryField, 4, some (.int), false)
set_option maxRecDepth 20000 in
theorem msX11_tryField : MS yX11_tryField miX11_tryField 2 := ⟨⟨by decide +kernel, by decide +kernel, by decide +kernel⟩, gT_4 148 rfl rfl, gT_1 1 rfl rfl, by decide⟩
set_option maxRecDepth 20000 in
theorem liX11_tryField : Cond.instanceMethod yX11_tryField ∈ gT := gT_4 147 rfl rfl
set_option maxRecDepth 20000 in
theorem lvX11_X11_tryField : Cond.selects RX11 yX11_tryField yX11_tryField ∈ gT := gT_sel (y := yX11_tryField) 35 20 (by decide +kernel)
abbrev miX11_waysOfTry : MI := (RX11, cX11_waysOfTry, 4, some (.int), false)
set_option maxRecDepth 20000 in
theorem msX11_waysOfTry : MS yX11_waysOfTry miX11_waysOfTry 1 := ⟨⟨by decide +kernel, by decide +kernel, by decide +kernel⟩, gT_4 156 rfl rfl, gT_1 1 rfl rfl, by decide⟩
set_option maxRecDepth 20000 in
theorem liX11_waysOfTry : Cond.instanceMethod yX11_waysOfTry ∈ gT := gT_4 155 rfl rfl
set_option maxRecDepth 20000 in
theorem lvX11_X11_waysOfTry : Cond.selects RX11 yX11_waysOfTry yX11_waysOfTry ∈ gT := gT_sel (y := yX11_waysOfTry) 36 20 (by decide +kernel)
abbrev miX11_firstLot : MI := (RX11, cX11_firstLot, 1, some (.long), false)
set_option maxRecDepth 20000 in
theorem msX11_firstLot : MS yX11_firstLot miX11_firstLot 1 := ⟨⟨by decide +kernel, by decide +kernel, by decide +kernel⟩, gT_4 120 rfl rfl, gT_1 1 rfl rfl, by decide⟩
set_option maxRecDepth 20000 in
theorem lsX11_firstLot : Cond.static yX11_firstLot ∈ gT := gT_4 119 rfl rfl
abbrev miX11_nextLot : MI := (RX11, cX11_nextLot, 2, some (.long), false)
set_option maxRecDepth 20000 in
theorem msX11_nextLot : MS yX11_nextLot miX11_nextLot 1 := ⟨⟨by decide +kernel, by decide +kernel, by decide +kernel⟩, gT_4 211 rfl rfl, gT_1 1 rfl rfl, by decide⟩
set_option maxRecDepth 20000 in
theorem lsX11_nextLot : Cond.static yX11_nextLot ∈ gT := gT_4 210 rfl rfl
abbrev miX11_lands : MI := (RX11, cX11_lands, 11, some (.boolean), false)
set_option maxRecDepth 20000 in
theorem msX11_lands : MS yX11_lands miX11_lands 4 := ⟨⟨by decide +kernel, by decide +kernel, by decide +kernel⟩, gT_4 125 rfl rfl, gT_1 1 rfl rfl, by decide⟩
set_option maxRecDepth 20000 in
theorem lsX11_lands : Cond.static yX11_lands ∈ gT := gT_4 124 rfl rfl
abbrev miX11_worth : MI := (RX11, cX11_worth, 9, some (.long), false)
set_option maxRecDepth 20000 in
theorem msX11_worth : MS yX11_worth miX11_worth 5 := ⟨⟨by decide +kernel, by decide +kernel, by decide +kernel⟩, gT_4 160 rfl rfl, gT_1 1 rfl rfl, by decide⟩
set_option maxRecDepth 20000 in
theorem liX11_worth : Cond.instanceMethod yX11_worth ∈ gT := gT_4 158 rfl rfl
abbrev miX11_leaves : MI := (RX11, cX11_leaves, 8, some (.long), false)
set_option maxRecDepth 20000 in
theorem msX11_leaves : MS yX11_leaves miX11_leaves 2 := ⟨⟨by decide +kernel, by decide +kernel, by decide +kernel⟩, gT_4 164 rfl rfl, gT_1 1 rfl rfl, by decide⟩
set_option maxRecDepth 20000 in
theorem liX11_leaves : Cond.instanceMethod yX11_leaves ∈ gT := gT_4 162 rfl rfl
abbrev miX11_feed : MI := (RX11, cX11_feed, 5, some (.int), false)
set_option maxRecDepth 20000 in
theorem msX11_feed : MS yX11_feed miX11_feed 2 := ⟨⟨by decide +kernel, by decide +kernel, by decide +kernel⟩, gT_4 172 rfl rfl, gT_1 1 rfl rfl, by decide⟩
set_option maxRecDepth 20000 in
theorem liX11_feed : Cond.instanceMethod yX11_feed ∈ gT := gT_4 170 rfl rfl
abbrev miX11_text : MI := (RX11, cX11_text, 2, some (.int), false)
set_option maxRecDepth 20000 in
theorem msX11_text : MS yX11_text miX11_text 0 := ⟨⟨by decide +kernel, by decide +kernel, by decide +kernel⟩, gT_4 177 rfl rfl, gT_1 1 rfl rfl, by decide⟩
set_option maxRecDepth 20000 in
theorem liX11_text : Cond.instanceMethod yX11_text ∈ gT := gT_4 175 rfl rfl
abbrev miX11_force : MI := (RX11, cX11_force, 3, some (.int), false)
set_option maxRecDepth 20000 in
theorem msX11_force : MS yX11_force miX11_force 1 := ⟨⟨by decide +kernel, by decide +kernel, by decide +kernel⟩, gT_4 181 rfl rfl, gT_1 1 rfl rfl, by decide⟩
set_option maxRecDepth 20000 in
theorem liX11_force : Cond.instanceMethod yX11_force ∈ gT := gT_4 179 rfl rfl
abbrev miX11_says : MI := (RX11, cX11_says, 8, some (.long), false)
set_option maxRecDepth 20000 in
theorem msX11_says : MS yX11_says miX11_says 5 := ⟨⟨by decide +kernel, by decide +kernel, by decide +kernel⟩, gT_4 185 rfl rfl, gT_1 1 rfl rfl, by decide⟩
set_option maxRecDepth 20000 in
theorem liX11_says : Cond.instanceMethod yX11_says ∈ gT := gT_4 183 rfl rfl
abbrev miX11_player : MI := (RX11, cX11_player, 9, some (.long), false)
set_option maxRecDepth 20000 in
theorem msX11_player : MS yX11_player miX11_player 5 := ⟨⟨by decide +kernel, by decide +kernel, by decide +kernel⟩, gT_4 194 rfl rfl, gT_1 1 rfl rfl, by decide⟩
set_option maxRecDepth 20000 in
theorem liX11_player : Cond.instanceMethod yX11_player ∈ gT := gT_4 192 rfl rfl
abbrev miX11_most : MI := (RX11, cX11_most, 13, some (.int), false)
set_option maxRecDepth 20000 in
theorem msX11_most : MS yX11_most miX11_most 5 := ⟨⟨by decide +kernel, by decide +kernel, by decide +kernel⟩, gT_4 223 rfl rfl, gT_1 1 rfl rfl, by decide⟩
set_option maxRecDepth 20000 in
theorem liX11_most : Cond.instanceMethod yX11_most ∈ gT := gT_4 221 rfl rfl
abbrev miX11_isPlayer : MI := (RX11, cX11_isPlayer, 5, some (.boolean), false)
set_option maxRecDepth 20000 in
theorem msX11_isPlayer : MS yX11_isPlayer miX11_isPlayer 4 := ⟨⟨by decide +kernel, by decide +kernel, by decide +kernel⟩, gT_4 198 rfl rfl, gT_1 1 rfl rfl, by decide⟩
set_option maxRecDepth 20000 in
theorem liX11_isPlayer : Cond.instanceMethod yX11_isPlayer ∈ gT := gT_4 197 rfl rfl
set_option maxRecDepth 20000 in
theorem lvX11_X11_isPlayer : Cond.selects RX11 yX11_isPlayer yX11_isPlayer ∈ gT := gT_sel (y := yX11_isPlayer) 39 20 (by decide +kernel)
abbrev miX11_askPlayer : MI := (RX11, cX11_askPlayer, 4, none, false)
set_option maxRecDepth 20000 in
theorem msX11_askPlayer : MS yX11_askPlayer miX11_askPlayer 3 := ⟨⟨by decide +kernel, by decide +kernel, by decide +kernel⟩, gT_4 202 rfl rfl, gT_1 1 rfl rfl, by decide⟩
set_option maxRecDepth 20000 in
theorem liX11_askPlayer : Cond.instanceMethod yX11_askPlayer ∈ gT := gT_4 201 rfl rfl
set_option maxRecDepth 20000 in
theorem lvX11_X11_askPlayer : Cond.selects RX11 yX11_askPlayer yX11_askPlayer ∈ gT := gT_sel (y := yX11_askPlayer) 40 20 (by decide +kernel)
abbrev miX11_winningThrows : MI := (RX11, cX11_winningThrows, 9, some (.long), false)
set_option maxRecDepth 20000 in
theorem msX11_winningThrows : MS yX11_winningThrows miX11_winningThrows 4 := ⟨⟨by decide +kernel, by decide +kernel, by decide +kernel⟩, gT_4 208 rfl rfl, gT_1 1 rfl rfl, by decide⟩
set_option maxRecDepth 20000 in
theorem lsX11_winningThrows : Cond.static yX11_winningThrows ∈ gT := gT_4 207 rfl rfl
abbrev miX11_playOut : MI := (RX11, cX11_playOut, 8, none, false)
set_option maxRecDepth 20000 in
theorem msX11_playOut : MS yX11_playOut miX11_playOut 3 := ⟨⟨by decide +kernel, by decide +kernel, by decide +kernel⟩, gT_4 215 rfl rfl, gT_1 1 rfl rfl, by decide⟩
set_option maxRecDepth 20000 in
theorem liX11_playOut : Cond.instanceMethod yX11_playOut ∈ gT := gT_4 214 rfl rfl
set_option maxRecDepth 20000 in
theorem lvX11_X11_playOut : Cond.selects RX11 yX11_playOut yX11_playOut ∈ gT := gT_sel (y := yX11_playOut) 41 20 (by decide +kernel)
abbrev miX11_goesOn : MI := (RX11, cX11_goesOn, 5, some (.boolean), false)
set_option maxRecDepth 20000 in
theorem msX11_goesOn : MS yX11_goesOn miX11_goesOn 2 := ⟨⟨by decide +kernel, by decide +kernel, by decide +kernel⟩, gT_4 219 rfl rfl, gT_1 1 rfl rfl, by decide⟩
set_option maxRecDepth 20000 in
theorem liX11_goesOn : Cond.instanceMethod yX11_goesOn ∈ gT := gT_4 218 rfl rfl
set_option maxRecDepth 20000 in
theorem lvX11_X11_goesOn : Cond.selects RX11 yX11_goesOn yX11_goesOn ∈ gT := gT_sel (y := yX11_goesOn) 42 20 (by decide +kernel)
abbrev miX11_thousandths : MI := (RX11, cX11_thousandths, 4, some (.int), false)
set_option maxRecDepth 20000 in
theorem msX11_thousandths : MS yX11_thousandths miX11_thousandths 3 := ⟨⟨by decide +kernel, by decide +kernel, by decide +kernel⟩, gT_4 189 rfl rfl, gT_1 1 rfl rfl, by decide⟩
set_option maxRecDepth 20000 in
theorem liX11_thousandths : Cond.instanceMethod yX11_thousandths ∈ gT := gT_4 188 rfl rfl
set_option maxRecDepth 20000 in
theorem lvX11_X11_thousandths : Cond.selects RX11 yX11_thousandths yX11_thousandths ∈ gT := gT_sel (y := yX11_thousandths) 38 20 (by decide +kernel)
abbrev miX11_mostWinning : MI := (RX11, cX11_mostWinning, 3, some (.int), false)
set_option maxRecDepth 20000 in
theorem msX11_mostWinning : MS yX11_mostWinning miX11_mostWinning 2 := ⟨⟨by decide +kernel, by decide +kernel, by decide +kernel⟩, gT_4 168 rfl rfl, gT_1 1 rfl rfl, by decide⟩
set_option maxRecDepth 20000 in
theorem liX11_mostWinning : Cond.instanceMethod yX11_mostWinning ∈ gT := gT_4 167 rfl rfl
set_option maxRecDepth 20000 in
theorem lvX11_X11_mostWinning : Cond.selects RX11 yX11_mostWinning yX11_mostWinning ∈ gT := gT_sel (y := yX11_mostWinning) 37 20 (by decide +kernel)
abbrev miX11_tellValues : MI := (RX11, cX11_tellValues, 3, none, false)
set_option maxRecDepth 20000 in
theorem msX11_tellValues : MS yX11_tellValues miX11_tellValues 2 := ⟨⟨by decide +kernel, by decide +kernel, by decide +kernel⟩, gT_3 202 rfl rfl, gT_1 1 rfl rfl, by decide⟩
set_option maxRecDepth 20000 in
theorem liX11_tellValues : Cond.instanceMethod yX11_tellValues ∈ gT := gT_3 201 rfl rfl
set_option maxRecDepth 20000 in
theorem lvX11_X11_tellValues : Cond.selects RX11 yX11_tellValues yX11_tellValues ∈ gT := gT_sel (y := yX11_tellValues) 26 20 (by decide +kernel)
abbrev miX11_ruleSays : MI := (RX11, cX11_ruleSays, 4, some (.int), false)
set_option maxRecDepth 20000 in
theorem msX11_ruleSays : MS yX11_ruleSays miX11_ruleSays 3 := ⟨⟨by decide +kernel, by decide +kernel, by decide +kernel⟩, gT_3 206 rfl rfl, gT_1 1 rfl rfl, by decide⟩
set_option maxRecDepth 20000 in
theorem liX11_ruleSays : Cond.instanceMethod yX11_ruleSays ∈ gT := gT_3 205 rfl rfl
set_option maxRecDepth 20000 in
theorem lvX11_X11_ruleSays : Cond.selects RX11 yX11_ruleSays yX11_ruleSays ∈ gT := gT_sel (y := yX11_ruleSays) 27 20 (by decide +kernel)
abbrev miX11_lookHours : MI := (RX11, cX11_lookHours, 2, some (.int), false)
set_option maxRecDepth 20000 in
theorem msX11_lookHours : MS yX11_lookHours miX11_lookHours 1 := ⟨⟨by decide +kernel, by decide +kernel, by decide +kernel⟩, gT_3 198 rfl rfl, gT_1 1 rfl rfl, by decide⟩
set_option maxRecDepth 20000 in
theorem liX11_lookHours : Cond.instanceMethod yX11_lookHours ∈ gT := gT_3 197 rfl rfl
set_option maxRecDepth 20000 in
theorem lvX11_X11_lookHours : Cond.selects RX11 yX11_lookHours yX11_lookHours ∈ gT := gT_sel (y := yX11_lookHours) 25 20 (by decide +kernel)
abbrev miX11_test : MI := (RX11, cX11_test, 3, some (.int), false)
set_option maxRecDepth 20000 in
theorem msX11_test : MS yX11_test miX11_test 2 := ⟨⟨by decide +kernel, by decide +kernel, by decide +kernel⟩, gT_4 233 rfl rfl, gT_1 1 rfl rfl, by decide⟩
set_option maxRecDepth 20000 in
theorem liX11_test : Cond.instanceMethod yX11_test ∈ gT := gT_4 231 rfl rfl
abbrev miX11_find : MI := (RX11, cX11_find, 7, some (.int), false)
set_option maxRecDepth 20000 in
theorem msX11_find : MS yX11_find miX11_find 2 := ⟨⟨by decide +kernel, by decide +kernel, by decide +kernel⟩, gT_5 6 rfl rfl, gT_1 1 rfl rfl, by decide⟩
set_option maxRecDepth 20000 in
theorem liX11_find : Cond.instanceMethod yX11_find ∈ gT := gT_5 4 rfl rfl
abbrev miX11_year : MI := (RX11, cX11_year, 11, some (.int), false)
set_option maxRecDepth 20000 in
theorem msX11_year : MS yX11_year miX11_year 2 := ⟨⟨by decide +kernel, by decide +kernel, by decide +kernel⟩, gT_5 29 rfl rfl, gT_1 1 rfl rfl, by decide⟩
set_option maxRecDepth 20000 in
theorem liX11_year : Cond.instanceMethod yX11_year ∈ gT := gT_5 27 rfl rfl
abbrev miX11_make : MI := (RX11, cX11_make, 14, some (.int), false)
set_option maxRecDepth 20000 in
theorem msX11_make : MS yX11_make miX11_make 5 := ⟨⟨by decide +kernel, by decide +kernel, by decide +kernel⟩, gT_5 41 rfl rfl, gT_1 1 rfl rfl, by decide⟩
set_option maxRecDepth 20000 in
theorem liX11_make : Cond.instanceMethod yX11_make ∈ gT := gT_5 39 rfl rfl
abbrev miX11_walk : MI := (RX11, cX11_walk, 6, some (.int), false)
set_option maxRecDepth 20000 in
theorem msX11_walk : MS yX11_walk miX11_walk 3 := ⟨⟨by decide +kernel, by decide +kernel, by decide +kernel⟩, gT_5 45 rfl rfl, gT_1 1 rfl rfl, by decide⟩
set_option maxRecDepth 20000 in
theorem liX11_walk : Cond.instanceMethod yX11_walk ∈ gT := gT_5 43 rfl rfl
abbrev miX11_image : MI := (RX11, cX11_image, 2, some (.int), false)
set_option maxRecDepth 20000 in
theorem msX11_image : MS yX11_image miX11_image 0 := ⟨⟨by decide +kernel, by decide +kernel, by decide +kernel⟩, gT_5 62 rfl rfl, gT_1 1 rfl rfl, by decide⟩
set_option maxRecDepth 20000 in
theorem liX11_image : Cond.instanceMethod yX11_image ∈ gT := gT_5 60 rfl rfl
abbrev miX11_back : MI := (RX11, cX11_back, 2, some (.int), false)
set_option maxRecDepth 20000 in
theorem msX11_back : MS yX11_back miX11_back 0 := ⟨⟨by decide +kernel, by decide +kernel, by decide +kernel⟩, gT_5 72 rfl rfl, gT_1 1 rfl rfl, by decide⟩
set_option maxRecDepth 20000 in
theorem liX11_back : Cond.instanceMethod yX11_back ∈ gT := gT_5 70 rfl rfl
abbrev miX11_count : MI := (RX11, cX11_count, 2, some (.int), false)
set_option maxRecDepth 20000 in
theorem msX11_count : MS yX11_count miX11_count 1 := ⟨⟨by decide +kernel, by decide +kernel, by decide +kernel⟩, gT_5 81 rfl rfl, gT_1 1 rfl rfl, by decide⟩
set_option maxRecDepth 20000 in
theorem liX11_count : Cond.instanceMethod yX11_count ∈ gT := gT_5 79 rfl rfl
abbrev miX11_areAnswers : MI := (RX11, cX11_areAnswers, 2, some (.boolean), false)
set_option maxRecDepth 20000 in
theorem msX11_areAnswers : MS yX11_areAnswers miX11_areAnswers 1 := ⟨⟨by decide +kernel, by decide +kernel, by decide +kernel⟩, gT_4 236 rfl rfl, gT_1 1 rfl rfl, by decide⟩
set_option maxRecDepth 20000 in
theorem lsX11_areAnswers : Cond.static yX11_areAnswers ∈ gT := gT_4 235 rfl rfl
abbrev miX11_answerOf : MI := (RX11, cX11_answerOf, 2, some (.int), false)
set_option maxRecDepth 20000 in
theorem msX11_answerOf : MS yX11_answerOf miX11_answerOf 2 := ⟨⟨by decide +kernel, by decide +kernel, by decide +kernel⟩, gT_5 0 rfl rfl, gT_1 1 rfl rfl, by decide⟩
set_option maxRecDepth 20000 in
theorem lsX11_answerOf : Cond.static yX11_answerOf ∈ gT := gT_4 239 rfl rfl
abbrev miX11_allStalls : MI := (RX11, cX11_allStalls, 1, some (.int), false)
set_option maxRecDepth 20000 in
theorem msX11_allStalls : MS yX11_allStalls miX11_allStalls 0 := ⟨⟨by decide +kernel, by decide +kernel, by decide +kernel⟩, gT_5 10 rfl rfl, gT_1 1 rfl rfl, by decide⟩
set_option maxRecDepth 20000 in
theorem liX11_allStalls : Cond.instanceMethod yX11_allStalls ∈ gT := gT_5 9 rfl rfl
set_option maxRecDepth 20000 in
theorem lvX11_X11_allStalls : Cond.selects RX11 yX11_allStalls yX11_allStalls ∈ gT := gT_sel (y := yX11_allStalls) 43 20 (by decide +kernel)
abbrev miX11_hoursOfTests : MI := (RX11, cX11_hoursOfTests, 4, some (.int), false)
set_option maxRecDepth 20000 in
theorem msX11_hoursOfTests : MS yX11_hoursOfTests miX11_hoursOfTests 1 := ⟨⟨by decide +kernel, by decide +kernel, by decide +kernel⟩, gT_5 14 rfl rfl, gT_1 1 rfl rfl, by decide⟩
set_option maxRecDepth 20000 in
theorem liX11_hoursOfTests : Cond.instanceMethod yX11_hoursOfTests ∈ gT := gT_5 13 rfl rfl
set_option maxRecDepth 20000 in
theorem lvX11_X11_hoursOfTests : Cond.selects RX11 yX11_hoursOfTests yX11_hoursOfTests ∈ gT := gT_sel (y := yX11_hoursOfTests) 44 20 (by decide +kernel)
abbrev miX11_areParted : MI := (RX11, cX11_areParted, 8, some (.boolean), false)
set_option maxRecDepth 20000 in
theorem msX11_areParted : MS yX11_areParted miX11_areParted 2 := ⟨⟨by decide +kernel, by decide +kernel, by decide +kernel⟩, gT_5 21 rfl rfl, gT_1 1 rfl rfl, by decide⟩
set_option maxRecDepth 20000 in
theorem liX11_areParted : Cond.instanceMethod yX11_areParted ∈ gT := gT_5 20 rfl rfl
set_option maxRecDepth 20000 in
theorem lvX11_X11_areParted : Cond.selects RX11 yX11_areParted yX11_areParted ∈ gT := gT_sel (y := yX11_areParted) 45 20 (by decide +kernel)
abbrev miX11_arePartedKinds : MI := (RX11, cX11_arePartedKinds, 6, some (.boolean), false)
set_option maxRecDepth 20000 in
theorem msX11_arePartedKinds : MS yX11_arePartedKinds miX11_arePartedKinds 3 := ⟨⟨by decide +kernel, by decide +kernel, by decide +kernel⟩, gT_5 25 rfl rfl, gT_1 1 rfl rfl, by decide⟩
set_option maxRecDepth 20000 in
theorem liX11_arePartedKinds : Cond.instanceMethod yX11_arePartedKinds ∈ gT := gT_5 24 rfl rfl
set_option maxRecDepth 20000 in
theorem lvX11_X11_arePartedKinds : Cond.selects RX11 yX11_arePartedKinds yX11_arePartedKinds ∈ gT := gT_sel (y := yX11_arePartedKinds) 46 20 (by decide +kernel)
abbrev miX11_hoursOfLooks : MI := (RX11, cX11_hoursOfLooks, 4, some (.int), false)
set_option maxRecDepth 20000 in
theorem msX11_hoursOfLooks : MS yX11_hoursOfLooks miX11_hoursOfLooks 1 := ⟨⟨by decide +kernel, by decide +kernel, by decide +kernel⟩, gT_5 33 rfl rfl, gT_1 1 rfl rfl, by decide⟩
set_option maxRecDepth 20000 in
theorem liX11_hoursOfLooks : Cond.instanceMethod yX11_hoursOfLooks ∈ gT := gT_5 32 rfl rfl
set_option maxRecDepth 20000 in
theorem lvX11_X11_hoursOfLooks : Cond.selects RX11 yX11_hoursOfLooks yX11_hoursOfLooks ∈ gT := gT_sel (y := yX11_hoursOfLooks) 47 20 (by decide +kernel)
abbrev miX11_gaffsOf : MI := (RX11, cX11_gaffsOf, 4, some (.int), false)
set_option maxRecDepth 20000 in
theorem msX11_gaffsOf : MS yX11_gaffsOf miX11_gaffsOf 1 := ⟨⟨by decide +kernel, by decide +kernel, by decide +kernel⟩, gT_5 37 rfl rfl, gT_1 1 rfl rfl, by decide⟩
set_option maxRecDepth 20000 in
theorem liX11_gaffsOf : Cond.instanceMethod yX11_gaffsOf ∈ gT := gT_5 36 rfl rfl
set_option maxRecDepth 20000 in
theorem lvX11_X11_gaffsOf : Cond.selects RX11 yX11_gaffsOf yX11_gaffsOf ∈ gT := gT_sel (y := yX11_gaffsOf) 48 20 (by decide +kernel)
abbrev miX11_leastFail : MI := (RX11, cX11_leastFail, 8, some (.int), false)
set_option maxRecDepth 20000 in
theorem msX11_leastFail : MS yX11_leastFail miX11_leastFail 3 := ⟨⟨by decide +kernel, by decide +kernel, by decide +kernel⟩, gT_5 50 rfl rfl, gT_1 1 rfl rfl, by decide⟩
set_option maxRecDepth 20000 in
theorem liX11_leastFail : Cond.instanceMethod yX11_leastFail ∈ gT := gT_5 49 rfl rfl
set_option maxRecDepth 20000 in
theorem lvX11_X11_leastFail : Cond.selects RX11 yX11_leastFail yX11_leastFail ∈ gT := gT_sel (y := yX11_leastFail) 49 20 (by decide +kernel)
abbrev miX11_failAfter : MI := (RX11, cX11_failAfter, 4, some (.int), false)
set_option maxRecDepth 20000 in
theorem msX11_failAfter : MS yX11_failAfter miX11_failAfter 3 := ⟨⟨by decide +kernel, by decide +kernel, by decide +kernel⟩, gT_5 54 rfl rfl, gT_1 1 rfl rfl, by decide⟩
set_option maxRecDepth 20000 in
theorem liX11_failAfter : Cond.instanceMethod yX11_failAfter ∈ gT := gT_5 53 rfl rfl
set_option maxRecDepth 20000 in
theorem lvX11_X11_failAfter : Cond.selects RX11 yX11_failAfter yX11_failAfter ∈ gT := gT_sel (y := yX11_failAfter) 50 20 (by decide +kernel)
abbrev miX11_firstOfWalk : MI := (RX11, cX11_firstOfWalk, 6, some (.int), false)
set_option maxRecDepth 20000 in
theorem msX11_firstOfWalk : MS yX11_firstOfWalk miX11_firstOfWalk 3 := ⟨⟨by decide +kernel, by decide +kernel, by decide +kernel⟩, gT_5 58 rfl rfl, gT_1 1 rfl rfl, by decide⟩
set_option maxRecDepth 20000 in
theorem liX11_firstOfWalk : Cond.instanceMethod yX11_firstOfWalk ∈ gT := gT_5 57 rfl rfl
set_option maxRecDepth 20000 in
theorem lvX11_X11_firstOfWalk : Cond.selects RX11 yX11_firstOfWalk yX11_firstOfWalk ∈ gT := gT_sel (y := yX11_firstOfWalk) 51 20 (by decide +kernel)
abbrev miX11_triesWon : MI := (RX11, cX11_triesWon, 3, some (.int), false)
set_option maxRecDepth 20000 in
theorem msX11_triesWon : MS yX11_triesWon miX11_triesWon 0 := ⟨⟨by decide +kernel, by decide +kernel, by decide +kernel⟩, gT_5 85 rfl rfl, gT_1 1 rfl rfl, by decide⟩
set_option maxRecDepth 20000 in
theorem liX11_triesWon : Cond.instanceMethod yX11_triesWon ∈ gT := gT_5 84 rfl rfl
set_option maxRecDepth 20000 in
theorem lvX11_X11_triesWon : Cond.selects RX11 yX11_triesWon yX11_triesWon ∈ gT := gT_sel (y := yX11_triesWon) 52 20 (by decide +kernel)
abbrev miX11_sheet : MI := (RX11, cX11_sheet, 4, some (.int), false)
set_option maxRecDepth 20000 in
theorem msX11_sheet : MS yX11_sheet miX11_sheet 3 := ⟨⟨by decide +kernel, by decide +kernel, by decide +kernel⟩, gT_5 89 rfl rfl, gT_1 1 rfl rfl, by decide⟩
set_option maxRecDepth 20000 in
theorem liX11_sheet : Cond.instanceMethod yX11_sheet ∈ gT := gT_5 87 rfl rfl
abbrev miX11_cell : MI := (RX11, cX11_cell, 5, some (.int), false)
set_option maxRecDepth 20000 in
theorem msX11_cell : MS yX11_cell miX11_cell 3 := ⟨⟨by decide +kernel, by decide +kernel, by decide +kernel⟩, gT_5 96 rfl rfl, gT_1 1 rfl rfl, by decide⟩
set_option maxRecDepth 20000 in
theorem liX11_cell : Cond.instanceMethod yX11_cell ∈ gT := gT_5 94 rfl rfl
abbrev miX11_copy : MI := (RX11, cX11_copy, 8, some (.int), false)
set_option maxRecDepth 20000 in
theorem msX11_copy : MS yX11_copy miX11_copy 5 := ⟨⟨by decide +kernel, by decide +kernel, by decide +kernel⟩, gT_5 103 rfl rfl, gT_1 1 rfl rfl, by decide⟩
set_option maxRecDepth 20000 in
theorem liX11_copy : Cond.instanceMethod yX11_copy ∈ gT := gT_5 101 rfl rfl
abbrev miX11_tries : MI := (RX11, cX11_tries, 9, some (.int), false)
set_option maxRecDepth 20000 in
theorem msX11_tries : MS yX11_tries miX11_tries 4 := ⟨⟨by decide +kernel, by decide +kernel, by decide +kernel⟩, gT_5 111 rfl rfl, gT_1 1 rfl rfl, by decide⟩
set_option maxRecDepth 20000 in
theorem liX11_tries : Cond.instanceMethod yX11_tries ∈ gT := gT_5 109 rfl rfl
abbrev miX11_taken : MI := (RX11, cX11_taken, 4, some (.int), false)
set_option maxRecDepth 20000 in
theorem msX11_taken : MS yX11_taken miX11_taken 2 := ⟨⟨by decide +kernel, by decide +kernel, by decide +kernel⟩, gT_5 116 rfl rfl, gT_1 1 rfl rfl, by decide⟩
set_option maxRecDepth 20000 in
theorem liX11_taken : Cond.instanceMethod yX11_taken ∈ gT := gT_5 114 rfl rfl
abbrev miX11_isSheet : MI := (RX11, cX11_isSheet, 1, some (.boolean), false)
set_option maxRecDepth 20000 in
theorem msX11_isSheet : MS yX11_isSheet miX11_isSheet 1 := ⟨⟨by decide +kernel, by decide +kernel, by decide +kernel⟩, gT_5 92 rfl rfl, gT_1 1 rfl rfl, by decide⟩
set_option maxRecDepth 20000 in
theorem lsX11_isSheet : Cond.static yX11_isSheet ∈ gT := gT_5 91 rfl rfl
abbrev miX11_ofSort : MI := (RX11, cX11_ofSort, 2, some (.int), false)
set_option maxRecDepth 20000 in
theorem msX11_ofSort : MS yX11_ofSort miX11_ofSort 2 := ⟨⟨by decide +kernel, by decide +kernel, by decide +kernel⟩, gT_5 99 rfl rfl, gT_1 1 rfl rfl, by decide⟩
set_option maxRecDepth 20000 in
theorem lsX11_ofSort : Cond.static yX11_ofSort ∈ gT := gT_5 98 rfl rfl
abbrev miX11_hasItems : MI := (RX11, cX11_hasItems, 3, some (.boolean), false)
set_option maxRecDepth 20000 in
theorem msX11_hasItems : MS yX11_hasItems miX11_hasItems 3 := ⟨⟨by decide +kernel, by decide +kernel, by decide +kernel⟩, gT_5 106 rfl rfl, gT_1 1 rfl rfl, by decide⟩
set_option maxRecDepth 20000 in
theorem lsX11_hasItems : Cond.static yX11_hasItems ∈ gT := gT_5 105 rfl rfl
abbrev miX11_isUnder : MI := (RX11, cX11_isUnder, 2, some (.boolean), false)
set_option maxRecDepth 20000 in
theorem msX11_isUnder : MS yX11_isUnder miX11_isUnder 2 := ⟨⟨by decide +kernel, by decide +kernel, by decide +kernel⟩, gT_5 119 rfl rfl, gT_1 1 rfl rfl, by decide⟩
set_option maxRecDepth 20000 in
theorem lsX11_isUnder : Cond.static yX11_isUnder ∈ gT := gT_5 118 rfl rfl
abbrev miX11_stallAt : MI := (RX11, cX11_stallAt, 2, some (.object "ThreeBalls$Stall"), false)
set_option maxRecDepth 20000 in
theorem msX11_stallAt : MS yX11_stallAt miX11_stallAt 1 := ⟨⟨by decide +kernel, by decide +kernel, by decide +kernel⟩, gT_3 130 rfl rfl, gT_1 1 rfl rfl, by decide⟩
set_option maxRecDepth 20000 in
theorem liX11_stallAt : Cond.instanceMethod yX11_stallAt ∈ gT := gT_3 129 rfl rfl
set_option maxRecDepth 20000 in
theorem lvX11_X11_stallAt : Cond.selects RX11 yX11_stallAt yX11_stallAt ∈ gT := gT_sel (y := yX11_stallAt) 24 20 (by decide +kernel)
abbrev miX11_handAt : MI := (RX11, cX11_handAt, 2, some (.object "ThreeBalls$Hand"), false)
set_option maxRecDepth 20000 in
theorem msX11_handAt : MS yX11_handAt miX11_handAt 1 := ⟨⟨by decide +kernel, by decide +kernel, by decide +kernel⟩, gT_4 68 rfl rfl, gT_1 1 rfl rfl, by decide⟩
set_option maxRecDepth 20000 in
theorem liX11_handAt : Cond.instanceMethod yX11_handAt ∈ gT := gT_4 67 rfl rfl
set_option maxRecDepth 20000 in
theorem lvX11_X11_handAt : Cond.selects RX11 yX11_handAt yX11_handAt ∈ gT := gT_sel (y := yX11_handAt) 31 20 (by decide +kernel)
abbrev miX11_isIn : MI := (RX11, cX11_isIn, 3, some (.boolean), false)
set_option maxRecDepth 20000 in
theorem msX11_isIn : MS yX11_isIn miX11_isIn 3 := ⟨⟨by decide +kernel, by decide +kernel, by decide +kernel⟩, gT_2 230 rfl rfl, gT_1 1 rfl rfl, by decide⟩
set_option maxRecDepth 20000 in
theorem lsX11_isIn : Cond.static yX11_isIn ∈ gT := gT_2 229 rfl rfl
abbrev miX11_isPlace : MI := (RX11, cX11_isPlace, 1, some (.boolean), false)
set_option maxRecDepth 20000 in
theorem msX11_isPlace : MS yX11_isPlace miX11_isPlace 1 := ⟨⟨by decide +kernel, by decide +kernel, by decide +kernel⟩, gT_2 233 rfl rfl, gT_1 1 rfl rfl, by decide⟩
set_option maxRecDepth 20000 in
theorem lsX11_isPlace : Cond.static yX11_isPlace ∈ gT := gT_2 232 rfl rfl
abbrev miX11_isSeed : MI := (RX11, cX11_isSeed, 1, some (.boolean), false)
set_option maxRecDepth 20000 in
theorem msX11_isSeed : MS yX11_isSeed miX11_isSeed 1 := ⟨⟨by decide +kernel, by decide +kernel, by decide +kernel⟩, gT_4 116 rfl rfl, gT_1 1 rfl rfl, by decide⟩
set_option maxRecDepth 20000 in
theorem lsX11_isSeed : Cond.static yX11_isSeed ∈ gT := gT_4 115 rfl rfl
abbrev miX11_isBit : MI := (RX11, cX11_isBit, 1, some (.boolean), false)
set_option maxRecDepth 20000 in
theorem msX11_isBit : MS yX11_isBit miX11_isBit 1 := ⟨⟨by decide +kernel, by decide +kernel, by decide +kernel⟩, gT_3 148 rfl rfl, gT_1 1 rfl rfl, by decide⟩
set_option maxRecDepth 20000 in
theorem lsX11_isBit : Cond.static yX11_isBit ∈ gT := gT_3 147 rfl rfl
abbrev miX11_isOf : MI := (RX11, cX11_isOf, 2, some (.boolean), false)
set_option maxRecDepth 20000 in
theorem msX11_isOf : MS yX11_isOf miX11_isOf 2 := ⟨⟨by decide +kernel, by decide +kernel, by decide +kernel⟩, gT_5 17 rfl rfl, gT_1 1 rfl rfl, by decide⟩
set_option maxRecDepth 20000 in
theorem lsX11_isOf : Cond.static yX11_isOf ∈ gT := gT_5 16 rfl rfl
abbrev miX11_asBit : MI := (RX11, cX11_asBit, 1, some (.int), false)
set_option maxRecDepth 20000 in
theorem msX11_asBit : MS yX11_asBit miX11_asBit 1 := ⟨⟨by decide +kernel, by decide +kernel, by decide +kernel⟩, gT_4 26 rfl rfl, gT_1 1 rfl rfl, by decide⟩
set_option maxRecDepth 20000 in
theorem lsX11_asBit : Cond.static yX11_asBit ∈ gT := gT_4 25 rfl rfl
abbrev miX11_quotient : MI := (RX11, cX11_quotient, 4, some (.long), false)
set_option maxRecDepth 20000 in
theorem msX11_quotient : MS yX11_quotient miX11_quotient 2 := ⟨⟨by decide +kernel, by decide +kernel, by decide +kernel⟩, gT_4 100 rfl rfl, gT_1 1 rfl rfl, by decide⟩
set_option maxRecDepth 20000 in
theorem lsX11_quotient : Cond.static yX11_quotient ∈ gT := gT_4 99 rfl rfl
abbrev miX11_remainder : MI := (RX11, cX11_remainder, 4, some (.long), false)
set_option maxRecDepth 20000 in
theorem msX11_remainder : MS yX11_remainder miX11_remainder 2 := ⟨⟨by decide +kernel, by decide +kernel, by decide +kernel⟩, gT_4 128 rfl rfl, gT_1 1 rfl rfl, by decide⟩
set_option maxRecDepth 20000 in
theorem lsX11_remainder : Cond.static yX11_remainder ∈ gT := gT_4 127 rfl rfl
abbrev miX11_lowest : MI := (RX11, cX11_lowest, 7, some (.long), false)
set_option maxRecDepth 20000 in
theorem msX11_lowest : MS yX11_lowest miX11_lowest 3 := ⟨⟨by decide +kernel, by decide +kernel, by decide +kernel⟩, gT_4 91 rfl rfl, gT_1 1 rfl rfl, by decide⟩
set_option maxRecDepth 20000 in
theorem lsX11_lowest : Cond.static yX11_lowest ∈ gT := gT_4 90 rfl rfl
abbrev miX11_commonDivisor : MI := (RX11, cX11_commonDivisor, 11, some (.long), false)
set_option maxRecDepth 20000 in
theorem msX11_commonDivisor : MS yX11_commonDivisor miX11_commonDivisor 2 := ⟨⟨by decide +kernel, by decide +kernel, by decide +kernel⟩, gT_4 97 rfl rfl, gT_1 1 rfl rfl, by decide⟩
set_option maxRecDepth 20000 in
theorem lsX11_commonDivisor : Cond.static yX11_commonDivisor ∈ gT := gT_4 96 rfl rfl
abbrev miX12_in : MI := (RX12, cX12_in, 6, some (.boolean), false)
set_option maxRecDepth 20000 in
theorem msX12_in : MS yX12_in miX12_in 3 := ⟨⟨by decide +kernel, by decide +kernel, by decide +kernel⟩, gT_6 77 rfl rfl, gT_1 17 rfl rfl, by decide⟩
set_option maxRecDepth 20000 in
theorem lsX12_in : Cond.static yX12_in ∈ gT := gT_6 76 rfl rfl
abbrev miX12_init : MI := (RX12, cX12_init, 1, none, true)
set_option maxRecDepth 20000 in
theorem msX12_init : MS yX12_init miX12_init 0 := ⟨⟨by decide +kernel, by decide +kernel, by decide +kernel⟩, gT_5 124 rfl rfl, gT_1 17 rfl rfl, by decide⟩
set_option maxRecDepth 20000 in
theorem liX12_init : Cond.instanceMethod yX12_init ∈ gT := gT_5 123 rfl rfl
abbrev miX12_spell : MI := (RX12, cX12_spell, 5, none, false)
set_option maxRecDepth 20000 in
theorem msX12_spell : MS yX12_spell miX12_spell 2 := ⟨⟨by decide +kernel, by decide +kernel, by decide +kernel⟩, gT_5 130 rfl rfl, gT_1 17 rfl rfl, by decide⟩
set_option maxRecDepth 20000 in
theorem liX12_spell : Cond.instanceMethod yX12_spell ∈ gT := gT_5 129 rfl rfl
set_option maxRecDepth 20000 in
theorem lvX12_X12_spell : Cond.selects RX12 yX12_spell yX12_spell ∈ gT := gT_sel (y := yX12_spell) 53 57 (by decide +kernel)
abbrev miX12_isStall : MI := (RX12, cX12_isStall, 2, some (.boolean), false)
set_option maxRecDepth 20000 in
theorem msX12_isStall : MS yX12_isStall miX12_isStall 1 := ⟨⟨by decide +kernel, by decide +kernel, by decide +kernel⟩, gT_6 90 rfl rfl, gT_1 17 rfl rfl, by decide⟩
set_option maxRecDepth 20000 in
theorem liX12_isStall : Cond.instanceMethod yX12_isStall ∈ gT := gT_6 89 rfl rfl
set_option maxRecDepth 20000 in
theorem lvX12_X12_isStall : Cond.selects RX12 yX12_isStall yX12_isStall ∈ gT := gT_sel (y := yX12_isStall) 54 57 (by decide +kernel)
abbrev miX12_isHand : MI := (RX12, cX12_isHand, 2, some (.boolean), false)
set_option maxRecDepth 20000 in
theorem msX12_isHand : MS yX12_isHand miX12_isHand 1 := ⟨⟨by decide +kernel, by decide +kernel, by decide +kernel⟩, gT_6 214 rfl rfl, gT_1 17 rfl rfl, by decide⟩
set_option maxRecDepth 20000 in
theorem liX12_isHand : Cond.instanceMethod yX12_isHand ∈ gT := gT_6 213 rfl rfl
set_option maxRecDepth 20000 in
theorem lvX12_X12_isHand : Cond.selects RX12 yX12_isHand yX12_isHand ∈ gT := gT_sel (y := yX12_isHand) 72 57 (by decide +kernel)
abbrev miX12_isPlace : MI := (RX12, cX12_isPlace, 1, some (.boolean), false)
set_option maxRecDepth 20000 in
theorem msX12_isPlace : MS yX12_isPlace miX12_isPlace 1 := ⟨⟨by decide +kernel, by decide +kernel, by decide +kernel⟩, gT_6 80 rfl rfl, gT_1 17 rfl rfl, by decide⟩
set_option maxRecDepth 20000 in
theorem lsX12_isPlace : Cond.static yX12_isPlace ∈ gT := gT_6 79 rfl rfl
abbrev miX12_stall : MI := (RX12, cX12_stall, 5, some (.int), false)
set_option maxRecDepth 20000 in
theorem msX12_stall : MS yX12_stall miX12_stall 4 := ⟨⟨by decide +kernel, by decide +kernel, by decide +kernel⟩, gT_6 73 rfl rfl, gT_1 17 rfl rfl, by decide⟩
set_option maxRecDepth 20000 in
theorem liX12_stall : Cond.instanceMethod yX12_stall ∈ gT := gT_6 71 rfl rfl
abbrev miX12_set : MI := (RX12, cX12_set, 5, some (.int), false)
set_option maxRecDepth 20000 in
theorem msX12_set : MS yX12_set miX12_set 3 := ⟨⟨by decide +kernel, by decide +kernel, by decide +kernel⟩, gT_6 86 rfl rfl, gT_1 17 rfl rfl, by decide⟩
set_option maxRecDepth 20000 in
theorem liX12_set : Cond.instanceMethod yX12_set ∈ gT := gT_6 84 rfl rfl
abbrev miX12_seenOf : MI := (RX12, cX12_seenOf, 2, some (.int), false)
set_option maxRecDepth 20000 in
theorem msX12_seenOf : MS yX12_seenOf miX12_seenOf 1 := ⟨⟨by decide +kernel, by decide +kernel, by decide +kernel⟩, gT_6 100 rfl rfl, gT_1 17 rfl rfl, by decide⟩
set_option maxRecDepth 20000 in
theorem liX12_seenOf : Cond.instanceMethod yX12_seenOf ∈ gT := gT_6 99 rfl rfl
set_option maxRecDepth 20000 in
theorem lvX12_X12_seenOf : Cond.selects RX12 yX12_seenOf yX12_seenOf ∈ gT := gT_sel (y := yX12_seenOf) 55 57 (by decide +kernel)
abbrev miX12_hoursOf : MI := (RX12, cX12_hoursOf, 3, some (.int), false)
set_option maxRecDepth 20000 in
theorem msX12_hoursOf : MS yX12_hoursOf miX12_hoursOf 1 := ⟨⟨by decide +kernel, by decide +kernel, by decide +kernel⟩, gT_6 104 rfl rfl, gT_1 17 rfl rfl, by decide⟩
set_option maxRecDepth 20000 in
theorem liX12_hoursOf : Cond.instanceMethod yX12_hoursOf ∈ gT := gT_6 103 rfl rfl
set_option maxRecDepth 20000 in
theorem lvX12_X12_hoursOf : Cond.selects RX12 yX12_hoursOf yX12_hoursOf ∈ gT := gT_sel (y := yX12_hoursOf) 56 57 (by decide +kernel)
abbrev miX12_told : MI := (RX12, cX12_told, 3, some (.int), false)
set_option maxRecDepth 20000 in
theorem msX12_told : MS yX12_told miX12_told 2 := ⟨⟨by decide +kernel, by decide +kernel, by decide +kernel⟩, gT_6 96 rfl rfl, gT_1 17 rfl rfl, by decide⟩
set_option maxRecDepth 20000 in
theorem liX12_told : Cond.instanceMethod yX12_told ∈ gT := gT_6 94 rfl rfl
abbrev miX12_plain : MI := (RX12, cX12_plain, 1, some (.int), false)
set_option maxRecDepth 20000 in
theorem msX12_plain : MS yX12_plain miX12_plain 1 := ⟨⟨by decide +kernel, by decide +kernel, by decide +kernel⟩, gT_6 201 rfl rfl, gT_1 17 rfl rfl, by decide⟩
set_option maxRecDepth 20000 in
theorem lsX12_plain : Cond.static yX12_plain ∈ gT := gT_6 200 rfl rfl
abbrev miX12_isIn : MI := (RX12, cX12_isIn, 3, some (.boolean), false)
set_option maxRecDepth 20000 in
theorem msX12_isIn : MS yX12_isIn miX12_isIn 3 := ⟨⟨by decide +kernel, by decide +kernel, by decide +kernel⟩, gT_6 198 rfl rfl, gT_1 17 rfl rfl, by decide⟩
set_option maxRecDepth 20000 in
theorem lsX12_isIn : Cond.static yX12_isIn ∈ gT := gT_6 197 rfl rfl
abbrev miX12_isWon : MI := (RX12, cX12_isWon, 5, some (.boolean), false)
set_option maxRecDepth 20000 in
theorem msX12_isWon : MS yX12_isWon miX12_isWon 5 := ⟨⟨by decide +kernel, by decide +kernel, by decide +kernel⟩, gT_6 195 rfl rfl, gT_1 17 rfl rfl, by decide⟩
set_option maxRecDepth 20000 in
theorem lsX12_isWon : Cond.static yX12_isWon ∈ gT := gT_6 194 rfl rfl
abbrev miX12_wins : MI := (RX12, cX12_wins, 4, some (.int), false)
set_option maxRecDepth 20000 in
theorem msX12_wins : MS yX12_wins miX12_wins 3 := ⟨⟨by decide +kernel, by decide +kernel, by decide +kernel⟩, gT_6 190 rfl rfl, gT_1 17 rfl rfl, by decide⟩
set_option maxRecDepth 20000 in
theorem liX12_wins : Cond.instanceMethod yX12_wins ∈ gT := gT_6 188 rfl rfl
abbrev miX12_hand : MI := (RX12, cX12_hand, 4, some (.int), false)
set_option maxRecDepth 20000 in
theorem msX12_hand : MS yX12_hand miX12_hand 3 := ⟨⟨by decide +kernel, by decide +kernel, by decide +kernel⟩, gT_6 205 rfl rfl, gT_1 17 rfl rfl, by decide⟩
set_option maxRecDepth 20000 in
theorem liX12_hand : Cond.instanceMethod yX12_hand ∈ gT := gT_6 203 rfl rfl
abbrev miX12_allOf : MI := (RX12, cX12_allOf, 2, some (.int), false)
set_option maxRecDepth 20000 in
theorem msX12_allOf : MS yX12_allOf miX12_allOf 1 := ⟨⟨by decide +kernel, by decide +kernel, by decide +kernel⟩, gT_6 229 rfl rfl, gT_1 17 rfl rfl, by decide⟩
set_option maxRecDepth 20000 in
theorem liX12_allOf : Cond.instanceMethod yX12_allOf ∈ gT := gT_6 228 rfl rfl
set_option maxRecDepth 20000 in
theorem lvX12_X12_allOf : Cond.selects RX12 yX12_allOf yX12_allOf ∈ gT := gT_sel (y := yX12_allOf) 75 57 (by decide +kernel)
abbrev miX12_winsOf : MI := (RX12, cX12_winsOf, 13, some (.int), false)
set_option maxRecDepth 20000 in
theorem msX12_winsOf : MS yX12_winsOf miX12_winsOf 6 := ⟨⟨by decide +kernel, by decide +kernel, by decide +kernel⟩, gT_6 225 rfl rfl, gT_1 17 rfl rfl, by decide⟩
set_option maxRecDepth 20000 in
theorem liX12_winsOf : Cond.instanceMethod yX12_winsOf ∈ gT := gT_6 224 rfl rfl
set_option maxRecDepth 20000 in
theorem lvX12_X12_winsOf : Cond.selects RX12 yX12_winsOf yX12_winsOf ∈ gT := gT_sel (y := yX12_winsOf) 74 57 (by decide +kernel)
abbrev miX12_winsAt : MI := (RX12, cX12_winsAt, 4, some (.int), false)
set_option maxRecDepth 20000 in
theorem msX12_winsAt : MS yX12_winsAt miX12_winsAt 3 := ⟨⟨by decide +kernel, by decide +kernel, by decide +kernel⟩, gT_6 221 rfl rfl, gT_1 17 rfl rfl, by decide⟩
set_option maxRecDepth 20000 in
theorem liX12_winsAt : Cond.instanceMethod yX12_winsAt ∈ gT := gT_6 220 rfl rfl
set_option maxRecDepth 20000 in
theorem lvX12_X12_winsAt : Cond.selects RX12 yX12_winsAt yX12_winsAt ∈ gT := gT_sel (y := yX12_winsAt) 73 57 (by decide +kernel)
abbrev miX12_common : MI := (RX12, cX12_common, 10, some (.long), false)
set_option maxRecDepth 20000 in
theorem msX12_common : MS yX12_common miX12_common 2 := ⟨⟨by decide +kernel, by decide +kernel, by decide +kernel⟩, gT_6 235 rfl rfl, gT_1 17 rfl rfl, by decide⟩
set_option maxRecDepth 20000 in
theorem lsX12_common : Cond.static yX12_common ∈ gT := gT_6 234 rfl rfl
abbrev miX12_lowest : MI := (RX12, cX12_lowest, 5, some (.long), false)
set_option maxRecDepth 20000 in
theorem msX12_lowest : MS yX12_lowest miX12_lowest 3 := ⟨⟨by decide +kernel, by decide +kernel, by decide +kernel⟩, gT_6 232 rfl rfl, gT_1 17 rfl rfl, by decide⟩
set_option maxRecDepth 20000 in
theorem lsX12_lowest : Cond.static yX12_lowest ∈ gT := gT_6 231 rfl rfl
abbrev miX12_isPart : MI := (RX12, cX12_isPart, 1, some (.boolean), false)
set_option maxRecDepth 20000 in
theorem msX12_isPart : MS yX12_isPart miX12_isPart 1 := ⟨⟨by decide +kernel, by decide +kernel, by decide +kernel⟩, gT_6 217 rfl rfl, gT_1 17 rfl rfl, by decide⟩
set_option maxRecDepth 20000 in
theorem lsX12_isPart : Cond.static yX12_isPart ∈ gT := gT_6 216 rfl rfl
abbrev miX12_odds : MI := (RX12, cX12_odds, 5, some (.long), false)
set_option maxRecDepth 20000 in
theorem msX12_odds : MS yX12_odds miX12_odds 4 := ⟨⟨by decide +kernel, by decide +kernel, by decide +kernel⟩, gT_6 210 rfl rfl, gT_1 17 rfl rfl, by decide⟩
set_option maxRecDepth 20000 in
theorem liX12_odds : Cond.instanceMethod yX12_odds ∈ gT := gT_6 208 rfl rfl
abbrev miX12_bestOf : MI := (RX12, cX12_bestOf, 10, some (.int), false)
set_option maxRecDepth 20000 in
theorem msX12_bestOf : MS yX12_bestOf miX12_bestOf 5 := ⟨⟨by decide +kernel, by decide +kernel, by decide +kernel⟩, gT_7 9 rfl rfl, gT_1 17 rfl rfl, by decide⟩
set_option maxRecDepth 20000 in
theorem liX12_bestOf : Cond.instanceMethod yX12_bestOf ∈ gT := gT_7 8 rfl rfl
set_option maxRecDepth 20000 in
theorem lvX12_X12_bestOf : Cond.selects RX12 yX12_bestOf yX12_bestOf ∈ gT := gT_sel (y := yX12_bestOf) 77 57 (by decide +kernel)
abbrev miX12_bestAt : MI := (RX12, cX12_bestAt, 3, some (.int), false)
set_option maxRecDepth 20000 in
theorem msX12_bestAt : MS yX12_bestAt miX12_bestAt 2 := ⟨⟨by decide +kernel, by decide +kernel, by decide +kernel⟩, gT_7 5 rfl rfl, gT_1 17 rfl rfl, by decide⟩
set_option maxRecDepth 20000 in
theorem liX12_bestAt : Cond.instanceMethod yX12_bestAt ∈ gT := gT_7 4 rfl rfl
set_option maxRecDepth 20000 in
theorem lvX12_X12_bestAt : Cond.selects RX12 yX12_bestAt yX12_bestAt ∈ gT := gT_sel (y := yX12_bestAt) 76 57 (by decide +kernel)
abbrev miX12_best : MI := (RX12, cX12_best, 5, some (.long), false)
set_option maxRecDepth 20000 in
theorem msX12_best : MS yX12_best miX12_best 3 := ⟨⟨by decide +kernel, by decide +kernel, by decide +kernel⟩, gT_7 0 rfl rfl, gT_1 17 rfl rfl, by decide⟩
set_option maxRecDepth 20000 in
theorem liX12_best : Cond.instanceMethod yX12_best ∈ gT := gT_6 238 rfl rfl
abbrev miX12_lotOf : MI := (RX12, cX12_lotOf, 2, some (.long), false)
set_option maxRecDepth 20000 in
theorem msX12_lotOf : MS yX12_lotOf miX12_lotOf 1 := ⟨⟨by decide +kernel, by decide +kernel, by decide +kernel⟩, gT_7 17 rfl rfl, gT_1 17 rfl rfl, by decide⟩
set_option maxRecDepth 20000 in
theorem lsX12_lotOf : Cond.static yX12_lotOf ∈ gT := gT_7 16 rfl rfl
abbrev miX12_wonBy : MI := (RX12, cX12_wonBy, 10, some (.int), false)
set_option maxRecDepth 20000 in
theorem msX12_wonBy : MS yX12_wonBy miX12_wonBy 4 := ⟨⟨by decide +kernel, by decide +kernel, by decide +kernel⟩, gT_7 23 rfl rfl, gT_1 17 rfl rfl, by decide⟩
set_option maxRecDepth 20000 in
theorem liX12_wonBy : Cond.instanceMethod yX12_wonBy ∈ gT := gT_7 22 rfl rfl
set_option maxRecDepth 20000 in
theorem lvX12_X12_wonBy : Cond.selects RX12 yX12_wonBy yX12_wonBy ∈ gT := gT_sel (y := yX12_wonBy) 78 57 (by decide +kernel)
abbrev miX12_keeps : MI := (RX12, cX12_keeps, 5, some (.int), false)
set_option maxRecDepth 20000 in
theorem msX12_keeps : MS yX12_keeps miX12_keeps 4 := ⟨⟨by decide +kernel, by decide +kernel, by decide +kernel⟩, gT_7 27 rfl rfl, gT_1 17 rfl rfl, by decide⟩
set_option maxRecDepth 20000 in
theorem liX12_keeps : Cond.instanceMethod yX12_keeps ∈ gT := gT_7 26 rfl rfl
set_option maxRecDepth 20000 in
theorem lvX12_X12_keeps : Cond.selects RX12 yX12_keeps yX12_keeps ∈ gT := gT_sel (y := yX12_keeps) 79 57 (by decide +kernel)
abbrev miX12_tried : MI := (RX12, cX12_tried, 5, some (.int), false)
set_option maxRecDepth 20000 in
theorem msX12_tried : MS yX12_tried miX12_tried 4 := ⟨⟨by decide +kernel, by decide +kernel, by decide +kernel⟩, gT_7 13 rfl rfl, gT_1 17 rfl rfl, by decide⟩
set_option maxRecDepth 20000 in
theorem liX12_tried : Cond.instanceMethod yX12_tried ∈ gT := gT_7 11 rfl rfl
abbrev miX12_shown : MI := (RX12, cX12_shown, 5, some (.int), false)
set_option maxRecDepth 20000 in
theorem msX12_shown : MS yX12_shown miX12_shown 4 := ⟨⟨by decide +kernel, by decide +kernel, by decide +kernel⟩, gT_7 31 rfl rfl, gT_1 17 rfl rfl, by decide⟩
set_option maxRecDepth 20000 in
theorem liX12_shown : Cond.instanceMethod yX12_shown ∈ gT := gT_7 29 rfl rfl
abbrev miX12_tryTold : MI := (RX12, cX12_tryTold, 3, some (.int), false)
set_option maxRecDepth 20000 in
theorem msX12_tryTold : MS yX12_tryTold miX12_tryTold 2 := ⟨⟨by decide +kernel, by decide +kernel, by decide +kernel⟩, gT_7 35 rfl rfl, gT_1 17 rfl rfl, by decide⟩
set_option maxRecDepth 20000 in
theorem liX12_tryTold : Cond.instanceMethod yX12_tryTold ∈ gT := gT_7 33 rfl rfl
abbrev miX12_setAll : MI := (RX12, cX12_setAll, 9, some (.long), false)
set_option maxRecDepth 20000 in
theorem msX12_setAll : MS yX12_setAll miX12_setAll 3 := ⟨⟨by decide +kernel, by decide +kernel, by decide +kernel⟩, gT_7 39 rfl rfl, gT_1 17 rfl rfl, by decide⟩
set_option maxRecDepth 20000 in
theorem liX12_setAll : Cond.instanceMethod yX12_setAll ∈ gT := gT_7 37 rfl rfl
abbrev miX12_worth : MI := (RX12, cX12_worth, 8, some (.long), false)
set_option maxRecDepth 20000 in
theorem msX12_worth : MS yX12_worth miX12_worth 5 := ⟨⟨by decide +kernel, by decide +kernel, by decide +kernel⟩, gT_7 44 rfl rfl, gT_1 17 rfl rfl, by decide⟩
set_option maxRecDepth 20000 in
theorem liX12_worth : Cond.instanceMethod yX12_worth ∈ gT := gT_7 42 rfl rfl
abbrev miX12_leaves : MI := (RX12, cX12_leaves, 6, some (.long), false)
set_option maxRecDepth 20000 in
theorem msX12_leaves : MS yX12_leaves miX12_leaves 2 := ⟨⟨by decide +kernel, by decide +kernel, by decide +kernel⟩, gT_7 48 rfl rfl, gT_1 17 rfl rfl, by decide⟩
set_option maxRecDepth 20000 in
theorem liX12_leaves : Cond.instanceMethod yX12_leaves ∈ gT := gT_7 46 rfl rfl
abbrev miX12_feed : MI := (RX12, cX12_feed, 5, some (.int), false)
set_option maxRecDepth 20000 in
theorem msX12_feed : MS yX12_feed miX12_feed 2 := ⟨⟨by decide +kernel, by decide +kernel, by decide +kernel⟩, gT_7 52 rfl rfl, gT_1 17 rfl rfl, by decide⟩
set_option maxRecDepth 20000 in
theorem liX12_feed : Cond.instanceMethod yX12_feed ∈ gT := gT_7 50 rfl rfl
abbrev miX12_byteAt : MI := (RX12, cX12_byteAt, 2, some (.int), false)
set_option maxRecDepth 20000 in
theorem msX12_byteAt : MS yX12_byteAt miX12_byteAt 1 := ⟨⟨by decide +kernel, by decide +kernel, by decide +kernel⟩, gT_6 116 rfl rfl, gT_1 17 rfl rfl, by decide⟩
set_option maxRecDepth 20000 in
theorem liX12_byteAt : Cond.instanceMethod yX12_byteAt ∈ gT := gT_6 115 rfl rfl
set_option maxRecDepth 20000 in
theorem lvX12_X12_byteAt : Cond.selects RX12 yX12_byteAt yX12_byteAt ∈ gT := gT_sel (y := yX12_byteAt) 59 57 (by decide +kernel)
abbrev miX12_next : MI := (RX12, cX12_next, 3, none, false)
set_option maxRecDepth 20000 in
theorem msX12_next : MS yX12_next miX12_next 0 := ⟨⟨by decide +kernel, by decide +kernel, by decide +kernel⟩, gT_6 112 rfl rfl, gT_1 17 rfl rfl, by decide⟩
set_option maxRecDepth 20000 in
theorem liX12_next : Cond.instanceMethod yX12_next ∈ gT := gT_6 111 rfl rfl
set_option maxRecDepth 20000 in
theorem lvX12_X12_next : Cond.selects RX12 yX12_next yX12_next ∈ gT := gT_sel (y := yX12_next) 58 57 (by decide +kernel)
abbrev miX12_fail : MI := (RX12, cX12_fail, 1, none, false)
set_option maxRecDepth 20000 in
theorem msX12_fail : MS yX12_fail miX12_fail 0 := ⟨⟨by decide +kernel, by decide +kernel, by decide +kernel⟩, gT_6 137 rfl rfl, gT_1 17 rfl rfl, by decide⟩
set_option maxRecDepth 20000 in
theorem liX12_fail : Cond.instanceMethod yX12_fail ∈ gT := gT_6 136 rfl rfl
set_option maxRecDepth 20000 in
theorem lvX12_X12_fail : Cond.selects RX12 yX12_fail yX12_fail ∈ gT := gT_sel (y := yX12_fail) 62 57 (by decide +kernel)
abbrev miX12_isWord : MI := (RX12, cX12_isWord, 3, some (.boolean), false)
set_option maxRecDepth 20000 in
theorem msX12_isWord : MS yX12_isWord miX12_isWord 1 := ⟨⟨by decide +kernel, by decide +kernel, by decide +kernel⟩, gT_6 133 rfl rfl, gT_1 17 rfl rfl, by decide⟩
set_option maxRecDepth 20000 in
theorem liX12_isWord : Cond.instanceMethod yX12_isWord ∈ gT := gT_6 132 rfl rfl
set_option maxRecDepth 20000 in
theorem lvX12_X12_isWord : Cond.selects RX12 yX12_isWord yX12_isWord ∈ gT := gT_sel (y := yX12_isWord) 61 57 (by decide +kernel)
abbrev miX12_isSign : MI := (RX12, cX12_isSign, 2, some (.boolean), false)
set_option maxRecDepth 20000 in
theorem msX12_isSign : MS yX12_isSign miX12_isSign 1 := ⟨⟨by decide +kernel, by decide +kernel, by decide +kernel⟩, gT_6 170 rfl rfl, gT_1 17 rfl rfl, by decide⟩
set_option maxRecDepth 20000 in
theorem liX12_isSign : Cond.instanceMethod yX12_isSign ∈ gT := gT_6 169 rfl rfl
set_option maxRecDepth 20000 in
theorem lvX12_X12_isSign : Cond.selects RX12 yX12_isSign yX12_isSign ∈ gT := gT_sel (y := yX12_isSign) 70 57 (by decide +kernel)
abbrev miX12_opens : MI := (RX12, cX12_opens, 1, some (.boolean), false)
set_option maxRecDepth 20000 in
theorem msX12_opens : MS yX12_opens miX12_opens 0 := ⟨⟨by decide +kernel, by decide +kernel, by decide +kernel⟩, gT_6 154 rfl rfl, gT_1 17 rfl rfl, by decide⟩
set_option maxRecDepth 20000 in
theorem liX12_opens : Cond.instanceMethod yX12_opens ∈ gT := gT_6 153 rfl rfl
set_option maxRecDepth 20000 in
theorem lvX12_X12_opens : Cond.selects RX12 yX12_opens yX12_opens ∈ gT := gT_sel (y := yX12_opens) 66 57 (by decide +kernel)
abbrev miX12_name : MI := (RX12, cX12_name, 1, some (.int), false)
set_option maxRecDepth 20000 in
theorem msX12_name : MS yX12_name miX12_name 0 := ⟨⟨by decide +kernel, by decide +kernel, by decide +kernel⟩, gT_6 174 rfl rfl, gT_1 17 rfl rfl, by decide⟩
set_option maxRecDepth 20000 in
theorem liX12_name : Cond.instanceMethod yX12_name ∈ gT := gT_6 173 rfl rfl
set_option maxRecDepth 20000 in
theorem lvX12_X12_name : Cond.selects RX12 yX12_name yX12_name ∈ gT := gT_sel (y := yX12_name) 71 57 (by decide +kernel)
abbrev miX12_one : MI := (RX12, cX12_one, 2, some (.int), false)
set_option maxRecDepth 20000 in
theorem msX12_one : MS yX12_one miX12_one 0 := ⟨⟨by decide +kernel, by decide +kernel, by decide +kernel⟩, gT_6 166 rfl rfl, gT_1 17 rfl rfl, by decide⟩
set_option maxRecDepth 20000 in
theorem liX12_one : Cond.instanceMethod yX12_one ∈ gT := gT_6 165 rfl rfl
set_option maxRecDepth 20000 in
theorem lvX12_X12_one : Cond.selects RX12 yX12_one yX12_one ∈ gT := gT_sel (y := yX12_one) 69 57 (by decide +kernel)
abbrev miX12_term : MI := (RX12, cX12_term, 2, some (.int), false)
set_option maxRecDepth 20000 in
theorem msX12_term : MS yX12_term miX12_term 0 := ⟨⟨by decide +kernel, by decide +kernel, by decide +kernel⟩, gT_6 162 rfl rfl, gT_1 17 rfl rfl, by decide⟩
set_option maxRecDepth 20000 in
theorem liX12_term : Cond.instanceMethod yX12_term ∈ gT := gT_6 161 rfl rfl
set_option maxRecDepth 20000 in
theorem lvX12_X12_term : Cond.selects RX12 yX12_term yX12_term ∈ gT := gT_sel (y := yX12_term) 68 57 (by decide +kernel)
abbrev miX12_added : MI := (RX12, cX12_added, 4, some (.int), false)
set_option maxRecDepth 20000 in
theorem msX12_added : MS yX12_added miX12_added 0 := ⟨⟨by decide +kernel, by decide +kernel, by decide +kernel⟩, gT_6 158 rfl rfl, gT_1 17 rfl rfl, by decide⟩
set_option maxRecDepth 20000 in
theorem liX12_added : Cond.instanceMethod yX12_added ∈ gT := gT_6 157 rfl rfl
set_option maxRecDepth 20000 in
theorem lvX12_X12_added : Cond.selects RX12 yX12_added yX12_added ∈ gT := gT_sel (y := yX12_added) 67 57 (by decide +kernel)
abbrev miX12_not : MI := (RX12, cX12_not, 4, some (.int), false)
set_option maxRecDepth 20000 in
theorem msX12_not : MS yX12_not miX12_not 0 := ⟨⟨by decide +kernel, by decide +kernel, by decide +kernel⟩, gT_6 149 rfl rfl, gT_1 17 rfl rfl, by decide⟩
set_option maxRecDepth 20000 in
theorem liX12_not : Cond.instanceMethod yX12_not ∈ gT := gT_6 148 rfl rfl
set_option maxRecDepth 20000 in
theorem lvX12_X12_not : Cond.selects RX12 yX12_not yX12_not ∈ gT := gT_sel (y := yX12_not) 65 57 (by decide +kernel)
abbrev miX12_both : MI := (RX12, cX12_both, 3, some (.int), false)
set_option maxRecDepth 20000 in
theorem msX12_both : MS yX12_both miX12_both 0 := ⟨⟨by decide +kernel, by decide +kernel, by decide +kernel⟩, gT_6 145 rfl rfl, gT_1 17 rfl rfl, by decide⟩
set_option maxRecDepth 20000 in
theorem liX12_both : Cond.instanceMethod yX12_both ∈ gT := gT_6 144 rfl rfl
set_option maxRecDepth 20000 in
theorem lvX12_X12_both : Cond.selects RX12 yX12_both yX12_both ∈ gT := gT_sel (y := yX12_both) 64 57 (by decide +kernel)
abbrev miX12_either : MI := (RX12, cX12_either, 3, some (.int), false)
set_option maxRecDepth 20000 in
theorem msX12_either : MS yX12_either miX12_either 0 := ⟨⟨by decide +kernel, by decide +kernel, by decide +kernel⟩, gT_6 141 rfl rfl, gT_1 17 rfl rfl, by decide⟩
set_option maxRecDepth 20000 in
theorem liX12_either : Cond.instanceMethod yX12_either ∈ gT := gT_6 140 rfl rfl
set_option maxRecDepth 20000 in
theorem lvX12_X12_either : Cond.selects RX12 yX12_either yX12_either ∈ gT := gT_sel (y := yX12_either) 63 57 (by decide +kernel)
abbrev miX12_part : MI := (RX12, cX12_part, 4, some (.int), false)
set_option maxRecDepth 20000 in
theorem msX12_part : MS yX12_part miX12_part 1 := ⟨⟨by decide +kernel, by decide +kernel, by decide +kernel⟩, gT_6 129 rfl rfl, gT_1 17 rfl rfl, by decide⟩
set_option maxRecDepth 20000 in
theorem liX12_part : Cond.instanceMethod yX12_part ∈ gT := gT_6 128 rfl rfl
set_option maxRecDepth 20000 in
theorem lvX12_X12_part : Cond.selects RX12 yX12_part yX12_part ∈ gT := gT_sel (y := yX12_part) 60 57 (by decide +kernel)
abbrev miX12_read : MI := (RX12, cX12_read, 10, some (.int), false)
set_option maxRecDepth 20000 in
theorem msX12_read : MS yX12_read miX12_read 6 := ⟨⟨by decide +kernel, by decide +kernel, by decide +kernel⟩, gT_6 108 rfl rfl, gT_1 17 rfl rfl, by decide⟩
set_option maxRecDepth 20000 in
theorem liX12_read : Cond.instanceMethod yX12_read ∈ gT := gT_6 107 rfl rfl
set_option maxRecDepth 20000 in
theorem lvX12_X12_read : Cond.selects RX12 yX12_read yX12_read ∈ gT := gT_sel (y := yX12_read) 57 57 (by decide +kernel)
abbrev miX12_text : MI := (RX12, cX12_text, 2, some (.int), false)
set_option maxRecDepth 20000 in
theorem msX12_text : MS yX12_text miX12_text 0 := ⟨⟨by decide +kernel, by decide +kernel, by decide +kernel⟩, gT_7 56 rfl rfl, gT_1 17 rfl rfl, by decide⟩
set_option maxRecDepth 20000 in
theorem liX12_text : Cond.instanceMethod yX12_text ∈ gT := gT_7 54 rfl rfl
abbrev miX12_force : MI := (RX12, cX12_force, 3, some (.int), false)
set_option maxRecDepth 20000 in
theorem msX12_force : MS yX12_force miX12_force 1 := ⟨⟨by decide +kernel, by decide +kernel, by decide +kernel⟩, gT_7 60 rfl rfl, gT_1 17 rfl rfl, by decide⟩
set_option maxRecDepth 20000 in
theorem liX12_force : Cond.instanceMethod yX12_force ∈ gT := gT_7 58 rfl rfl
abbrev miX12_thousandths : MI := (RX12, cX12_thousandths, 4, some (.int), false)
set_option maxRecDepth 20000 in
theorem msX12_thousandths : MS yX12_thousandths miX12_thousandths 3 := ⟨⟨by decide +kernel, by decide +kernel, by decide +kernel⟩, gT_7 69 rfl rfl, gT_1 17 rfl rfl, by decide⟩
set_option maxRecDepth 20000 in
theorem liX12_thousandths : Cond.instanceMethod yX12_thousandths ∈ gT := gT_7 68 rfl rfl
set_option maxRecDepth 20000 in
theorem lvX12_X12_thousandths : Cond.selects RX12 yX12_thousandths yX12_thousandths ∈ gT := gT_sel (y := yX12_thousandths) 80 57 (by decide +kernel)
abbrev miX12_says : MI := (RX12, cX12_says, 6, some (.long), false)
set_option maxRecDepth 20000 in
theorem msX12_says : MS yX12_says miX12_says 5 := ⟨⟨by decide +kernel, by decide +kernel, by decide +kernel⟩, gT_7 64 rfl rfl, gT_1 17 rfl rfl, by decide⟩
set_option maxRecDepth 20000 in
theorem liX12_says : Cond.instanceMethod yX12_says ∈ gT := gT_7 62 rfl rfl
abbrev miX12_plays : MI := (RX12, cX12_plays, 11, none, false)
set_option maxRecDepth 20000 in
theorem msX12_plays : MS yX12_plays miX12_plays 6 := ⟨⟨by decide +kernel, by decide +kernel, by decide +kernel⟩, gT_7 81 rfl rfl, gT_1 17 rfl rfl, by decide⟩
set_option maxRecDepth 20000 in
theorem liX12_plays : Cond.instanceMethod yX12_plays ∈ gT := gT_7 80 rfl rfl
set_option maxRecDepth 20000 in
theorem lvX12_X12_plays : Cond.selects RX12 yX12_plays yX12_plays ∈ gT := gT_sel (y := yX12_plays) 82 57 (by decide +kernel)
abbrev miX12_isPlayer : MI := (RX12, cX12_isPlayer, 5, some (.boolean), false)
set_option maxRecDepth 20000 in
theorem msX12_isPlayer : MS yX12_isPlayer miX12_isPlayer 4 := ⟨⟨by decide +kernel, by decide +kernel, by decide +kernel⟩, gT_7 77 rfl rfl, gT_1 17 rfl rfl, by decide⟩
set_option maxRecDepth 20000 in
theorem liX12_isPlayer : Cond.instanceMethod yX12_isPlayer ∈ gT := gT_7 76 rfl rfl
set_option maxRecDepth 20000 in
theorem lvX12_X12_isPlayer : Cond.selects RX12 yX12_isPlayer yX12_isPlayer ∈ gT := gT_sel (y := yX12_isPlayer) 81 57 (by decide +kernel)
abbrev miX12_player : MI := (RX12, cX12_player, 6, some (.long), false)
set_option maxRecDepth 20000 in
theorem msX12_player : MS yX12_player miX12_player 5 := ⟨⟨by decide +kernel, by decide +kernel, by decide +kernel⟩, gT_7 73 rfl rfl, gT_1 17 rfl rfl, by decide⟩
set_option maxRecDepth 20000 in
theorem liX12_player : Cond.instanceMethod yX12_player ∈ gT := gT_7 71 rfl rfl
abbrev miX12_bitsOf : MI := (RX12, cX12_bitsOf, 3, some (.int), false)
set_option maxRecDepth 20000 in
theorem msX12_bitsOf : MS yX12_bitsOf miX12_bitsOf 1 := ⟨⟨by decide +kernel, by decide +kernel, by decide +kernel⟩, gT_7 89 rfl rfl, gT_1 17 rfl rfl, by decide⟩
set_option maxRecDepth 20000 in
theorem lsX12_bitsOf : Cond.static yX12_bitsOf ∈ gT := gT_7 88 rfl rfl
abbrev miX12_most : MI := (RX12, cX12_most, 9, some (.int), false)
set_option maxRecDepth 20000 in
theorem msX12_most : MS yX12_most miX12_most 5 := ⟨⟨by decide +kernel, by decide +kernel, by decide +kernel⟩, gT_7 85 rfl rfl, gT_1 17 rfl rfl, by decide⟩
set_option maxRecDepth 20000 in
theorem liX12_most : Cond.instanceMethod yX12_most ∈ gT := gT_7 83 rfl rfl
abbrev miX12_test : MI := (RX12, cX12_test, 5, some (.int), false)
set_option maxRecDepth 20000 in
theorem msX12_test : MS yX12_test miX12_test 2 := ⟨⟨by decide +kernel, by decide +kernel, by decide +kernel⟩, gT_7 93 rfl rfl, gT_1 17 rfl rfl, by decide⟩
