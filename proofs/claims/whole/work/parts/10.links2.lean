set_option maxRecDepth 20000 in
theorem liX12_test : Cond.instanceMethod yX12_test ∈ gT := gT_7 91 rfl rfl
abbrev miX12_isParted : MI := (RX12, cX12_isParted, 6, some (.boolean), false)
set_option maxRecDepth 20000 in
theorem msX12_isParted : MS yX12_isParted miX12_isParted 3 := ⟨⟨by decide +kernel, by decide +kernel, by decide +kernel⟩, gT_7 107 rfl rfl, gT_1 17 rfl rfl, by decide⟩
set_option maxRecDepth 20000 in
theorem liX12_isParted : Cond.instanceMethod yX12_isParted ∈ gT := gT_7 106 rfl rfl
set_option maxRecDepth 20000 in
theorem lvX12_X12_isParted : Cond.selects RX12 yX12_isParted yX12_isParted ∈ gT := gT_sel (y := yX12_isParted) 84 57 (by decide +kernel)
abbrev miX12_parts : MI := (RX12, cX12_parts, 5, some (.boolean), false)
set_option maxRecDepth 20000 in
theorem msX12_parts : MS yX12_parts miX12_parts 2 := ⟨⟨by decide +kernel, by decide +kernel, by decide +kernel⟩, gT_7 103 rfl rfl, gT_1 17 rfl rfl, by decide⟩
set_option maxRecDepth 20000 in
theorem liX12_parts : Cond.instanceMethod yX12_parts ∈ gT := gT_7 102 rfl rfl
set_option maxRecDepth 20000 in
theorem lvX12_X12_parts : Cond.selects RX12 yX12_parts yX12_parts ∈ gT := gT_sel (y := yX12_parts) 83 57 (by decide +kernel)
abbrev miX12_find : MI := (RX12, cX12_find, 8, some (.int), false)
set_option maxRecDepth 20000 in
theorem msX12_find : MS yX12_find miX12_find 2 := ⟨⟨by decide +kernel, by decide +kernel, by decide +kernel⟩, gT_7 99 rfl rfl, gT_1 17 rfl rfl, by decide⟩
set_option maxRecDepth 20000 in
theorem liX12_find : Cond.instanceMethod yX12_find ∈ gT := gT_7 97 rfl rfl
abbrev miX12_year : MI := (RX12, cX12_year, 10, some (.int), false)
set_option maxRecDepth 20000 in
theorem msX12_year : MS yX12_year miX12_year 2 := ⟨⟨by decide +kernel, by decide +kernel, by decide +kernel⟩, gT_7 111 rfl rfl, gT_1 17 rfl rfl, by decide⟩
set_option maxRecDepth 20000 in
theorem liX12_year : Cond.instanceMethod yX12_year ∈ gT := gT_7 109 rfl rfl
abbrev miX12_make : MI := (RX12, cX12_make, 13, some (.int), false)
set_option maxRecDepth 20000 in
theorem msX12_make : MS yX12_make miX12_make 5 := ⟨⟨by decide +kernel, by decide +kernel, by decide +kernel⟩, gT_7 116 rfl rfl, gT_1 17 rfl rfl, by decide⟩
set_option maxRecDepth 20000 in
theorem liX12_make : Cond.instanceMethod yX12_make ∈ gT := gT_7 114 rfl rfl
abbrev miX12_fails : MI := (RX12, cX12_fails, 4, some (.int), false)
set_option maxRecDepth 20000 in
theorem msX12_fails : MS yX12_fails miX12_fails 3 := ⟨⟨by decide +kernel, by decide +kernel, by decide +kernel⟩, gT_7 132 rfl rfl, gT_1 17 rfl rfl, by decide⟩
set_option maxRecDepth 20000 in
theorem liX12_fails : Cond.instanceMethod yX12_fails ∈ gT := gT_7 131 rfl rfl
set_option maxRecDepth 20000 in
theorem lvX12_X12_fails : Cond.selects RX12 yX12_fails yX12_fails ∈ gT := gT_sel (y := yX12_fails) 86 57 (by decide +kernel)
abbrev miX12_goes : MI := (RX12, cX12_goes, 8, some (.int), false)
set_option maxRecDepth 20000 in
theorem msX12_goes : MS yX12_goes miX12_goes 3 := ⟨⟨by decide +kernel, by decide +kernel, by decide +kernel⟩, gT_7 128 rfl rfl, gT_1 17 rfl rfl, by decide⟩
set_option maxRecDepth 20000 in
theorem liX12_goes : Cond.instanceMethod yX12_goes ∈ gT := gT_7 127 rfl rfl
set_option maxRecDepth 20000 in
theorem lvX12_X12_goes : Cond.selects RX12 yX12_goes yX12_goes ∈ gT := gT_sel (y := yX12_goes) 85 57 (by decide +kernel)
abbrev miX12_walk : MI := (RX12, cX12_walk, 7, some (.int), false)
set_option maxRecDepth 20000 in
theorem msX12_walk : MS yX12_walk miX12_walk 3 := ⟨⟨by decide +kernel, by decide +kernel, by decide +kernel⟩, gT_7 122 rfl rfl, gT_1 17 rfl rfl, by decide⟩
set_option maxRecDepth 20000 in
theorem liX12_walk : Cond.instanceMethod yX12_walk ∈ gT := gT_7 120 rfl rfl
abbrev miX12_image : MI := (RX12, cX12_image, 2, some (.int), false)
set_option maxRecDepth 20000 in
theorem msX12_image : MS yX12_image miX12_image 0 := ⟨⟨by decide +kernel, by decide +kernel, by decide +kernel⟩, gT_7 136 rfl rfl, gT_1 17 rfl rfl, by decide⟩
set_option maxRecDepth 20000 in
theorem liX12_image : Cond.instanceMethod yX12_image ∈ gT := gT_7 134 rfl rfl
abbrev miX12_back : MI := (RX12, cX12_back, 2, some (.int), false)
set_option maxRecDepth 20000 in
theorem msX12_back : MS yX12_back miX12_back 0 := ⟨⟨by decide +kernel, by decide +kernel, by decide +kernel⟩, gT_7 140 rfl rfl, gT_1 17 rfl rfl, by decide⟩
set_option maxRecDepth 20000 in
theorem liX12_back : Cond.instanceMethod yX12_back ∈ gT := gT_7 138 rfl rfl
abbrev miX12_count : MI := (RX12, cX12_count, 4, some (.int), false)
set_option maxRecDepth 20000 in
theorem msX12_count : MS yX12_count miX12_count 1 := ⟨⟨by decide +kernel, by decide +kernel, by decide +kernel⟩, gT_7 144 rfl rfl, gT_1 17 rfl rfl, by decide⟩
set_option maxRecDepth 20000 in
theorem liX12_count : Cond.instanceMethod yX12_count ∈ gT := gT_7 142 rfl rfl
abbrev miX12_isSheet : MI := (RX12, cX12_isSheet, 1, some (.boolean), false)
set_option maxRecDepth 20000 in
theorem msX12_isSheet : MS yX12_isSheet miX12_isSheet 1 := ⟨⟨by decide +kernel, by decide +kernel, by decide +kernel⟩, gT_7 151 rfl rfl, gT_1 17 rfl rfl, by decide⟩
set_option maxRecDepth 20000 in
theorem lsX12_isSheet : Cond.static yX12_isSheet ∈ gT := gT_7 150 rfl rfl
abbrev miX12_sheet : MI := (RX12, cX12_sheet, 5, some (.int), false)
set_option maxRecDepth 20000 in
theorem msX12_sheet : MS yX12_sheet miX12_sheet 3 := ⟨⟨by decide +kernel, by decide +kernel, by decide +kernel⟩, gT_7 148 rfl rfl, gT_1 17 rfl rfl, by decide⟩
set_option maxRecDepth 20000 in
theorem liX12_sheet : Cond.instanceMethod yX12_sheet ∈ gT := gT_7 146 rfl rfl
abbrev miX12_cell : MI := (RX12, cX12_cell, 4, some (.int), false)
set_option maxRecDepth 20000 in
theorem msX12_cell : MS yX12_cell miX12_cell 3 := ⟨⟨by decide +kernel, by decide +kernel, by decide +kernel⟩, gT_7 155 rfl rfl, gT_1 17 rfl rfl, by decide⟩
set_option maxRecDepth 20000 in
theorem liX12_cell : Cond.instanceMethod yX12_cell ∈ gT := gT_7 153 rfl rfl
abbrev miX12_copy : MI := (RX12, cX12_copy, 9, some (.int), false)
set_option maxRecDepth 20000 in
theorem msX12_copy : MS yX12_copy miX12_copy 5 := ⟨⟨by decide +kernel, by decide +kernel, by decide +kernel⟩, gT_7 159 rfl rfl, gT_1 17 rfl rfl, by decide⟩
set_option maxRecDepth 20000 in
theorem liX12_copy : Cond.instanceMethod yX12_copy ∈ gT := gT_7 157 rfl rfl
abbrev miX12_tries : MI := (RX12, cX12_tries, 8, some (.int), false)
set_option maxRecDepth 20000 in
theorem msX12_tries : MS yX12_tries miX12_tries 4 := ⟨⟨by decide +kernel, by decide +kernel, by decide +kernel⟩, gT_7 163 rfl rfl, gT_1 17 rfl rfl, by decide⟩
set_option maxRecDepth 20000 in
theorem liX12_tries : Cond.instanceMethod yX12_tries ∈ gT := gT_7 161 rfl rfl
abbrev miX12_over : MI := (RX12, cX12_over, 1, some (.int), false)
set_option maxRecDepth 20000 in
theorem msX12_over : MS yX12_over miX12_over 1 := ⟨⟨by decide +kernel, by decide +kernel, by decide +kernel⟩, gT_7 171 rfl rfl, gT_1 17 rfl rfl, by decide⟩
set_option maxRecDepth 20000 in
theorem lsX12_over : Cond.static yX12_over ∈ gT := gT_7 170 rfl rfl
abbrev miX12_taken : MI := (RX12, cX12_taken, 4, some (.int), false)
set_option maxRecDepth 20000 in
theorem msX12_taken : MS yX12_taken miX12_taken 2 := ⟨⟨by decide +kernel, by decide +kernel, by decide +kernel⟩, gT_7 168 rfl rfl, gT_1 17 rfl rfl, by decide⟩
set_option maxRecDepth 20000 in
theorem liX12_taken : Cond.instanceMethod yX12_taken ∈ gT := gT_7 166 rfl rfl
abbrev miJ6_bitCount_0f7a4 : MI := (RJ6, cJ6_bitCount_0f7a4, 1, some (.int), false)
set_option maxRecDepth 20000 in
theorem msJ6_bitCount_0f7a4 : MS yJ6_bitCount_0f7a4 miJ6_bitCount_0f7a4 1 := ⟨⟨by decide +kernel, by decide +kernel, by decide +kernel⟩, gT_4 226 rfl rfl, gT_1 26 rfl rfl, by decide⟩
set_option maxRecDepth 20000 in
theorem lsJ6_bitCount_0f7a4 : Cond.static yJ6_bitCount_0f7a4 ∈ gT := gT_4 225 rfl rfl
abbrev miJ9_abs_067f4 : MI := (RJ9, cJ9_abs_067f4, 2, some (.long), false)
set_option maxRecDepth 20000 in
theorem msJ9_abs_067f4 : MS yJ9_abs_067f4 miJ9_abs_067f4 1 := ⟨⟨by decide +kernel, by decide +kernel, by decide +kernel⟩, gT_4 94 rfl rfl, gT_1 14 rfl rfl, by decide⟩
set_option maxRecDepth 20000 in
theorem lsJ9_abs_067f4 : Cond.static yJ9_abs_067f4 ∈ gT := gT_4 93 rfl rfl
abbrev miJ9_max_7cf53 : MI := (RJ9, cJ9_max_7cf53, 2, some (.int), false)
set_option maxRecDepth 20000 in
theorem msJ9_max_7cf53 : MS yJ9_max_7cf53 miJ9_max_7cf53 2 := ⟨⟨by decide +kernel, by decide +kernel, by decide +kernel⟩, gT_2 129 rfl rfl, gT_1 14 rfl rfl, by decide⟩
set_option maxRecDepth 20000 in
theorem lsJ9_max_7cf53 : Cond.static yJ9_max_7cf53 ∈ gT := gT_2 128 rfl rfl
abbrev miJ9_min_7cf53 : MI := (RJ9, cJ9_min_7cf53, 2, some (.int), false)
set_option maxRecDepth 20000 in
theorem msJ9_min_7cf53 : MS yJ9_min_7cf53 miJ9_min_7cf53 2 := ⟨⟨by decide +kernel, by decide +kernel, by decide +kernel⟩, gT_2 85 rfl rfl, gT_1 14 rfl rfl, by decide⟩
set_option maxRecDepth 20000 in
theorem lsJ9_min_7cf53 : Cond.static yJ9_min_7cf53 ∈ gT := gT_2 84 rfl rfl
abbrev miJ0_length_8abf5 : MI := (RJ0, cJ0_length_8abf5, 1, some (.int), false)
set_option maxRecDepth 20000 in
theorem msJ0_length_8abf5 : MS yJ0_length_8abf5 miJ0_length_8abf5 0 := ⟨⟨by decide +kernel, by decide +kernel, by decide +kernel⟩, gT_1 150 rfl rfl, gT_1 8 rfl rfl, by decide⟩
set_option maxRecDepth 20000 in
theorem liJ0_length_8abf5 : Cond.instanceMethod yJ0_length_8abf5 ∈ gT := gT_1 148 rfl rfl
abbrev miJ0_charAt_5068e : MI := (RJ0, cJ0_charAt_5068e, 2, some (.char), false)
set_option maxRecDepth 20000 in
theorem msJ0_charAt_5068e : MS yJ0_charAt_5068e miJ0_charAt_5068e 1 := ⟨⟨by decide +kernel, by decide +kernel, by decide +kernel⟩, gT_1 160 rfl rfl, gT_1 8 rfl rfl, by decide⟩
set_option maxRecDepth 20000 in
theorem liJ0_charAt_5068e : Cond.instanceMethod yJ0_charAt_5068e ∈ gT := gT_1 158 rfl rfl
abbrev miJ0_coder_7d493 : MI := (RJ0, cJ0_coder_7d493, 1, some (.byte), false)
set_option maxRecDepth 20000 in
theorem msJ0_coder_7d493 : MS yJ0_coder_7d493 miJ0_coder_7d493 0 := ⟨⟨by decide +kernel, by decide +kernel, by decide +kernel⟩, gT_1 154 rfl rfl, gT_1 8 rfl rfl, by decide⟩
set_option maxRecDepth 20000 in
theorem liJ0_coder_7d493 : Cond.instanceMethod yJ0_coder_7d493 ∈ gT := gT_1 152 rfl rfl
abbrev miJ0_isLatin1_aae02 : MI := (RJ0, cJ0_isLatin1_aae02, 1, some (.boolean), false)
set_option maxRecDepth 20000 in
theorem msJ0_isLatin1_aae02 : MS yJ0_isLatin1_aae02 miJ0_isLatin1_aae02 0 := ⟨⟨by decide +kernel, by decide +kernel, by decide +kernel⟩, gT_1 164 rfl rfl, gT_1 8 rfl rfl, by decide⟩
set_option maxRecDepth 20000 in
theorem liJ0_isLatin1_aae02 : Cond.instanceMethod yJ0_isLatin1_aae02 ∈ gT := gT_1 162 rfl rfl
abbrev miJ0_checkIndex_df160 : MI := (RJ0, cJ0_checkIndex_df160, 2, none, false)
set_option maxRecDepth 20000 in
theorem msJ0_checkIndex_df160 : MS yJ0_checkIndex_df160 miJ0_checkIndex_df160 2 := ⟨⟨by decide +kernel, by decide +kernel, by decide +kernel⟩, gT_1 170 rfl rfl, gT_1 8 rfl rfl, by decide⟩
set_option maxRecDepth 20000 in
theorem lsJ0_checkIndex_df160 : Cond.static yJ0_checkIndex_df160 ∈ gT := gT_1 169 rfl rfl
abbrev miJ1_charAt_3b067 : MI := (RJ1, cJ1_charAt_3b067, 2, some (.char), false)
set_option maxRecDepth 20000 in
theorem msJ1_charAt_3b067 : MS yJ1_charAt_3b067 miJ1_charAt_3b067 2 := ⟨⟨by decide +kernel, by decide +kernel, by decide +kernel⟩, gT_1 167 rfl rfl, gT_1 9 rfl rfl, by decide⟩
set_option maxRecDepth 20000 in
theorem lsJ1_charAt_3b067 : Cond.static yJ1_charAt_3b067 ∈ gT := gT_1 166 rfl rfl
abbrev miJ2_getChar_3b067 : MI := (RJ2, cJ2_getChar_3b067, 2, some (.char), false)
set_option maxRecDepth 20000 in
theorem msJ2_getChar_3b067 : MS yJ2_getChar_3b067 miJ2_getChar_3b067 2 := ⟨⟨by decide +kernel, by decide +kernel, by decide +kernel⟩, gT_1 188 rfl rfl, gT_1 11 rfl rfl, by decide⟩
set_option maxRecDepth 20000 in
theorem lsJ2_getChar_3b067 : Cond.static yJ2_getChar_3b067 ∈ gT := gT_1 187 rfl rfl
abbrev miJ2_length_9d52b : MI := (RJ2, cJ2_length_9d52b, 1, some (.int), false)
set_option maxRecDepth 20000 in
theorem msJ2_length_9d52b : MS yJ2_length_9d52b miJ2_length_9d52b 1 := ⟨⟨by decide +kernel, by decide +kernel, by decide +kernel⟩, gT_1 184 rfl rfl, gT_1 11 rfl rfl, by decide⟩
set_option maxRecDepth 20000 in
theorem lsJ2_length_9d52b : Cond.static yJ2_length_9d52b ∈ gT := gT_1 183 rfl rfl
abbrev miJ2_charAt_3b067 : MI := (RJ2, cJ2_charAt_3b067, 2, some (.char), false)
set_option maxRecDepth 20000 in
theorem msJ2_charAt_3b067 : MS yJ2_charAt_3b067 miJ2_charAt_3b067 2 := ⟨⟨by decide +kernel, by decide +kernel, by decide +kernel⟩, gT_1 178 rfl rfl, gT_1 11 rfl rfl, by decide⟩
set_option maxRecDepth 20000 in
theorem lsJ2_charAt_3b067 : Cond.static yJ2_charAt_3b067 ∈ gT := gT_1 177 rfl rfl
abbrev miJ2_checkIndex_2214a : MI := (RJ2, cJ2_checkIndex_2214a, 2, none, false)
set_option maxRecDepth 20000 in
theorem msJ2_checkIndex_2214a : MS yJ2_checkIndex_2214a miJ2_checkIndex_2214a 2 := ⟨⟨by decide +kernel, by decide +kernel, by decide +kernel⟩, gT_1 181 rfl rfl, gT_1 11 rfl rfl, by decide⟩
set_option maxRecDepth 20000 in
theorem lsJ2_checkIndex_2214a : Cond.static yJ2_checkIndex_2214a ∈ gT := gT_1 180 rfl rfl
abbrev miJxa1e45_init_da8c8 : MI := (RJxa1e45, cJxa1e45_init_da8c8, 1, none, true)
set_option maxRecDepth 20000 in
theorem msJxa1e45_init_da8c8 : MS yJxa1e45_init_da8c8 miJxa1e45_init_da8c8 0 := ⟨⟨by decide +kernel, by decide +kernel, by decide +kernel⟩, gT_1 45 rfl rfl, gT_1 2 rfl rfl, by decide⟩
set_option maxRecDepth 20000 in
theorem liJxa1e45_init_da8c8 : Cond.instanceMethod yJxa1e45_init_da8c8 ∈ gT := gT_1 44 rfl rfl
abbrev miJxc12de_init_da8c8 : MI := (RJxc12de, cJxc12de_init_da8c8, 1, none, true)
set_option maxRecDepth 20000 in
theorem msJxc12de_init_da8c8 : MS yJxc12de_init_da8c8 miJxc12de_init_da8c8 0 := ⟨⟨by decide +kernel, by decide +kernel, by decide +kernel⟩, gT_1 42 rfl rfl, gT_1 3 rfl rfl, by decide⟩
set_option maxRecDepth 20000 in
theorem liJxc12de_init_da8c8 : Cond.instanceMethod yJxc12de_init_da8c8 ∈ gT := gT_1 41 rfl rfl
abbrev miJx4a65c_init_da8c8 : MI := (RJx4a65c, cJx4a65c_init_da8c8, 1, none, true)
set_option maxRecDepth 20000 in
theorem msJx4a65c_init_da8c8 : MS yJx4a65c_init_da8c8 miJx4a65c_init_da8c8 0 := ⟨⟨by decide +kernel, by decide +kernel, by decide +kernel⟩, gT_1 39 rfl rfl, gT_1 4 rfl rfl, by decide⟩
set_option maxRecDepth 20000 in
theorem liJx4a65c_init_da8c8 : Cond.instanceMethod yJx4a65c_init_da8c8 ∈ gT := gT_1 38 rfl rfl
abbrev miJx4a65c_grow_92f84 : MI := (RJx4a65c, cJx4a65c_grow_92f84, 4, some (.array (.object "java/lang/Object")), false)
set_option maxRecDepth 20000 in
theorem msJx4a65c_grow_92f84 : MS yJx4a65c_grow_92f84 miJx4a65c_grow_92f84 1 := ⟨⟨by decide +kernel, by decide +kernel, by decide +kernel⟩, gT_2 123 rfl rfl, gT_1 4 rfl rfl, by decide⟩
set_option maxRecDepth 20000 in
theorem liJx4a65c_grow_92f84 : Cond.instanceMethod yJx4a65c_grow_92f84 ∈ gT := gT_2 122 rfl rfl
set_option maxRecDepth 20000 in
theorem lvJx4a65c_Jx4a65c_grow_92f84 : Cond.selects RJx4a65c yJx4a65c_grow_92f84 yJx4a65c_grow_92f84 ∈ gT := gT_sel (y := yJx4a65c_grow_92f84) 23 3 (by decide +kernel)
abbrev miJx4a65c_grow_d5877 : MI := (RJx4a65c, cJx4a65c_grow_d5877, 1, some (.array (.object "java/lang/Object")), false)
set_option maxRecDepth 20000 in
theorem msJx4a65c_grow_d5877 : MS yJx4a65c_grow_d5877 miJx4a65c_grow_d5877 0 := ⟨⟨by decide +kernel, by decide +kernel, by decide +kernel⟩, gT_2 119 rfl rfl, gT_1 4 rfl rfl, by decide⟩
set_option maxRecDepth 20000 in
theorem liJx4a65c_grow_d5877 : Cond.instanceMethod yJx4a65c_grow_d5877 ∈ gT := gT_2 118 rfl rfl
set_option maxRecDepth 20000 in
theorem lvJx4a65c_Jx4a65c_grow_d5877 : Cond.selects RJx4a65c yJx4a65c_grow_d5877 yJx4a65c_grow_d5877 ∈ gT := gT_sel (y := yJx4a65c_grow_d5877) 22 3 (by decide +kernel)
abbrev miJx4a65c_size_8abf5 : MI := (RJx4a65c, cJx4a65c_size_8abf5, 1, some (.int), false)
set_option maxRecDepth 20000 in
theorem msJx4a65c_size_8abf5 : MS yJx4a65c_size_8abf5 miJx4a65c_size_8abf5 0 := ⟨⟨by decide +kernel, by decide +kernel, by decide +kernel⟩, gT_2 237 rfl rfl, gT_1 4 rfl rfl, by decide⟩
set_option maxRecDepth 20000 in
theorem liJx4a65c_size_8abf5 : Cond.instanceMethod yJx4a65c_size_8abf5 ∈ gT := gT_2 235 rfl rfl
abbrev miJx4a65c_elementData_915e3 : MI := (RJx4a65c, cJx4a65c_elementData_915e3, 2, some (.object "java/lang/Object"), false)
set_option maxRecDepth 20000 in
theorem msJx4a65c_elementData_915e3 : MS yJx4a65c_elementData_915e3 miJx4a65c_elementData_915e3 1 := ⟨⟨by decide +kernel, by decide +kernel, by decide +kernel⟩, gT_3 142 rfl rfl, gT_1 4 rfl rfl, by decide⟩
set_option maxRecDepth 20000 in
theorem liJx4a65c_elementData_915e3 : Cond.instanceMethod yJx4a65c_elementData_915e3 ∈ gT := gT_3 140 rfl rfl
abbrev miJx4a65c_get_915e3 : MI := (RJx4a65c, cJx4a65c_get_915e3, 2, some (.object "java/lang/Object"), false)
set_option maxRecDepth 20000 in
theorem msJx4a65c_get_915e3 : MS yJx4a65c_get_915e3 miJx4a65c_get_915e3 1 := ⟨⟨by decide +kernel, by decide +kernel, by decide +kernel⟩, gT_3 134 rfl rfl, gT_1 4 rfl rfl, by decide⟩
set_option maxRecDepth 20000 in
theorem liJx4a65c_get_915e3 : Cond.instanceMethod yJx4a65c_get_915e3 ∈ gT := gT_3 132 rfl rfl
abbrev miJx4a65c_add_72be8 : MI := (RJx4a65c, cJx4a65c_add_72be8, 4, none, false)
set_option maxRecDepth 20000 in
theorem msJx4a65c_add_72be8 : MS yJx4a65c_add_72be8 miJx4a65c_add_72be8 3 := ⟨⟨by decide +kernel, by decide +kernel, by decide +kernel⟩, gT_2 115 rfl rfl, gT_1 4 rfl rfl, by decide⟩
set_option maxRecDepth 20000 in
theorem liJx4a65c_add_72be8 : Cond.instanceMethod yJx4a65c_add_72be8 ∈ gT := gT_2 114 rfl rfl
set_option maxRecDepth 20000 in
theorem lvJx4a65c_Jx4a65c_add_72be8 : Cond.selects RJx4a65c yJx4a65c_add_72be8 yJx4a65c_add_72be8 ∈ gT := gT_sel (y := yJx4a65c_add_72be8) 21 3 (by decide +kernel)
abbrev miJx4a65c_add_9ea2d : MI := (RJx4a65c, cJx4a65c_add_9ea2d, 2, some (.boolean), false)
set_option maxRecDepth 20000 in
theorem msJx4a65c_add_9ea2d : MS yJx4a65c_add_9ea2d miJx4a65c_add_9ea2d 1 := ⟨⟨by decide +kernel, by decide +kernel, by decide +kernel⟩, gT_2 111 rfl rfl, gT_1 4 rfl rfl, by decide⟩
set_option maxRecDepth 20000 in
theorem liJx4a65c_add_9ea2d : Cond.instanceMethod yJx4a65c_add_9ea2d ∈ gT := gT_2 109 rfl rfl
abbrev miJ7_fill_d0a16 : MI := (RJ7, cJ7_fill_d0a16, 5, none, false)
set_option maxRecDepth 20000 in
theorem msJ7_fill_d0a16 : MS yJ7_fill_d0a16 miJ7_fill_d0a16 2 := ⟨⟨by decide +kernel, by decide +kernel, by decide +kernel⟩, gT_4 205 rfl rfl, gT_1 13 rfl rfl, by decide⟩
set_option maxRecDepth 20000 in
theorem lsJ7_fill_d0a16 : Cond.static yJ7_fill_d0a16 ∈ gT := gT_4 204 rfl rfl
abbrev miJ7_copyOf_1904c : MI := (RJ7, cJ7_copyOf_1904c, 2, some (.array (.object "java/lang/Object")), false)
set_option maxRecDepth 20000 in
theorem msJ7_copyOf_1904c : MS yJ7_copyOf_1904c miJ7_copyOf_1904c 2 := ⟨⟨by decide +kernel, by decide +kernel, by decide +kernel⟩, gT_2 136 rfl rfl, gT_1 13 rfl rfl, by decide⟩
set_option maxRecDepth 20000 in
theorem lsJ7_copyOf_1904c : Cond.static yJ7_copyOf_1904c ∈ gT := gT_2 135 rfl rfl
abbrev miJ7_copyOf_6403c : MI := (RJ7, cJ7_copyOf_6403c, 4, some (.array (.object "java/lang/Object")), false)
set_option maxRecDepth 20000 in
theorem msJ7_copyOf_6403c : MS yJ7_copyOf_6403c miJ7_copyOf_6403c 3 := ⟨⟨by decide +kernel, by decide +kernel, by decide +kernel⟩, gT_2 157 rfl rfl, gT_1 13 rfl rfl, by decide⟩
set_option maxRecDepth 20000 in
theorem lsJ7_copyOf_6403c : Cond.static yJ7_copyOf_6403c ∈ gT := gT_2 156 rfl rfl
abbrev miJ7_copyOf_59c91 : MI := (RJ7, cJ7_copyOf_59c91, 3, some (.array .int), false)
set_option maxRecDepth 20000 in
theorem msJ7_copyOf_59c91 : MS yJ7_copyOf_59c91 miJ7_copyOf_59c91 2 := ⟨⟨by decide +kernel, by decide +kernel, by decide +kernel⟩, gT_2 75 rfl rfl, gT_1 13 rfl rfl, by decide⟩
set_option maxRecDepth 20000 in
theorem lsJ7_copyOf_59c91 : Cond.static yJ7_copyOf_59c91 ∈ gT := gT_2 74 rfl rfl
abbrev miJ15_checkIndex_7cf53 : MI := (RJ15, cJ15_checkIndex_7cf53, 2, some (.int), false)
set_option maxRecDepth 20000 in
theorem msJ15_checkIndex_7cf53 : MS yJ15_checkIndex_7cf53 miJ15_checkIndex_7cf53 2 := ⟨⟨by decide +kernel, by decide +kernel, by decide +kernel⟩, gT_3 137 rfl rfl, gT_1 24 rfl rfl, by decide⟩
set_option maxRecDepth 20000 in
theorem lsJ15_checkIndex_7cf53 : Cond.static yJ15_checkIndex_7cf53 ∈ gT := gT_3 136 rfl rfl
abbrev miJ8_newLength_cabcc : MI := (RJ8, cJ8_newLength_cabcc, 4, some (.int), false)
set_option maxRecDepth 20000 in
theorem msJ8_newLength_cabcc : MS yJ8_newLength_cabcc miJ8_newLength_cabcc 3 := ⟨⟨by decide +kernel, by decide +kernel, by decide +kernel⟩, gT_2 126 rfl rfl, gT_1 16 rfl rfl, by decide⟩
set_option maxRecDepth 20000 in
theorem lsJ8_newLength_cabcc : Cond.static yJ8_newLength_cabcc ∈ gT := gT_2 125 rfl rfl
abbrev miJ8_hugeLength_7cf53 : MI := (RJ8, cJ8_hugeLength_7cf53, 3, some (.int), false)
set_option maxRecDepth 20000 in
theorem msJ8_hugeLength_7cf53 : MS yJ8_hugeLength_7cf53 miJ8_hugeLength_7cf53 2 := ⟨⟨by decide +kernel, by decide +kernel, by decide +kernel⟩, gT_2 133 rfl rfl, gT_1 16 rfl rfl, by decide⟩
set_option maxRecDepth 20000 in
theorem lsJ8_hugeLength_7cf53 : Cond.static yJ8_hugeLength_7cf53 ∈ gT := gT_2 132 rfl rfl
abbrev miJ3_checkIndex_8e157 : MI := (RJ3, cJ3_checkIndex_8e157, 3, some (.int), false)
set_option maxRecDepth 20000 in
theorem msJ3_checkIndex_8e157 : MS yJ3_checkIndex_8e157 miJ3_checkIndex_8e157 3 := ⟨⟨by decide +kernel, by decide +kernel, by decide +kernel⟩, gT_1 175 rfl rfl, gT_1 10 rfl rfl, by decide⟩
set_option maxRecDepth 20000 in
theorem lsJ3_checkIndex_8e157 : Cond.static yJ3_checkIndex_8e157 ∈ gT := gT_1 174 rfl rfl
set_option maxRecDepth 20000 in
theorem lnL : Cond.initialized RL ∈ gT := gT_1 0 rfl rfl
set_option maxRecDepth 20000 in
theorem lnX11 : Cond.initialized RX11 ∈ gT := gT_1 1 rfl rfl
set_option maxRecDepth 20000 in
theorem lnJxa1e45 : Cond.initialized RJxa1e45 ∈ gT := gT_1 2 rfl rfl
set_option maxRecDepth 20000 in
theorem lnJxc12de : Cond.initialized RJxc12de ∈ gT := gT_1 3 rfl rfl
set_option maxRecDepth 20000 in
theorem lnJx4a65c : Cond.initialized RJx4a65c ∈ gT := gT_1 4 rfl rfl
set_option maxRecDepth 20000 in
theorem lnX6 : Cond.initialized RX6 ∈ gT := gT_1 5 rfl rfl
set_option maxRecDepth 20000 in
theorem lnX5 : Cond.initialized RX5 ∈ gT := gT_1 6 rfl rfl
set_option maxRecDepth 20000 in
theorem lnX2 : Cond.initialized RX2 ∈ gT := gT_1 7 rfl rfl
set_option maxRecDepth 20000 in
theorem lnJ0 : Cond.initialized RJ0 ∈ gT := gT_1 8 rfl rfl
set_option maxRecDepth 20000 in
theorem lnJ1 : Cond.initialized RJ1 ∈ gT := gT_1 9 rfl rfl
set_option maxRecDepth 20000 in
theorem lnJ3 : Cond.initialized RJ3 ∈ gT := gT_1 10 rfl rfl
set_option maxRecDepth 20000 in
theorem lnJ2 : Cond.initialized RJ2 ∈ gT := gT_1 11 rfl rfl
set_option maxRecDepth 20000 in
theorem lnX9 : Cond.initialized RX9 ∈ gT := gT_1 12 rfl rfl
set_option maxRecDepth 20000 in
theorem lnJ7 : Cond.initialized RJ7 ∈ gT := gT_1 13 rfl rfl
set_option maxRecDepth 20000 in
theorem lnJ9 : Cond.initialized RJ9 ∈ gT := gT_1 14 rfl rfl
set_option maxRecDepth 20000 in
theorem lnJ10 : Cond.initialized RJ10 ∈ gT := gT_1 15 rfl rfl
set_option maxRecDepth 20000 in
theorem lnJ8 : Cond.initialized RJ8 ∈ gT := gT_1 16 rfl rfl
set_option maxRecDepth 20000 in
theorem lnX12 : Cond.initialized RX12 ∈ gT := gT_1 17 rfl rfl
set_option maxRecDepth 20000 in
theorem lnX8 : Cond.initialized RX8 ∈ gT := gT_1 18 rfl rfl
set_option maxRecDepth 20000 in
theorem lnX4 : Cond.initialized RX4 ∈ gT := gT_1 19 rfl rfl
set_option maxRecDepth 20000 in
theorem lnX10 : Cond.initialized RX10 ∈ gT := gT_1 20 rfl rfl
set_option maxRecDepth 20000 in
theorem lnX7 : Cond.initialized RX7 ∈ gT := gT_1 21 rfl rfl
set_option maxRecDepth 20000 in
theorem lnX0 : Cond.initialized RX0 ∈ gT := gT_1 22 rfl rfl
set_option maxRecDepth 20000 in
theorem lnX1 : Cond.initialized RX1 ∈ gT := gT_1 23 rfl rfl
set_option maxRecDepth 20000 in
theorem lnJ15 : Cond.initialized RJ15 ∈ gT := gT_1 24 rfl rfl
set_option maxRecDepth 20000 in
theorem lnX3 : Cond.initialized RX3 ∈ gT := gT_1 25 rfl rfl
set_option maxRecDepth 20000 in
theorem lnJ6 : Cond.initialized RJ6 ∈ gT := gT_1 26 rfl rfl
set_option maxRecDepth 20000 in
theorem lcL_7 : Cond.classLink RL 7 RX11 ∈ gT := gT_1 27 rfl rfl
set_option maxRecDepth 20000 in
theorem lxX11 : Cond.instantiable RX11 20 ∈ gT := gT_1 28 rfl rfl
set_option maxRecDepth 20000 in
theorem lmL_9 : Cond.methodLink RL 9 yX11_init ∈ gT := gT_1 29 rfl rfl
set_option maxRecDepth 20000 in
theorem lmX11_3 : Cond.methodLink RX11 3 ⟨"java/lang/Object", "<init>", "()V"⟩ ∈ gT := gT_1 32 rfl rfl
set_option maxRecDepth 20000 in
theorem lcX11_9 : Cond.classLink RX11 9 RJx4a65c ∈ gT := gT_1 35 rfl rfl
set_option maxRecDepth 20000 in
theorem lxJx4a65c : Cond.instantiable RJx4a65c 3 ∈ gT := gT_1 36 rfl rfl
set_option maxRecDepth 20000 in
theorem lmX11_11 : Cond.methodLink RX11 11 yJx4a65c_init_da8c8 ∈ gT := gT_1 37 rfl rfl
set_option maxRecDepth 20000 in
theorem lmJx4a65c_1 : Cond.methodLink RJx4a65c 1 yJxc12de_init_da8c8 ∈ gT := gT_1 40 rfl rfl
set_option maxRecDepth 20000 in
theorem lmJxc12de_1 : Cond.methodLink RJxc12de 1 yJxa1e45_init_da8c8 ∈ gT := gT_1 43 rfl rfl
set_option maxRecDepth 20000 in
theorem lmJxa1e45_1 : Cond.methodLink RJxa1e45 1 ⟨"java/lang/Object", "<init>", "()V"⟩ ∈ gT := gT_1 46 rfl rfl
set_option maxRecDepth 20000 in
theorem lpJx4a65c : Cond.superclass RJx4a65c RJxc12de ∈ gT := gT_1 60 rfl rfl
set_option maxRecDepth 20000 in
theorem lcX11_42 : Cond.classLink RX11 42 RX6 ∈ gT := gT_1 61 rfl rfl
set_option maxRecDepth 20000 in
theorem lxX6 : Cond.instantiable RX6 9 ∈ gT := gT_1 62 rfl rfl
set_option maxRecDepth 20000 in
theorem lmX6_3 : Cond.methodLink RX6 3 ⟨"java/lang/Object", "<init>", "()V"⟩ ∈ gT := gT_1 66 rfl rfl
set_option maxRecDepth 20000 in
theorem lpX6 : Cond.superclass RX6 "java/lang/Object" ∈ gT := gT_1 96 rfl rfl
set_option maxRecDepth 20000 in
theorem la_int : Cond.arrayClass .int ∈ gT := gT_1 97 rfl rfl
set_option maxRecDepth 20000 in
theorem lcX11_49 : Cond.classLink RX11 49 RX5 ∈ gT := gT_1 98 rfl rfl
set_option maxRecDepth 20000 in
theorem lxX5 : Cond.instantiable RX5 5 ∈ gT := gT_1 99 rfl rfl
set_option maxRecDepth 20000 in
theorem lmX5_3 : Cond.methodLink RX5 3 ⟨"java/lang/Object", "<init>", "()V"⟩ ∈ gT := gT_1 103 rfl rfl
set_option maxRecDepth 20000 in
theorem lpX5 : Cond.superclass RX5 "java/lang/Object" ∈ gT := gT_1 123 rfl rfl
set_option maxRecDepth 20000 in
theorem lcX11_56 : Cond.classLink RX11 56 "[I" ∈ gT := gT_1 124 rfl rfl
set_option maxRecDepth 20000 in
theorem lcX11_64 : Cond.classLink RX11 64 RX2 ∈ gT := gT_1 126 rfl rfl
set_option maxRecDepth 20000 in
theorem lxX2 : Cond.instantiable RX2 3 ∈ gT := gT_1 127 rfl rfl
set_option maxRecDepth 20000 in
theorem lmX2_5 : Cond.methodLink RX2 5 ⟨"java/lang/Object", "<init>", "()V"⟩ ∈ gT := gT_1 131 rfl rfl
set_option maxRecDepth 20000 in
theorem lpX2 : Cond.superclass RX2 "java/lang/Object" ∈ gT := gT_1 141 rfl rfl
set_option maxRecDepth 20000 in
theorem lmX11_94 : Cond.methodLink RX11 94 yX6_spell ∈ gT := gT_1 143 rfl rfl
set_option maxRecDepth 20000 in
theorem lvX6_X6_spell : Cond.selects RX6 yX6_spell yX6_spell ∈ gT := gT_1 145 rfl rfl
set_option maxRecDepth 20000 in
theorem lmX6_40 : Cond.methodLink RX6 40 yJ0_length_8abf5 ∈ gT := gT_1 147 rfl rfl
set_option maxRecDepth 20000 in
theorem lvJ0_J0_length_8abf5 : Cond.selects RJ0 yJ0_length_8abf5 yJ0_length_8abf5 ∈ gT := gT_1 149 rfl rfl
set_option maxRecDepth 20000 in
theorem lmJ0_335 : Cond.methodLink RJ0 335 yJ0_coder_7d493 ∈ gT := gT_1 151 rfl rfl
set_option maxRecDepth 20000 in
theorem lvJ0_J0_coder_7d493 : Cond.selects RJ0 yJ0_coder_7d493 yJ0_coder_7d493 ∈ gT := gT_1 153 rfl rfl
set_option maxRecDepth 20000 in
theorem lmX6_46 : Cond.methodLink RX6 46 yJ0_charAt_5068e ∈ gT := gT_1 157 rfl rfl
set_option maxRecDepth 20000 in
theorem lvJ0_J0_charAt_5068e : Cond.selects RJ0 yJ0_charAt_5068e yJ0_charAt_5068e ∈ gT := gT_1 159 rfl rfl
set_option maxRecDepth 20000 in
theorem lmJ0_492 : Cond.methodLink RJ0 492 yJ0_isLatin1_aae02 ∈ gT := gT_1 161 rfl rfl
set_option maxRecDepth 20000 in
theorem lvJ0_J0_isLatin1_aae02 : Cond.selects RJ0 yJ0_isLatin1_aae02 yJ0_isLatin1_aae02 ∈ gT := gT_1 163 rfl rfl
set_option maxRecDepth 20000 in
theorem lmJ0_495 : Cond.methodLink RJ0 495 yJ1_charAt_3b067 ∈ gT := gT_1 165 rfl rfl
set_option maxRecDepth 20000 in
theorem lmJ1_9 : Cond.methodLink RJ1 9 yJ0_checkIndex_df160 ∈ gT := gT_1 168 rfl rfl
set_option maxRecDepth 20000 in
theorem lmJ0_1059 : Cond.methodLink RJ0 1059 yJ3_checkIndex_8e157 ∈ gT := gT_1 173 rfl rfl
set_option maxRecDepth 20000 in
theorem lmJ0_498 : Cond.methodLink RJ0 498 yJ2_charAt_3b067 ∈ gT := gT_1 176 rfl rfl
set_option maxRecDepth 20000 in
theorem lmJ2_67 : Cond.methodLink RJ2 67 yJ2_checkIndex_2214a ∈ gT := gT_1 179 rfl rfl
set_option maxRecDepth 20000 in
theorem lmJ2_48 : Cond.methodLink RJ2 48 yJ2_length_9d52b ∈ gT := gT_1 182 rfl rfl
set_option maxRecDepth 20000 in
theorem lmJ2_414 : Cond.methodLink RJ2 414 yJ0_checkIndex_df160 ∈ gT := gT_1 185 rfl rfl
set_option maxRecDepth 20000 in
theorem lmJ2_71 : Cond.methodLink RJ2 71 yJ2_getChar_3b067 ∈ gT := gT_1 186 rfl rfl
set_option maxRecDepth 20000 in
theorem lmX6_50 : Cond.methodLink RX6 50 yX6_put ∈ gT := gT_1 195 rfl rfl
set_option maxRecDepth 20000 in
theorem lvX6_X6_put : Cond.selects RX6 yX6_put yX6_put ∈ gT := gT_1 197 rfl rfl
set_option maxRecDepth 20000 in
theorem lmX11_98 : Cond.methodLink RX11 98 yX6_read ∈ gT := gT_1 199 rfl rfl
set_option maxRecDepth 20000 in
theorem lvX6_X6_read : Cond.selects RX6 yX6_read yX6_read ∈ gT := gT_1 201 rfl rfl
set_option maxRecDepth 20000 in
theorem lmX6_54 : Cond.methodLink RX6 54 yX6_split ∈ gT := gT_1 203 rfl rfl
set_option maxRecDepth 20000 in
theorem lmX6_72 : Cond.methodLink RX6 72 yX6_splitOne ∈ gT := gT_1 207 rfl rfl
set_option maxRecDepth 20000 in
theorem lmX6_80 : Cond.methodLink RX6 80 yX6_byteAt ∈ gT := gT_1 211 rfl rfl
set_option maxRecDepth 20000 in
theorem lmX6_83 : Cond.methodLink RX6 83 yX6_isDigit ∈ gT := gT_1 215 rfl rfl
set_option maxRecDepth 20000 in
theorem lmX6_87 : Cond.methodLink RX6 87 yX6_endOfDigits ∈ gT := gT_1 218 rfl rfl
set_option maxRecDepth 20000 in
theorem lmX6_90 : Cond.methodLink RX6 90 yX6_numberToken ∈ gT := gT_1 222 rfl rfl
set_option maxRecDepth 20000 in
theorem lmX6_76 : Cond.methodLink RX6 76 yX6_addToken ∈ gT := gT_1 226 rfl rfl
set_option maxRecDepth 20000 in
theorem lmX6_94 : Cond.methodLink RX6 94 yX6_isLetter ∈ gT := gT_1 230 rfl rfl
set_option maxRecDepth 20000 in
theorem lmX6_97 : Cond.methodLink RX6 97 yX6_endOfLetters ∈ gT := gT_1 233 rfl rfl
set_option maxRecDepth 20000 in
theorem lmX6_100 : Cond.methodLink RX6 100 yX6_wordToken ∈ gT := gT_1 237 rfl rfl
set_option maxRecDepth 20000 in
theorem lmX6_108 : Cond.methodLink RX6 108 yX6_isWord ∈ gT := gT_2 2 rfl rfl
set_option maxRecDepth 20000 in
theorem lmX6_103 : Cond.methodLink RX6 103 yX6_isSign ∈ gT := gT_2 17 rfl rfl
set_option maxRecDepth 20000 in
theorem lmX6_57 : Cond.methodLink RX6 57 yX6_readPart ∈ gT := gT_2 20 rfl rfl
set_option maxRecDepth 20000 in
theorem lmX6_60 : Cond.methodLink RX6 60 yX6_ask ∈ gT := gT_2 24 rfl rfl
set_option maxRecDepth 20000 in
theorem lmX6_140 : Cond.methodLink RX6 140 yX6_takes ∈ gT := gT_2 28 rfl rfl
set_option maxRecDepth 20000 in
theorem lmX6_152 : Cond.methodLink RX6 152 yX6_token ∈ gT := gT_2 32 rfl rfl
set_option maxRecDepth 20000 in
theorem lmX6_164 : Cond.methodLink RX6 164 yX6_refuse ∈ gT := gT_2 36 rfl rfl
set_option maxRecDepth 20000 in
theorem lmX6_134 : Cond.methodLink RX6 134 yX6_readAny ∈ gT := gT_2 40 rfl rfl
set_option maxRecDepth 20000 in
theorem lmX6_137 : Cond.methodLink RX6 137 yX6_readEach ∈ gT := gT_2 44 rfl rfl
set_option maxRecDepth 20000 in
theorem lmX6_146 : Cond.methodLink RX6 146 yX6_readNot ∈ gT := gT_2 48 rfl rfl
set_option maxRecDepth 20000 in
theorem lmX6_143 : Cond.methodLink RX6 143 yX6_write ∈ gT := gT_2 52 rfl rfl
set_option maxRecDepth 20000 in
theorem lmX6_149 : Cond.methodLink RX6 149 yX6_readSum ∈ gT := gT_2 56 rfl rfl
set_option maxRecDepth 20000 in
theorem lmX6_155 : Cond.methodLink RX6 155 yX6_readTerm ∈ gT := gT_2 60 rfl rfl
set_option maxRecDepth 20000 in
theorem lmX6_158 : Cond.methodLink RX6 158 yX6_readOne ∈ gT := gT_2 64 rfl rfl
set_option maxRecDepth 20000 in
theorem lmX6_161 : Cond.methodLink RX6 161 yX6_isValue ∈ gT := gT_2 68 rfl rfl
set_option maxRecDepth 20000 in
theorem lcX6_1 : Cond.classLink RX6 1 RX9 ∈ gT := gT_2 71 rfl rfl
set_option maxRecDepth 20000 in
theorem lxX9 : Cond.instantiable RX9 4 ∈ gT := gT_2 72 rfl rfl
set_option maxRecDepth 20000 in
theorem lmX6_63 : Cond.methodLink RX6 63 yJ7_copyOf_59c91 ∈ gT := gT_2 73 rfl rfl
set_option maxRecDepth 20000 in
theorem lmJ7_316 : Cond.methodLink RJ7 316 ⟨"[I", "clone", "()Ljava/lang/Object;"⟩ ∈ gT := gT_2 76 rfl rfl
set_option maxRecDepth 20000 in
theorem lq_I_clone : Cond.sameMethod "[I" "java/lang/Object" "clone" "()Ljava/lang/Object;" ∈ gT := gT_2 77 rfl rfl
set_option maxRecDepth 20000 in
theorem lz_clone : Cond.native ⟨"java/lang/Object", "clone", "()Ljava/lang/Object;"⟩ ∈ gT := gT_2 78 rfl rfl
set_option maxRecDepth 20000 in
theorem lcJ7_317 : Cond.classLink RJ7 317 "[I" ∈ gT := gT_2 82 rfl rfl
set_option maxRecDepth 20000 in
theorem lmJ7_304 : Cond.methodLink RJ7 304 yJ9_min_7cf53 ∈ gT := gT_2 83 rfl rfl
set_option maxRecDepth 20000 in
theorem lmJ7_150 : Cond.methodLink RJ7 150 ⟨"java/lang/System", "arraycopy", "(Ljava/lang/Object;ILjava/lang/Object;II)V"⟩ ∈ gT := gT_2 86 rfl rfl
set_option maxRecDepth 20000 in
theorem lz_arraycopy : Cond.native ⟨"java/lang/System", "arraycopy", "(Ljava/lang/Object;ILjava/lang/Object;II)V"⟩ ∈ gT := gT_2 88 rfl rfl
set_option maxRecDepth 20000 in
theorem lmX6_69 : Cond.methodLink RX6 69 yX9_init ∈ gT := gT_2 89 rfl rfl
set_option maxRecDepth 20000 in
theorem lmX9_5 : Cond.methodLink RX9 5 ⟨"java/lang/Object", "<init>", "()V"⟩ ∈ gT := gT_2 92 rfl rfl
set_option maxRecDepth 20000 in
theorem lpX9 : Cond.superclass RX9 "java/lang/Object" ∈ gT := gT_2 105 rfl rfl
set_option maxRecDepth 20000 in
theorem la_long : Cond.arrayClass .long ∈ gT := gT_2 106 rfl rfl
set_option maxRecDepth 20000 in
theorem la_byte : Cond.arrayClass .byte ∈ gT := gT_2 107 rfl rfl
set_option maxRecDepth 20000 in
theorem lmX11_102 : Cond.methodLink RX11 102 yJx4a65c_add_9ea2d ∈ gT := gT_2 108 rfl rfl
set_option maxRecDepth 20000 in
theorem lvJx4a65c_Jx4a65c_add_9ea2d : Cond.selects RJx4a65c yJx4a65c_add_9ea2d yJx4a65c_add_9ea2d ∈ gT := gT_2 110 rfl rfl
set_option maxRecDepth 20000 in
theorem lmJx4a65c_131 : Cond.methodLink RJx4a65c 131 yJx4a65c_add_72be8 ∈ gT := gT_2 112 rfl rfl
set_option maxRecDepth 20000 in
theorem lmJx4a65c_129 : Cond.methodLink RJx4a65c 129 yJx4a65c_grow_d5877 ∈ gT := gT_2 116 rfl rfl
set_option maxRecDepth 20000 in
theorem lmJx4a65c_69 : Cond.methodLink RJx4a65c 69 yJx4a65c_grow_92f84 ∈ gT := gT_2 120 rfl rfl
set_option maxRecDepth 20000 in
theorem lmJx4a65c_73 : Cond.methodLink RJx4a65c 73 yJ8_newLength_cabcc ∈ gT := gT_2 124 rfl rfl
set_option maxRecDepth 20000 in
theorem lmJ8_194 : Cond.methodLink RJ8 194 yJ9_max_7cf53 ∈ gT := gT_2 127 rfl rfl
set_option maxRecDepth 20000 in
theorem lkJ8_200 : Cond.constant RJ8 200 (2147483639) ∈ gT := gT_2 130 rfl rfl
set_option maxRecDepth 20000 in
theorem lmJ8_201 : Cond.methodLink RJ8 201 yJ8_hugeLength_7cf53 ∈ gT := gT_2 131 rfl rfl
set_option maxRecDepth 20000 in
theorem lmJx4a65c_66 : Cond.methodLink RJx4a65c 66 yJ7_copyOf_1904c ∈ gT := gT_2 134 rfl rfl
set_option maxRecDepth 20000 in
theorem lmJ7_86 : Cond.methodLink RJ7 86 ⟨"java/lang/Object", "getClass", "()Ljava/lang/Class;"⟩ ∈ gT := gT_2 137 rfl rfl
set_option maxRecDepth 20000 in
theorem lqjava_lang_Object_getClass : Cond.sameMethod "java/lang/Object" "java/lang/Object" "getClass" "()Ljava/lang/Class;" ∈ gT := gT_2 139 rfl rfl
set_option maxRecDepth 20000 in
theorem lz_getClass : Cond.native ⟨"java/lang/Object", "getClass", "()Ljava/lang/Class;"⟩ ∈ gT := gT_2 154 rfl rfl
set_option maxRecDepth 20000 in
theorem lmJ7_300 : Cond.methodLink RJ7 300 yJ7_copyOf_6403c ∈ gT := gT_2 155 rfl rfl
set_option maxRecDepth 20000 in
theorem lcJ7_110 : Cond.classLink RJ7 110 "[Ljava/lang/Object;" ∈ gT := gT_2 158 rfl rfl
set_option maxRecDepth 20000 in
theorem lcJ7_2 : Cond.classLink RJ7 2 "java/lang/Object" ∈ gT := gT_2 160 rfl rfl
set_option maxRecDepth 20000 in
theorem lmJx4a65c_79 : Cond.methodLink RJx4a65c 79 yJ9_max_7cf53 ∈ gT := gT_2 161 rfl rfl
set_option maxRecDepth 20000 in
theorem lcJx4a65c_7 : Cond.classLink RJx4a65c 7 "java/lang/Object" ∈ gT := gT_2 162 rfl rfl
set_option maxRecDepth 20000 in
theorem lpX11 : Cond.superclass RX11 "java/lang/Object" ∈ gT := gT_2 223 rfl rfl
set_option maxRecDepth 20000 in
theorem lmL_13 : Cond.methodLink RL 13 yX11_stall ∈ gT := gT_2 224 rfl rfl
set_option maxRecDepth 20000 in
theorem lvX11_X11_stall : Cond.selects RX11 yX11_stall yX11_stall ∈ gT := gT_2 226 rfl rfl
set_option maxRecDepth 20000 in
theorem lmX11_106 : Cond.methodLink RX11 106 yX11_isIn ∈ gT := gT_2 228 rfl rfl
set_option maxRecDepth 20000 in
theorem lmX11_110 : Cond.methodLink RX11 110 yX11_isPlace ∈ gT := gT_2 231 rfl rfl
set_option maxRecDepth 20000 in
theorem lmX11_114 : Cond.methodLink RX11 114 yJx4a65c_size_8abf5 ∈ gT := gT_2 234 rfl rfl
set_option maxRecDepth 20000 in
theorem lvJx4a65c_Jx4a65c_size_8abf5 : Cond.selects RJx4a65c yJx4a65c_size_8abf5 yJx4a65c_size_8abf5 ∈ gT := gT_2 236 rfl rfl
set_option maxRecDepth 20000 in
theorem lmX11_118 : Cond.methodLink RX11 118 yX11_newStall ∈ gT := gT_2 238 rfl rfl
set_option maxRecDepth 20000 in
theorem lcX11_210 : Cond.classLink RX11 210 RX4 ∈ gT := gT_3 1 rfl rfl
set_option maxRecDepth 20000 in
theorem lxX4 : Cond.instantiable RX4 8 ∈ gT := gT_3 2 rfl rfl
set_option maxRecDepth 20000 in
theorem lmX11_212 : Cond.methodLink RX11 212 yX4_init ∈ gT := gT_3 3 rfl rfl
set_option maxRecDepth 20000 in
theorem lmX4_1 : Cond.methodLink RX4 1 yX8_init ∈ gT := gT_3 6 rfl rfl
set_option maxRecDepth 20000 in
theorem lmX8_1 : Cond.methodLink RX8 1 ⟨"java/lang/Object", "<init>", "()V"⟩ ∈ gT := gT_3 9 rfl rfl
set_option maxRecDepth 20000 in
theorem lpX4 : Cond.superclass RX4 RX8 ∈ gT := gT_3 50 rfl rfl
set_option maxRecDepth 20000 in
theorem lcX11_215 : Cond.classLink RX11 215 RX10 ∈ gT := gT_3 51 rfl rfl
set_option maxRecDepth 20000 in
theorem lxX10 : Cond.instantiable RX10 8 ∈ gT := gT_3 52 rfl rfl
set_option maxRecDepth 20000 in
theorem lmX11_217 : Cond.methodLink RX11 217 yX10_init ∈ gT := gT_3 53 rfl rfl
set_option maxRecDepth 20000 in
theorem lmX10_1 : Cond.methodLink RX10 1 yX8_init ∈ gT := gT_3 56 rfl rfl
set_option maxRecDepth 20000 in
theorem lpX10 : Cond.superclass RX10 RX8 ∈ gT := gT_3 65 rfl rfl
set_option maxRecDepth 20000 in
theorem lcX11_218 : Cond.classLink RX11 218 RX7 ∈ gT := gT_3 66 rfl rfl
set_option maxRecDepth 20000 in
theorem lxX7 : Cond.instantiable RX7 8 ∈ gT := gT_3 67 rfl rfl
set_option maxRecDepth 20000 in
theorem lmX11_220 : Cond.methodLink RX11 220 yX7_init ∈ gT := gT_3 68 rfl rfl
set_option maxRecDepth 20000 in
theorem lmX7_1 : Cond.methodLink RX7 1 yX10_init ∈ gT := gT_3 71 rfl rfl
set_option maxRecDepth 20000 in
theorem lpX7 : Cond.superclass RX7 RX10 ∈ gT := gT_3 80 rfl rfl
set_option maxRecDepth 20000 in
theorem lcX11_221 : Cond.classLink RX11 221 RX0 ∈ gT := gT_3 81 rfl rfl
set_option maxRecDepth 20000 in
theorem lxX0 : Cond.instantiable RX0 8 ∈ gT := gT_3 82 rfl rfl
set_option maxRecDepth 20000 in
theorem lmX11_223 : Cond.methodLink RX11 223 yX0_init ∈ gT := gT_3 83 rfl rfl
set_option maxRecDepth 20000 in
theorem lmX0_1 : Cond.methodLink RX0 1 yX8_init ∈ gT := gT_3 86 rfl rfl
set_option maxRecDepth 20000 in
theorem lpX0 : Cond.superclass RX0 RX8 ∈ gT := gT_3 95 rfl rfl
set_option maxRecDepth 20000 in
theorem lcX11_224 : Cond.classLink RX11 224 RX1 ∈ gT := gT_3 96 rfl rfl
set_option maxRecDepth 20000 in
theorem lxX1 : Cond.instantiable RX1 8 ∈ gT := gT_3 97 rfl rfl
set_option maxRecDepth 20000 in
theorem lmX11_226 : Cond.methodLink RX11 226 yX1_init ∈ gT := gT_3 98 rfl rfl
set_option maxRecDepth 20000 in
theorem lmX1_1 : Cond.methodLink RX1 1 yX4_init ∈ gT := gT_3 101 rfl rfl
set_option maxRecDepth 20000 in
theorem lpX1 : Cond.superclass RX1 RX4 ∈ gT := gT_3 110 rfl rfl
set_option maxRecDepth 20000 in
theorem lcX11_131 : Cond.classLink RX11 131 RX8 ∈ gT := gT_3 111 rfl rfl
set_option maxRecDepth 20000 in
theorem lxX8 : Cond.instantiable RX8 8 ∈ gT := gT_3 112 rfl rfl
set_option maxRecDepth 20000 in
theorem lmX11_227 : Cond.methodLink RX11 227 yX8_init ∈ gT := gT_3 113 rfl rfl
set_option maxRecDepth 20000 in
theorem lpX8 : Cond.superclass RX8 "java/lang/Object" ∈ gT := gT_3 122 rfl rfl
set_option maxRecDepth 20000 in
theorem lmL_18 : Cond.methodLink RL 18 yX11_set ∈ gT := gT_3 123 rfl rfl
set_option maxRecDepth 20000 in
theorem lvX11_X11_set : Cond.selects RX11 yX11_set yX11_set ∈ gT := gT_3 125 rfl rfl
set_option maxRecDepth 20000 in
theorem lmX11_122 : Cond.methodLink RX11 122 yX11_stallAt ∈ gT := gT_3 127 rfl rfl
set_option maxRecDepth 20000 in
theorem lmX11_276 : Cond.methodLink RX11 276 yJx4a65c_get_915e3 ∈ gT := gT_3 131 rfl rfl
set_option maxRecDepth 20000 in
theorem lvJx4a65c_Jx4a65c_get_915e3 : Cond.selects RJx4a65c yJx4a65c_get_915e3 yJx4a65c_get_915e3 ∈ gT := gT_3 133 rfl rfl
set_option maxRecDepth 20000 in
theorem lmJx4a65c_118 : Cond.methodLink RJx4a65c 118 yJ15_checkIndex_7cf53 ∈ gT := gT_3 135 rfl rfl
set_option maxRecDepth 20000 in
theorem lmJ15_105 : Cond.methodLink RJ15 105 yJ3_checkIndex_8e157 ∈ gT := gT_3 138 rfl rfl
set_option maxRecDepth 20000 in
theorem lmJx4a65c_123 : Cond.methodLink RJx4a65c 123 yJx4a65c_elementData_915e3 ∈ gT := gT_3 139 rfl rfl
set_option maxRecDepth 20000 in
theorem lvJx4a65c_Jx4a65c_elementData_915e3 : Cond.selects RJx4a65c yJx4a65c_elementData_915e3 yJx4a65c_elementData_915e3 ∈ gT := gT_3 141 rfl rfl
set_option maxRecDepth 20000 in
theorem lmX11_126 : Cond.methodLink RX11 126 yX11_isSettable ∈ gT := gT_3 143 rfl rfl
set_option maxRecDepth 20000 in
theorem lmX11_186 : Cond.methodLink RX11 186 yX11_isBit ∈ gT := gT_3 146 rfl rfl
set_option maxRecDepth 20000 in
theorem lmX11_130 : Cond.methodLink RX11 130 yX8_changeable ∈ gT := gT_3 149 rfl rfl
set_option maxRecDepth 20000 in
theorem lvX8_X8_changeable : Cond.selects RX8 yX8_changeable yX8_changeable ∈ gT := gT_3 151 rfl rfl
set_option maxRecDepth 20000 in
theorem lqX8_changeable : Cond.sameMethod RX8 RX8 "changeable" "(I)I" ∈ gT := gT_3 152 rfl rfl
set_option maxRecDepth 20000 in
theorem lvX0_X8_changeable : Cond.selects RX0 yX8_changeable yX8_changeable ∈ gT := gT_3 153 rfl rfl
set_option maxRecDepth 20000 in
theorem lvX1_X8_changeable : Cond.selects RX1 yX8_changeable yX8_changeable ∈ gT := gT_3 154 rfl rfl
set_option maxRecDepth 20000 in
theorem lvX4_X8_changeable : Cond.selects RX4 yX8_changeable yX8_changeable ∈ gT := gT_3 155 rfl rfl
set_option maxRecDepth 20000 in
theorem lvX7_X8_changeable : Cond.selects RX7 yX8_changeable yX8_changeable ∈ gT := gT_3 156 rfl rfl
set_option maxRecDepth 20000 in
theorem lvX10_X8_changeable : Cond.selects RX10 yX8_changeable yX8_changeable ∈ gT := gT_3 157 rfl rfl
set_option maxRecDepth 20000 in
theorem lmX11_136 : Cond.methodLink RX11 136 yX8_change ∈ gT := gT_3 159 rfl rfl
set_option maxRecDepth 20000 in
theorem lvX8_X8_change : Cond.selects RX8 yX8_change yX8_change ∈ gT := gT_3 161 rfl rfl
set_option maxRecDepth 20000 in
theorem lqX8_change : Cond.sameMethod RX8 RX8 "change" "(II)V" ∈ gT := gT_3 162 rfl rfl
set_option maxRecDepth 20000 in
theorem lvX0_X8_change : Cond.selects RX0 yX8_change yX8_change ∈ gT := gT_3 163 rfl rfl
set_option maxRecDepth 20000 in
theorem lvX1_X8_change : Cond.selects RX1 yX8_change yX8_change ∈ gT := gT_3 164 rfl rfl
set_option maxRecDepth 20000 in
theorem lvX4_X8_change : Cond.selects RX4 yX8_change yX8_change ∈ gT := gT_3 165 rfl rfl
set_option maxRecDepth 20000 in
theorem lvX7_X8_change : Cond.selects RX7 yX8_change yX8_change ∈ gT := gT_3 166 rfl rfl
set_option maxRecDepth 20000 in
theorem lvX10_X8_change : Cond.selects RX10 yX8_change yX8_change ∈ gT := gT_3 167 rfl rfl
set_option maxRecDepth 20000 in
theorem lmL_23 : Cond.methodLink RL 23 yX11_told ∈ gT := gT_3 169 rfl rfl
set_option maxRecDepth 20000 in
theorem lvX11_X11_told : Cond.selects RX11 yX11_told yX11_told ∈ gT := gT_3 171 rfl rfl
set_option maxRecDepth 20000 in
theorem lmX11_163 : Cond.methodLink RX11 163 yX8_gaffs ∈ gT := gT_3 173 rfl rfl
set_option maxRecDepth 20000 in
theorem lvX8_X8_gaffs : Cond.selects RX8 yX8_gaffs yX8_gaffs ∈ gT := gT_3 175 rfl rfl
set_option maxRecDepth 20000 in
theorem lqX8_gaffs : Cond.sameMethod RX8 RX8 "gaffs" "()I" ∈ gT := gT_3 176 rfl rfl
set_option maxRecDepth 20000 in
theorem lvX0_X0_gaffs_o : Cond.selects RX0 yX8_gaffs yX0_gaffs ∈ gT := gT_3 177 rfl rfl
set_option maxRecDepth 20000 in
theorem lvX1_X1_gaffs_o : Cond.selects RX1 yX8_gaffs yX1_gaffs ∈ gT := gT_3 180 rfl rfl
set_option maxRecDepth 20000 in
theorem lmX1_20 : Cond.methodLink RX1 20 yX4_gaffs ∈ gT := gT_3 183 rfl rfl
set_option maxRecDepth 20000 in
theorem lvX4_X4_gaffs_o : Cond.selects RX4 yX8_gaffs yX4_gaffs ∈ gT := gT_3 186 rfl rfl
set_option maxRecDepth 20000 in
theorem lvX7_X7_gaffs_o : Cond.selects RX7 yX8_gaffs yX7_gaffs ∈ gT := gT_3 187 rfl rfl
set_option maxRecDepth 20000 in
theorem lmX7_11 : Cond.methodLink RX7 11 yX10_gaffs ∈ gT := gT_3 190 rfl rfl
set_option maxRecDepth 20000 in
theorem lvX10_X10_gaffs_o : Cond.selects RX10 yX8_gaffs yX10_gaffs ∈ gT := gT_3 193 rfl rfl
set_option maxRecDepth 20000 in
theorem lmX11_166 : Cond.methodLink RX11 166 yX11_lookHours ∈ gT := gT_3 195 rfl rfl
set_option maxRecDepth 20000 in
theorem lmX11_296 : Cond.methodLink RX11 296 yX11_tellValues ∈ gT := gT_3 199 rfl rfl
set_option maxRecDepth 20000 in
theorem lmX11_299 : Cond.methodLink RX11 299 yX11_ruleSays ∈ gT := gT_3 203 rfl rfl
set_option maxRecDepth 20000 in
theorem lcX11_71 : Cond.classLink RX11 71 RX9 ∈ gT := gT_3 207 rfl rfl
set_option maxRecDepth 20000 in
theorem lmX11_337 : Cond.methodLink RX11 337 yX9_comesTo ∈ gT := gT_3 208 rfl rfl
set_option maxRecDepth 20000 in
theorem lvX9_X9_comesTo : Cond.selects RX9 yX9_comesTo yX9_comesTo ∈ gT := gT_3 210 rfl rfl
set_option maxRecDepth 20000 in
theorem lmX9_25 : Cond.methodLink RX9 25 yX9_step ∈ gT := gT_3 212 rfl rfl
set_option maxRecDepth 20000 in
theorem lmX9_29 : Cond.methodLink RX9 29 yX9_push ∈ gT := gT_3 216 rfl rfl
set_option maxRecDepth 20000 in
theorem lmX9_33 : Cond.methodLink RX9 33 yX9_alter ∈ gT := gT_3 220 rfl rfl
set_option maxRecDepth 20000 in
theorem lmX9_36 : Cond.methodLink RX9 36 yX9_joined ∈ gT := gT_3 224 rfl rfl
set_option maxRecDepth 20000 in
theorem lmX11_341 : Cond.methodLink RX11 341 yJ9_min_7cf53 ∈ gT := gT_3 227 rfl rfl
set_option maxRecDepth 20000 in
theorem lmX11_346 : Cond.methodLink RX11 346 yJ9_max_7cf53 ∈ gT := gT_3 228 rfl rfl
set_option maxRecDepth 20000 in
theorem lmL_28 : Cond.methodLink RL 28 yX11_wins ∈ gT := gT_3 229 rfl rfl
set_option maxRecDepth 20000 in
theorem lvX11_X11_wins : Cond.selects RX11 yX11_wins yX11_wins ∈ gT := gT_3 231 rfl rfl
set_option maxRecDepth 20000 in
theorem lmX11_170 : Cond.methodLink RX11 170 yX8_pays ∈ gT := gT_3 233 rfl rfl
set_option maxRecDepth 20000 in
theorem lvX8_X8_pays : Cond.selects RX8 yX8_pays yX8_pays ∈ gT := gT_3 235 rfl rfl
set_option maxRecDepth 20000 in
theorem lqX8_pays : Cond.sameMethod RX8 RX8 "pays" "(III)Z" ∈ gT := gT_3 236 rfl rfl
set_option maxRecDepth 20000 in
theorem lvX0_X0_pays_o : Cond.selects RX0 yX8_pays yX0_pays ∈ gT := gT_3 237 rfl rfl
set_option maxRecDepth 20000 in
theorem lmX0_7 : Cond.methodLink RX0 7 yX8_pays ∈ gT := gT_4 0 rfl rfl
set_option maxRecDepth 20000 in
theorem lvX1_X1_pays_o : Cond.selects RX1 yX8_pays yX1_pays ∈ gT := gT_4 1 rfl rfl
set_option maxRecDepth 20000 in
theorem lmX1_7 : Cond.methodLink RX1 7 yX4_pays ∈ gT := gT_4 4 rfl rfl
set_option maxRecDepth 20000 in
theorem lmX4_13 : Cond.methodLink RX4 13 ⟨"ThreeBalls$Heavy", "isWithin", "(III)Z"⟩ ∈ gT := gT_4 7 rfl rfl
set_option maxRecDepth 20000 in
theorem lqX4_isWithin : Cond.sameMethod RX4 RX8 "isWithin" "(III)Z" ∈ gT := gT_4 8 rfl rfl
set_option maxRecDepth 20000 in
theorem lmX1_17 : Cond.methodLink RX1 17 ⟨"ThreeBalls$Gaffed", "isWithin", "(III)Z"⟩ ∈ gT := gT_4 11 rfl rfl
set_option maxRecDepth 20000 in
theorem lqX1_isWithin : Cond.sameMethod RX1 RX8 "isWithin" "(III)Z" ∈ gT := gT_4 12 rfl rfl
set_option maxRecDepth 20000 in
theorem lvX4_X4_pays_o : Cond.selects RX4 yX8_pays yX4_pays ∈ gT := gT_4 13 rfl rfl
set_option maxRecDepth 20000 in
theorem lvX7_X7_pays_o : Cond.selects RX7 yX8_pays yX7_pays ∈ gT := gT_4 14 rfl rfl
set_option maxRecDepth 20000 in
theorem lmX7_7 : Cond.methodLink RX7 7 yX10_pays ∈ gT := gT_4 17 rfl rfl
set_option maxRecDepth 20000 in
theorem lmX10_7 : Cond.methodLink RX10 7 yX8_pays ∈ gT := gT_4 20 rfl rfl
set_option maxRecDepth 20000 in
theorem lvX10_X10_pays_o : Cond.selects RX10 yX8_pays yX10_pays ∈ gT := gT_4 21 rfl rfl
set_option maxRecDepth 20000 in
theorem lmX8_34 : Cond.methodLink RX8 34 yX8_isWithin ∈ gT := gT_4 23 rfl rfl
set_option maxRecDepth 20000 in
theorem lmX11_173 : Cond.methodLink RX11 173 yX11_asBit ∈ gT := gT_4 24 rfl rfl
set_option maxRecDepth 20000 in
theorem lmL_32 : Cond.methodLink RL 32 yX11_hand ∈ gT := gT_4 27 rfl rfl
set_option maxRecDepth 20000 in
theorem lvX11_X11_hand : Cond.selects RX11 yX11_hand yX11_hand ∈ gT := gT_4 29 rfl rfl
set_option maxRecDepth 20000 in
theorem lcX11_177 : Cond.classLink RX11 177 RX3 ∈ gT := gT_4 31 rfl rfl
set_option maxRecDepth 20000 in
theorem lxX3 : Cond.instantiable RX3 5 ∈ gT := gT_4 32 rfl rfl
set_option maxRecDepth 20000 in
theorem lmX11_179 : Cond.methodLink RX11 179 yX3_init ∈ gT := gT_4 33 rfl rfl
set_option maxRecDepth 20000 in
theorem lmX3_1 : Cond.methodLink RX3 1 ⟨"java/lang/Object", "<init>", "()V"⟩ ∈ gT := gT_4 36 rfl rfl
set_option maxRecDepth 20000 in
theorem lpX3 : Cond.superclass RX3 "java/lang/Object" ∈ gT := gT_4 60 rfl rfl
set_option maxRecDepth 20000 in
theorem lmL_36 : Cond.methodLink RL 36 yX11_odds ∈ gT := gT_4 61 rfl rfl
set_option maxRecDepth 20000 in
theorem lvX11_X11_odds : Cond.selects RX11 yX11_odds yX11_odds ∈ gT := gT_4 63 rfl rfl
set_option maxRecDepth 20000 in
theorem lmX11_182 : Cond.methodLink RX11 182 yX11_handAt ∈ gT := gT_4 65 rfl rfl
set_option maxRecDepth 20000 in
theorem lkX11_189 : Cond.constantLong RX11 189 (-4611686018427387904) ∈ gT := gT_4 69 rfl rfl
set_option maxRecDepth 20000 in
theorem lmX11_191 : Cond.methodLink RX11 191 yX2_fill ∈ gT := gT_4 70 rfl rfl
set_option maxRecDepth 20000 in
theorem lvX2_X2_fill : Cond.selects RX2 yX2_fill yX2_fill ∈ gT := gT_4 72 rfl rfl
set_option maxRecDepth 20000 in
theorem lmX2_26 : Cond.methodLink RX2 26 yX8_pays ∈ gT := gT_4 74 rfl rfl
set_option maxRecDepth 20000 in
theorem lmX11_195 : Cond.methodLink RX11 195 yX2_winning ∈ gT := gT_4 75 rfl rfl
set_option maxRecDepth 20000 in
theorem lvX2_X2_winning : Cond.selects RX2 yX2_winning yX2_winning ∈ gT := gT_4 77 rfl rfl
set_option maxRecDepth 20000 in
theorem lmX2_41 : Cond.methodLink RX2 41 yX2_line ∈ gT := gT_4 79 rfl rfl
set_option maxRecDepth 20000 in
theorem lmX2_53 : Cond.methodLink RX2 53 yJ9_min_7cf53 ∈ gT := gT_4 82 rfl rfl
set_option maxRecDepth 20000 in
theorem lmX2_58 : Cond.methodLink RX2 58 yJ9_max_7cf53 ∈ gT := gT_4 83 rfl rfl
set_option maxRecDepth 20000 in
theorem lmX2_45 : Cond.methodLink RX2 45 yX2_sum ∈ gT := gT_4 84 rfl rfl
set_option maxRecDepth 20000 in
theorem lmX11_202 : Cond.methodLink RX11 202 yX11_lowest ∈ gT := gT_4 89 rfl rfl
set_option maxRecDepth 20000 in
theorem lmX11_435 : Cond.methodLink RX11 435 yJ9_abs_067f4 ∈ gT := gT_4 92 rfl rfl
set_option maxRecDepth 20000 in
theorem lmX11_438 : Cond.methodLink RX11 438 yX11_commonDivisor ∈ gT := gT_4 95 rfl rfl
set_option maxRecDepth 20000 in
theorem lmX11_267 : Cond.methodLink RX11 267 yX11_quotient ∈ gT := gT_4 98 rfl rfl
set_option maxRecDepth 20000 in
theorem lmL_41 : Cond.methodLink RL 41 yX11_best ∈ gT := gT_4 101 rfl rfl
set_option maxRecDepth 20000 in
theorem lvX11_X11_best : Cond.selects RX11 yX11_best yX11_best ∈ gT := gT_4 103 rfl rfl
set_option maxRecDepth 20000 in
theorem lmX11_206 : Cond.methodLink RX11 206 yX2_bestAim ∈ gT := gT_4 105 rfl rfl
set_option maxRecDepth 20000 in
theorem lvX2_X2_bestAim : Cond.selects RX2 yX2_bestAim yX2_bestAim ∈ gT := gT_4 107 rfl rfl
set_option maxRecDepth 20000 in
theorem lmX2_49 : Cond.methodLink RX2 49 yX2_winning ∈ gT := gT_4 109 rfl rfl
set_option maxRecDepth 20000 in
theorem lmL_46 : Cond.methodLink RL 46 yX11_tried ∈ gT := gT_4 110 rfl rfl
set_option maxRecDepth 20000 in
theorem lvX11_X11_tried : Cond.selects RX11 yX11_tried yX11_tried ∈ gT := gT_4 112 rfl rfl
set_option maxRecDepth 20000 in
theorem lmX11_228 : Cond.methodLink RX11 228 yX11_isSeed ∈ gT := gT_4 114 rfl rfl
set_option maxRecDepth 20000 in
theorem lkX11_434 : Cond.constant RX11 434 (99999) ∈ gT := gT_4 117 rfl rfl
set_option maxRecDepth 20000 in
theorem lmX11_231 : Cond.methodLink RX11 231 yX11_firstLot ∈ gT := gT_4 118 rfl rfl
set_option maxRecDepth 20000 in
theorem lkX11_253 : Cond.constantLong RX11 253 (48271) ∈ gT := gT_4 121 rfl rfl
set_option maxRecDepth 20000 in
theorem lkX11_255 : Cond.constantLong RX11 255 (2147483647) ∈ gT := gT_4 122 rfl rfl
set_option maxRecDepth 20000 in
theorem lmX11_235 : Cond.methodLink RX11 235 yX11_lands ∈ gT := gT_4 123 rfl rfl
set_option maxRecDepth 20000 in
theorem lmX11_260 : Cond.methodLink RX11 260 yX11_remainder ∈ gT := gT_4 126 rfl rfl
set_option maxRecDepth 20000 in
theorem lmX11_239 : Cond.methodLink RX11 239 yX11_keepTry ∈ gT := gT_4 129 rfl rfl
set_option maxRecDepth 20000 in
theorem lmL_50 : Cond.methodLink RL 50 yX11_shown ∈ gT := gT_4 133 rfl rfl
set_option maxRecDepth 20000 in
theorem lvX11_X11_shown : Cond.selects RX11 yX11_shown yX11_shown ∈ gT := gT_4 135 rfl rfl
set_option maxRecDepth 20000 in
theorem lmX11_242 : Cond.methodLink RX11 242 yX11_isTry ∈ gT := gT_4 137 rfl rfl
set_option maxRecDepth 20000 in
theorem lmL_54 : Cond.methodLink RL 54 yX11_tryTold ∈ gT := gT_4 141 rfl rfl
set_option maxRecDepth 20000 in
theorem lvX11_X11_tryTold : Cond.selects RX11 yX11_tryTold yX11_tryTold ∈ gT := gT_4 143 rfl rfl
set_option maxRecDepth 20000 in
theorem lmX11_246 : Cond.methodLink RX11 246 yX11_tryField ∈ gT := gT_4 145 rfl rfl
set_option maxRecDepth 20000 in
theorem lmL_58 : Cond.methodLink RL 58 yX11_setAll ∈ gT := gT_4 149 rfl rfl
set_option maxRecDepth 20000 in
theorem lvX11_X11_setAll : Cond.selects RX11 yX11_setAll yX11_setAll ∈ gT := gT_4 151 rfl rfl
set_option maxRecDepth 20000 in
theorem lmX11_250 : Cond.methodLink RX11 250 yX11_waysOfTry ∈ gT := gT_4 153 rfl rfl
set_option maxRecDepth 20000 in
theorem lmL_62 : Cond.methodLink RL 62 yX11_worth ∈ gT := gT_4 157 rfl rfl
set_option maxRecDepth 20000 in
theorem lvX11_X11_worth : Cond.selects RX11 yX11_worth yX11_worth ∈ gT := gT_4 159 rfl rfl
set_option maxRecDepth 20000 in
theorem lmL_67 : Cond.methodLink RL 67 yX11_leaves ∈ gT := gT_4 161 rfl rfl
set_option maxRecDepth 20000 in
theorem lvX11_X11_leaves : Cond.selects RX11 yX11_leaves yX11_leaves ∈ gT := gT_4 163 rfl rfl
set_option maxRecDepth 20000 in
theorem lmX11_280 : Cond.methodLink RX11 280 yX11_mostWinning ∈ gT := gT_4 165 rfl rfl
set_option maxRecDepth 20000 in
theorem lmL_74 : Cond.methodLink RL 74 yX11_feed ∈ gT := gT_4 169 rfl rfl
set_option maxRecDepth 20000 in
theorem lvX11_X11_feed : Cond.selects RX11 yX11_feed yX11_feed ∈ gT := gT_4 171 rfl rfl
set_option maxRecDepth 20000 in
theorem lmX11_285 : Cond.methodLink RX11 285 yX6_put ∈ gT := gT_4 173 rfl rfl
set_option maxRecDepth 20000 in
theorem lmL_79 : Cond.methodLink RL 79 yX11_text ∈ gT := gT_4 174 rfl rfl
set_option maxRecDepth 20000 in
theorem lvX11_X11_text : Cond.selects RX11 yX11_text yX11_text ∈ gT := gT_4 176 rfl rfl
set_option maxRecDepth 20000 in
theorem lmL_84 : Cond.methodLink RL 84 yX11_force ∈ gT := gT_4 178 rfl rfl
set_option maxRecDepth 20000 in
theorem lvX11_X11_force : Cond.selects RX11 yX11_force yX11_force ∈ gT := gT_4 180 rfl rfl
set_option maxRecDepth 20000 in
theorem lmL_89 : Cond.methodLink RL 89 yX11_says ∈ gT := gT_4 182 rfl rfl
set_option maxRecDepth 20000 in
theorem lvX11_X11_says : Cond.selects RX11 yX11_says yX11_says ∈ gT := gT_4 184 rfl rfl
set_option maxRecDepth 20000 in
theorem lmX11_292 : Cond.methodLink RX11 292 yX11_thousandths ∈ gT := gT_4 186 rfl rfl
set_option maxRecDepth 20000 in
theorem lkX11_335 : Cond.constantLong RX11 335 (1000) ∈ gT := gT_4 190 rfl rfl
set_option maxRecDepth 20000 in
theorem lmL_93 : Cond.methodLink RL 93 yX11_player ∈ gT := gT_4 191 rfl rfl
set_option maxRecDepth 20000 in
theorem lvX11_X11_player : Cond.selects RX11 yX11_player yX11_player ∈ gT := gT_4 193 rfl rfl
set_option maxRecDepth 20000 in
theorem lmX11_303 : Cond.methodLink RX11 303 yX11_isPlayer ∈ gT := gT_4 195 rfl rfl
set_option maxRecDepth 20000 in
theorem lmX11_306 : Cond.methodLink RX11 306 yX11_askPlayer ∈ gT := gT_4 199 rfl rfl
set_option maxRecDepth 20000 in
theorem lmX11_323 : Cond.methodLink RX11 323 yJ7_fill_d0a16 ∈ gT := gT_4 203 rfl rfl
set_option maxRecDepth 20000 in
theorem lmX11_310 : Cond.methodLink RX11 310 yX11_winningThrows ∈ gT := gT_4 206 rfl rfl
set_option maxRecDepth 20000 in
theorem lmX11_328 : Cond.methodLink RX11 328 yX11_nextLot ∈ gT := gT_4 209 rfl rfl
set_option maxRecDepth 20000 in
theorem lmX11_314 : Cond.methodLink RX11 314 yX11_playOut ∈ gT := gT_4 212 rfl rfl
set_option maxRecDepth 20000 in
theorem lmX11_332 : Cond.methodLink RX11 332 yX11_goesOn ∈ gT := gT_4 216 rfl rfl
set_option maxRecDepth 20000 in
theorem lmL_97 : Cond.methodLink RL 97 yX11_most ∈ gT := gT_4 220 rfl rfl
set_option maxRecDepth 20000 in
theorem lvX11_X11_most : Cond.selects RX11 yX11_most yX11_most ∈ gT := gT_4 222 rfl rfl
set_option maxRecDepth 20000 in
theorem lmX11_318 : Cond.methodLink RX11 318 yJ6_bitCount_0f7a4 ∈ gT := gT_4 224 rfl rfl
set_option maxRecDepth 20000 in
theorem lkJ6_265 : Cond.constant RJ6 265 (1431655765) ∈ gT := gT_4 227 rfl rfl
set_option maxRecDepth 20000 in
theorem lkJ6_266 : Cond.constant RJ6 266 (858993459) ∈ gT := gT_4 228 rfl rfl
set_option maxRecDepth 20000 in
theorem lkJ6_267 : Cond.constant RJ6 267 (252645135) ∈ gT := gT_4 229 rfl rfl
set_option maxRecDepth 20000 in
theorem lmL_102 : Cond.methodLink RL 102 yX11_test ∈ gT := gT_4 230 rfl rfl
set_option maxRecDepth 20000 in
theorem lvX11_X11_test : Cond.selects RX11 yX11_test yX11_test ∈ gT := gT_4 232 rfl rfl
set_option maxRecDepth 20000 in
theorem lmX11_349 : Cond.methodLink RX11 349 yX11_areAnswers ∈ gT := gT_4 234 rfl rfl
set_option maxRecDepth 20000 in
theorem lkX11_394 : Cond.constant RX11 394 (999999) ∈ gT := gT_4 237 rfl rfl
set_option maxRecDepth 20000 in
theorem lmX11_395 : Cond.methodLink RX11 395 yX11_answerOf ∈ gT := gT_4 238 rfl rfl
set_option maxRecDepth 20000 in
theorem lmL_106 : Cond.methodLink RL 106 yX11_find ∈ gT := gT_5 3 rfl rfl
set_option maxRecDepth 20000 in
theorem lvX11_X11_find : Cond.selects RX11 yX11_find yX11_find ∈ gT := gT_5 5 rfl rfl
set_option maxRecDepth 20000 in
theorem lmX11_352 : Cond.methodLink RX11 352 yX11_allStalls ∈ gT := gT_5 7 rfl rfl
set_option maxRecDepth 20000 in
theorem lmX11_355 : Cond.methodLink RX11 355 yX11_hoursOfTests ∈ gT := gT_5 11 rfl rfl
set_option maxRecDepth 20000 in
theorem lmX11_401 : Cond.methodLink RX11 401 yX11_isOf ∈ gT := gT_5 15 rfl rfl
set_option maxRecDepth 20000 in
theorem lmX11_358 : Cond.methodLink RX11 358 yX11_areParted ∈ gT := gT_5 18 rfl rfl
set_option maxRecDepth 20000 in
theorem lmX11_404 : Cond.methodLink RX11 404 yX11_arePartedKinds ∈ gT := gT_5 22 rfl rfl
set_option maxRecDepth 20000 in
theorem lmL_110 : Cond.methodLink RL 110 yX11_year ∈ gT := gT_5 26 rfl rfl
set_option maxRecDepth 20000 in
theorem lvX11_X11_year : Cond.selects RX11 yX11_year yX11_year ∈ gT := gT_5 28 rfl rfl
set_option maxRecDepth 20000 in
theorem lmX11_361 : Cond.methodLink RX11 361 yX11_hoursOfLooks ∈ gT := gT_5 30 rfl rfl
set_option maxRecDepth 20000 in
theorem lmX11_364 : Cond.methodLink RX11 364 yX11_gaffsOf ∈ gT := gT_5 34 rfl rfl
set_option maxRecDepth 20000 in
theorem lmL_114 : Cond.methodLink RL 114 yX11_make ∈ gT := gT_5 38 rfl rfl
set_option maxRecDepth 20000 in
theorem lvX11_X11_make : Cond.selects RX11 yX11_make yX11_make ∈ gT := gT_5 40 rfl rfl
set_option maxRecDepth 20000 in
theorem lmL_118 : Cond.methodLink RL 118 yX11_walk ∈ gT := gT_5 42 rfl rfl
set_option maxRecDepth 20000 in
theorem lvX11_X11_walk : Cond.selects RX11 yX11_walk yX11_walk ∈ gT := gT_5 44 rfl rfl
set_option maxRecDepth 20000 in
theorem lkX11_367 : Cond.constant RX11 367 (1000000) ∈ gT := gT_5 46 rfl rfl
set_option maxRecDepth 20000 in
theorem lmX11_368 : Cond.methodLink RX11 368 yX11_leastFail ∈ gT := gT_5 47 rfl rfl
set_option maxRecDepth 20000 in
theorem lmX11_407 : Cond.methodLink RX11 407 yX11_failAfter ∈ gT := gT_5 51 rfl rfl
set_option maxRecDepth 20000 in
theorem lmX11_372 : Cond.methodLink RX11 372 yX11_firstOfWalk ∈ gT := gT_5 55 rfl rfl
set_option maxRecDepth 20000 in
theorem lmL_122 : Cond.methodLink RL 122 yX11_image ∈ gT := gT_5 59 rfl rfl
set_option maxRecDepth 20000 in
theorem lvX11_X11_image : Cond.selects RX11 yX11_image yX11_image ∈ gT := gT_5 61 rfl rfl
set_option maxRecDepth 20000 in
theorem lmX11_384 : Cond.methodLink RX11 384 yX5_keep ∈ gT := gT_5 63 rfl rfl
set_option maxRecDepth 20000 in
theorem lvX5_X5_keep : Cond.selects RX5 yX5_keep yX5_keep ∈ gT := gT_5 65 rfl rfl
set_option maxRecDepth 20000 in
theorem lmX5_33 : Cond.methodLink RX5 33 yX8_changeable ∈ gT := gT_5 68 rfl rfl
set_option maxRecDepth 20000 in
theorem lmL_126 : Cond.methodLink RL 126 yX11_back ∈ gT := gT_5 69 rfl rfl
set_option maxRecDepth 20000 in
theorem lvX11_X11_back : Cond.selects RX11 yX11_back yX11_back ∈ gT := gT_5 71 rfl rfl
set_option maxRecDepth 20000 in
theorem lmX11_388 : Cond.methodLink RX11 388 yX5_layBack ∈ gT := gT_5 73 rfl rfl
set_option maxRecDepth 20000 in
theorem lvX5_X5_layBack : Cond.selects RX5 yX5_layBack yX5_layBack ∈ gT := gT_5 75 rfl rfl
set_option maxRecDepth 20000 in
theorem lmX5_39 : Cond.methodLink RX5 39 yX8_change ∈ gT := gT_5 77 rfl rfl
set_option maxRecDepth 20000 in
theorem lmL_130 : Cond.methodLink RL 130 yX11_count ∈ gT := gT_5 78 rfl rfl
set_option maxRecDepth 20000 in
theorem lvX11_X11_count : Cond.selects RX11 yX11_count yX11_count ∈ gT := gT_5 80 rfl rfl
set_option maxRecDepth 20000 in
theorem lmX11_391 : Cond.methodLink RX11 391 yX11_triesWon ∈ gT := gT_5 82 rfl rfl
set_option maxRecDepth 20000 in
theorem lmL_134 : Cond.methodLink RL 134 yX11_sheet ∈ gT := gT_5 86 rfl rfl
set_option maxRecDepth 20000 in
theorem lvX11_X11_sheet : Cond.selects RX11 yX11_sheet yX11_sheet ∈ gT := gT_5 88 rfl rfl
set_option maxRecDepth 20000 in
theorem lmX11_410 : Cond.methodLink RX11 410 yX11_isSheet ∈ gT := gT_5 90 rfl rfl
set_option maxRecDepth 20000 in
theorem lmL_138 : Cond.methodLink RL 138 yX11_cell ∈ gT := gT_5 93 rfl rfl
set_option maxRecDepth 20000 in
theorem lvX11_X11_cell : Cond.selects RX11 yX11_cell yX11_cell ∈ gT := gT_5 95 rfl rfl
set_option maxRecDepth 20000 in
theorem lmX11_413 : Cond.methodLink RX11 413 yX11_ofSort ∈ gT := gT_5 97 rfl rfl
set_option maxRecDepth 20000 in
theorem lmL_142 : Cond.methodLink RL 142 yX11_copy ∈ gT := gT_5 100 rfl rfl
set_option maxRecDepth 20000 in
theorem lvX11_X11_copy : Cond.selects RX11 yX11_copy yX11_copy ∈ gT := gT_5 102 rfl rfl
set_option maxRecDepth 20000 in
theorem lmX11_416 : Cond.methodLink RX11 416 yX11_hasItems ∈ gT := gT_5 104 rfl rfl
set_option maxRecDepth 20000 in
theorem lmX11_420 : Cond.methodLink RX11 420 ⟨"java/lang/System", "arraycopy", "(Ljava/lang/Object;ILjava/lang/Object;II)V"⟩ ∈ gT := gT_5 107 rfl rfl
set_option maxRecDepth 20000 in
theorem lmL_146 : Cond.methodLink RL 146 yX11_tries ∈ gT := gT_5 108 rfl rfl
set_option maxRecDepth 20000 in
theorem lvX11_X11_tries : Cond.selects RX11 yX11_tries yX11_tries ∈ gT := gT_5 110 rfl rfl
set_option maxRecDepth 20000 in
theorem lmX11_426 : Cond.methodLink RX11 426 yX11_shown ∈ gT := gT_5 112 rfl rfl
set_option maxRecDepth 20000 in
theorem lmL_150 : Cond.methodLink RL 150 yX11_taken ∈ gT := gT_5 113 rfl rfl
set_option maxRecDepth 20000 in
theorem lvX11_X11_taken : Cond.selects RX11 yX11_taken yX11_taken ∈ gT := gT_5 115 rfl rfl
set_option maxRecDepth 20000 in
theorem lmX11_430 : Cond.methodLink RX11 430 yX11_isUnder ∈ gT := gT_5 117 rfl rfl
set_option maxRecDepth 20000 in
theorem lcL_10 : Cond.classLink RL 10 RX12 ∈ gT := gT_5 120 rfl rfl
set_option maxRecDepth 20000 in
theorem lxX12 : Cond.instantiable RX12 57 ∈ gT := gT_5 121 rfl rfl
set_option maxRecDepth 20000 in
theorem lmL_12 : Cond.methodLink RL 12 yX12_init ∈ gT := gT_5 122 rfl rfl
set_option maxRecDepth 20000 in
theorem lmX12_7 : Cond.methodLink RX12 7 ⟨"java/lang/Object", "<init>", "()V"⟩ ∈ gT := gT_5 125 rfl rfl
set_option maxRecDepth 20000 in
theorem lkX12_99 : Cond.constantLong RX12 99 (8100957002595857001) ∈ gT := gT_5 126 rfl rfl
set_option maxRecDepth 20000 in
theorem lmX12_101 : Cond.methodLink RX12 101 yX12_spell ∈ gT := gT_5 127 rfl rfl
set_option maxRecDepth 20000 in
theorem lkX12_120 : Cond.constantLong RX12 120 (255) ∈ gT := gT_5 131 rfl rfl
set_option maxRecDepth 20000 in
theorem lkX12_105 : Cond.constantLong RX12 105 (7162166225016939620) ∈ gT := gT_5 132 rfl rfl
set_option maxRecDepth 20000 in
theorem lkX12_107 : Cond.constantLong RX12 107 (8295677931991426413) ∈ gT := gT_5 133 rfl rfl
set_option maxRecDepth 20000 in
theorem lkX12_109 : Cond.constantLong RX12 109 (8295695524177865068) ∈ gT := gT_5 134 rfl rfl
set_option maxRecDepth 20000 in
theorem lkX12_111 : Cond.constantLong RX12 111 (7791290272867688559) ∈ gT := gT_5 135 rfl rfl
set_option maxRecDepth 20000 in
theorem lkX12_113 : Cond.constantLong RX12 113 (7234033483731987557) ∈ gT := gT_5 136 rfl rfl
set_option maxRecDepth 20000 in
theorem lkX12_115 : Cond.constantLong RX12 115 (7022911857885199136) ∈ gT := gT_5 137 rfl rfl
set_option maxRecDepth 20000 in
theorem lpX12 : Cond.superclass RX12 "java/lang/Object" ∈ gT := gT_6 68 rfl rfl
set_option maxRecDepth 20000 in
theorem la_boolean : Cond.arrayClass .boolean ∈ gT := gT_6 69 rfl rfl
set_option maxRecDepth 20000 in
theorem lmL_17 : Cond.methodLink RL 17 yX12_stall ∈ gT := gT_6 70 rfl rfl
set_option maxRecDepth 20000 in
theorem lvX12_X12_stall : Cond.selects RX12 yX12_stall yX12_stall ∈ gT := gT_6 72 rfl rfl
set_option maxRecDepth 20000 in
theorem lkX12_132 : Cond.constantLong RX12 132 (5) ∈ gT := gT_6 74 rfl rfl
set_option maxRecDepth 20000 in
theorem lmX12_125 : Cond.methodLink RX12 125 yX12_in ∈ gT := gT_6 75 rfl rfl
set_option maxRecDepth 20000 in
theorem lmX12_134 : Cond.methodLink RX12 134 yX12_isPlace ∈ gT := gT_6 78 rfl rfl
set_option maxRecDepth 20000 in
theorem lkX12_138 : Cond.constantLong RX12 138 (9) ∈ gT := gT_6 81 rfl rfl
set_option maxRecDepth 20000 in
theorem lkX12_140 : Cond.constantLong RX12 140 (99) ∈ gT := gT_6 82 rfl rfl
set_option maxRecDepth 20000 in
theorem lmL_22 : Cond.methodLink RL 22 yX12_set ∈ gT := gT_6 83 rfl rfl
set_option maxRecDepth 20000 in
theorem lvX12_X12_set : Cond.selects RX12 yX12_set yX12_set ∈ gT := gT_6 85 rfl rfl
set_option maxRecDepth 20000 in
theorem lmX12_142 : Cond.methodLink RX12 142 yX12_isStall ∈ gT := gT_6 87 rfl rfl
set_option maxRecDepth 20000 in
theorem lkX12_145 : Cond.constantLong RX12 145 (3) ∈ gT := gT_6 91 rfl rfl
set_option maxRecDepth 20000 in
theorem lkX12_147 : Cond.constantLong RX12 147 (999) ∈ gT := gT_6 92 rfl rfl
set_option maxRecDepth 20000 in
theorem lmL_27 : Cond.methodLink RL 27 yX12_told ∈ gT := gT_6 93 rfl rfl
set_option maxRecDepth 20000 in
theorem lvX12_X12_told : Cond.selects RX12 yX12_told yX12_told ∈ gT := gT_6 95 rfl rfl
set_option maxRecDepth 20000 in
theorem lmX12_156 : Cond.methodLink RX12 156 yX12_seenOf ∈ gT := gT_6 97 rfl rfl
set_option maxRecDepth 20000 in
theorem lmX12_160 : Cond.methodLink RX12 160 yX12_hoursOf ∈ gT := gT_6 101 rfl rfl
set_option maxRecDepth 20000 in
theorem lmX12_152 : Cond.methodLink RX12 152 yX12_read ∈ gT := gT_6 105 rfl rfl
set_option maxRecDepth 20000 in
theorem lmX12_296 : Cond.methodLink RX12 296 yX12_next ∈ gT := gT_6 109 rfl rfl
set_option maxRecDepth 20000 in
theorem lmX12_254 : Cond.methodLink RX12 254 yX12_byteAt ∈ gT := gT_6 113 rfl rfl
set_option maxRecDepth 20000 in
theorem lkX12_263 : Cond.constantLong RX12 263 (97) ∈ gT := gT_6 117 rfl rfl
set_option maxRecDepth 20000 in
theorem lkX12_265 : Cond.constantLong RX12 265 (122) ∈ gT := gT_6 118 rfl rfl
set_option maxRecDepth 20000 in
theorem lkX12_271 : Cond.constantLong RX12 271 (27) ∈ gT := gT_6 119 rfl rfl
set_option maxRecDepth 20000 in
theorem lkX12_273 : Cond.constantLong RX12 273 (96) ∈ gT := gT_6 120 rfl rfl
set_option maxRecDepth 20000 in
theorem lkX12_275 : Cond.constantLong RX12 275 (-1) ∈ gT := gT_6 121 rfl rfl
set_option maxRecDepth 20000 in
theorem lkX12_277 : Cond.constantLong RX12 277 (48) ∈ gT := gT_6 122 rfl rfl
set_option maxRecDepth 20000 in
theorem lkX12_279 : Cond.constantLong RX12 279 (57) ∈ gT := gT_6 123 rfl rfl
set_option maxRecDepth 20000 in
theorem lkX12_281 : Cond.constantLong RX12 281 (10) ∈ gT := gT_6 124 rfl rfl
set_option maxRecDepth 20000 in
theorem lkX12_366 : Cond.constantLong RX12 366 (323728) ∈ gT := gT_6 125 rfl rfl
set_option maxRecDepth 20000 in
theorem lmX12_368 : Cond.methodLink RX12 368 yX12_part ∈ gT := gT_6 126 rfl rfl
set_option maxRecDepth 20000 in
theorem lmX12_301 : Cond.methodLink RX12 301 yX12_isWord ∈ gT := gT_6 130 rfl rfl
set_option maxRecDepth 20000 in
theorem lmX12_293 : Cond.methodLink RX12 293 yX12_fail ∈ gT := gT_6 134 rfl rfl
set_option maxRecDepth 20000 in
theorem lmX12_338 : Cond.methodLink RX12 338 yX12_either ∈ gT := gT_6 138 rfl rfl
set_option maxRecDepth 20000 in
theorem lmX12_361 : Cond.methodLink RX12 361 yX12_both ∈ gT := gT_6 142 rfl rfl
set_option maxRecDepth 20000 in
theorem lmX12_351 : Cond.methodLink RX12 351 yX12_not ∈ gT := gT_6 146 rfl rfl
set_option maxRecDepth 20000 in
theorem lkX12_349 : Cond.constantLong RX12 349 (10631) ∈ gT := gT_6 150 rfl rfl
set_option maxRecDepth 20000 in
theorem lmX12_330 : Cond.methodLink RX12 330 yX12_opens ∈ gT := gT_6 151 rfl rfl
set_option maxRecDepth 20000 in
theorem lmX12_354 : Cond.methodLink RX12 354 yX12_added ∈ gT := gT_6 155 rfl rfl
set_option maxRecDepth 20000 in
theorem lmX12_344 : Cond.methodLink RX12 344 yX12_term ∈ gT := gT_6 159 rfl rfl
set_option maxRecDepth 20000 in
theorem lmX12_334 : Cond.methodLink RX12 334 yX12_one ∈ gT := gT_6 163 rfl rfl
set_option maxRecDepth 20000 in
theorem lmX12_327 : Cond.methodLink RX12 327 yX12_isSign ∈ gT := gT_6 167 rfl rfl
set_option maxRecDepth 20000 in
theorem lmX12_341 : Cond.methodLink RX12 341 yX12_name ∈ gT := gT_6 171 rfl rfl
set_option maxRecDepth 20000 in
theorem lkX12_299 : Cond.constantLong RX12 299 (298288) ∈ gT := gT_6 175 rfl rfl
set_option maxRecDepth 20000 in
theorem lkX12_308 : Cond.constantLong RX12 308 (8863997) ∈ gT := gT_6 176 rfl rfl
set_option maxRecDepth 20000 in
theorem lkX12_313 : Cond.constantLong RX12 313 (43056) ∈ gT := gT_6 177 rfl rfl
set_option maxRecDepth 20000 in
theorem lkX12_315 : Cond.constantLong RX12 315 (10199809) ∈ gT := gT_6 178 rfl rfl
set_option maxRecDepth 20000 in
theorem lkX12_317 : Cond.constantLong RX12 317 (17186) ∈ gT := gT_6 179 rfl rfl
set_option maxRecDepth 20000 in
theorem lkX12_322 : Cond.constantLong RX12 322 (10989829) ∈ gT := gT_6 180 rfl rfl
set_option maxRecDepth 20000 in
theorem lkX12_347 : Cond.constantLong RX12 347 (43) ∈ gT := gT_6 181 rfl rfl
set_option maxRecDepth 20000 in
theorem lkX12_357 : Cond.constantLong RX12 357 (60) ∈ gT := gT_6 182 rfl rfl
set_option maxRecDepth 20000 in
theorem lkX12_359 : Cond.constantLong RX12 359 (1111) ∈ gT := gT_6 183 rfl rfl
set_option maxRecDepth 20000 in
theorem lkX12_364 : Cond.constantLong RX12 364 (423) ∈ gT := gT_6 184 rfl rfl
set_option maxRecDepth 20000 in
theorem lkX12_372 : Cond.constantLong RX12 372 (10320789) ∈ gT := gT_6 185 rfl rfl
set_option maxRecDepth 20000 in
theorem lkX12_374 : Cond.constantLong RX12 374 (6477035) ∈ gT := gT_6 186 rfl rfl
set_option maxRecDepth 20000 in
theorem lmL_31 : Cond.methodLink RL 31 yX12_wins ∈ gT := gT_6 187 rfl rfl
set_option maxRecDepth 20000 in
theorem lvX12_X12_wins : Cond.selects RX12 yX12_wins yX12_wins ∈ gT := gT_6 189 rfl rfl
set_option maxRecDepth 20000 in
theorem lkX12_170 : Cond.constantLong RX12 170 (-40) ∈ gT := gT_6 191 rfl rfl
set_option maxRecDepth 20000 in
theorem lkX12_172 : Cond.constantLong RX12 172 (40) ∈ gT := gT_6 192 rfl rfl
set_option maxRecDepth 20000 in
theorem lmX12_174 : Cond.methodLink RX12 174 yX12_isWon ∈ gT := gT_6 193 rfl rfl
set_option maxRecDepth 20000 in
theorem lmX12_166 : Cond.methodLink RX12 166 yX12_isIn ∈ gT := gT_6 196 rfl rfl
set_option maxRecDepth 20000 in
theorem lmX12_163 : Cond.methodLink RX12 163 yX12_plain ∈ gT := gT_6 199 rfl rfl
set_option maxRecDepth 20000 in
theorem lmL_35 : Cond.methodLink RL 35 yX12_hand ∈ gT := gT_6 202 rfl rfl
set_option maxRecDepth 20000 in
theorem lvX12_X12_hand : Cond.selects RX12 yX12_hand yX12_hand ∈ gT := gT_6 204 rfl rfl
set_option maxRecDepth 20000 in
theorem lkX12_178 : Cond.constantLong RX12 178 (-5) ∈ gT := gT_6 206 rfl rfl
set_option maxRecDepth 20000 in
theorem lmL_40 : Cond.methodLink RL 40 yX12_odds ∈ gT := gT_6 207 rfl rfl
set_option maxRecDepth 20000 in
theorem lvX12_X12_odds : Cond.selects RX12 yX12_odds yX12_odds ∈ gT := gT_6 209 rfl rfl
set_option maxRecDepth 20000 in
theorem lmX12_187 : Cond.methodLink RX12 187 yX12_isHand ∈ gT := gT_6 211 rfl rfl
set_option maxRecDepth 20000 in
theorem lmX12_190 : Cond.methodLink RX12 190 yX12_isPart ∈ gT := gT_6 215 rfl rfl
set_option maxRecDepth 20000 in
theorem lmX12_193 : Cond.methodLink RX12 193 yX12_winsAt ∈ gT := gT_6 218 rfl rfl
set_option maxRecDepth 20000 in
theorem lmX12_180 : Cond.methodLink RX12 180 yX12_winsOf ∈ gT := gT_6 222 rfl rfl
set_option maxRecDepth 20000 in
theorem lmX12_197 : Cond.methodLink RX12 197 yX12_allOf ∈ gT := gT_6 226 rfl rfl
set_option maxRecDepth 20000 in
theorem lmX12_200 : Cond.methodLink RX12 200 yX12_lowest ∈ gT := gT_6 230 rfl rfl
set_option maxRecDepth 20000 in
theorem lmX12_183 : Cond.methodLink RX12 183 yX12_common ∈ gT := gT_6 233 rfl rfl
set_option maxRecDepth 20000 in
theorem lkX12_204 : Cond.constantLong RX12 204 (-4611686018427387904) ∈ gT := gT_6 236 rfl rfl
set_option maxRecDepth 20000 in
theorem lmL_45 : Cond.methodLink RL 45 yX12_best ∈ gT := gT_6 237 rfl rfl
set_option maxRecDepth 20000 in
theorem lvX12_X12_best : Cond.selects RX12 yX12_best yX12_best ∈ gT := gT_6 239 rfl rfl
set_option maxRecDepth 20000 in
theorem lkX12_213 : Cond.constantLong RX12 213 (2) ∈ gT := gT_7 1 rfl rfl
set_option maxRecDepth 20000 in
theorem lmX12_215 : Cond.methodLink RX12 215 yX12_bestAt ∈ gT := gT_7 2 rfl rfl
set_option maxRecDepth 20000 in
theorem lmX12_209 : Cond.methodLink RX12 209 yX12_bestOf ∈ gT := gT_7 6 rfl rfl
set_option maxRecDepth 20000 in
theorem lmL_49 : Cond.methodLink RL 49 yX12_tried ∈ gT := gT_7 10 rfl rfl
set_option maxRecDepth 20000 in
theorem lvX12_X12_tried : Cond.selects RX12 yX12_tried yX12_tried ∈ gT := gT_7 12 rfl rfl
set_option maxRecDepth 20000 in
theorem lkX12_226 : Cond.constantLong RX12 226 (99999) ∈ gT := gT_7 14 rfl rfl
set_option maxRecDepth 20000 in
theorem lmX12_228 : Cond.methodLink RX12 228 yX12_lotOf ∈ gT := gT_7 15 rfl rfl
set_option maxRecDepth 20000 in
theorem lkX12_219 : Cond.constantLong RX12 219 (48271) ∈ gT := gT_7 18 rfl rfl
set_option maxRecDepth 20000 in
theorem lkX12_221 : Cond.constantLong RX12 221 (2147483647) ∈ gT := gT_7 19 rfl rfl
set_option maxRecDepth 20000 in
theorem lmX12_232 : Cond.methodLink RX12 232 yX12_wonBy ∈ gT := gT_7 20 rfl rfl
set_option maxRecDepth 20000 in
theorem lmX12_236 : Cond.methodLink RX12 236 yX12_keeps ∈ gT := gT_7 24 rfl rfl
set_option maxRecDepth 20000 in
theorem lmL_53 : Cond.methodLink RL 53 yX12_shown ∈ gT := gT_7 28 rfl rfl
set_option maxRecDepth 20000 in
theorem lvX12_X12_shown : Cond.selects RX12 yX12_shown yX12_shown ∈ gT := gT_7 30 rfl rfl
set_option maxRecDepth 20000 in
theorem lmL_57 : Cond.methodLink RL 57 yX12_tryTold ∈ gT := gT_7 32 rfl rfl
set_option maxRecDepth 20000 in
theorem lvX12_X12_tryTold : Cond.selects RX12 yX12_tryTold yX12_tryTold ∈ gT := gT_7 34 rfl rfl
set_option maxRecDepth 20000 in
theorem lmL_61 : Cond.methodLink RL 61 yX12_setAll ∈ gT := gT_7 36 rfl rfl
set_option maxRecDepth 20000 in
theorem lvX12_X12_setAll : Cond.selects RX12 yX12_setAll yX12_setAll ∈ gT := gT_7 38 rfl rfl
set_option maxRecDepth 20000 in
theorem lkX12_240 : Cond.constantLong RX12 240 (8) ∈ gT := gT_7 40 rfl rfl
set_option maxRecDepth 20000 in
theorem lmL_66 : Cond.methodLink RL 66 yX12_worth ∈ gT := gT_7 41 rfl rfl
set_option maxRecDepth 20000 in
theorem lvX12_X12_worth : Cond.selects RX12 yX12_worth yX12_worth ∈ gT := gT_7 43 rfl rfl
set_option maxRecDepth 20000 in
theorem lmL_71 : Cond.methodLink RL 71 yX12_leaves ∈ gT := gT_7 45 rfl rfl
set_option maxRecDepth 20000 in
theorem lvX12_X12_leaves : Cond.selects RX12 yX12_leaves yX12_leaves ∈ gT := gT_7 47 rfl rfl
set_option maxRecDepth 20000 in
theorem lmL_78 : Cond.methodLink RL 78 yX12_feed ∈ gT := gT_7 49 rfl rfl
set_option maxRecDepth 20000 in
theorem lvX12_X12_feed : Cond.selects RX12 yX12_feed yX12_feed ∈ gT := gT_7 51 rfl rfl
set_option maxRecDepth 20000 in
theorem lmL_83 : Cond.methodLink RL 83 yX12_text ∈ gT := gT_7 53 rfl rfl
set_option maxRecDepth 20000 in
theorem lvX12_X12_text : Cond.selects RX12 yX12_text yX12_text ∈ gT := gT_7 55 rfl rfl
set_option maxRecDepth 20000 in
theorem lmL_88 : Cond.methodLink RL 88 yX12_force ∈ gT := gT_7 57 rfl rfl
set_option maxRecDepth 20000 in
theorem lvX12_X12_force : Cond.selects RX12 yX12_force yX12_force ∈ gT := gT_7 59 rfl rfl
set_option maxRecDepth 20000 in
theorem lmL_92 : Cond.methodLink RL 92 yX12_says ∈ gT := gT_7 61 rfl rfl
set_option maxRecDepth 20000 in
theorem lvX12_X12_says : Cond.selects RX12 yX12_says yX12_says ∈ gT := gT_7 63 rfl rfl
set_option maxRecDepth 20000 in
theorem lkX12_376 : Cond.constantLong RX12 376 (9999) ∈ gT := gT_7 65 rfl rfl
set_option maxRecDepth 20000 in
theorem lmX12_378 : Cond.methodLink RX12 378 yX12_thousandths ∈ gT := gT_7 66 rfl rfl
set_option maxRecDepth 20000 in
theorem lmL_96 : Cond.methodLink RL 96 yX12_player ∈ gT := gT_7 70 rfl rfl
set_option maxRecDepth 20000 in
theorem lvX12_X12_player : Cond.selects RX12 yX12_player yX12_player ∈ gT := gT_7 72 rfl rfl
set_option maxRecDepth 20000 in
theorem lmX12_390 : Cond.methodLink RX12 390 yX12_isPlayer ∈ gT := gT_7 74 rfl rfl
set_option maxRecDepth 20000 in
theorem lmX12_394 : Cond.methodLink RX12 394 yX12_plays ∈ gT := gT_7 78 rfl rfl
set_option maxRecDepth 20000 in
theorem lmL_101 : Cond.methodLink RL 101 yX12_most ∈ gT := gT_7 82 rfl rfl
set_option maxRecDepth 20000 in
theorem lvX12_X12_most : Cond.selects RX12 yX12_most yX12_most ∈ gT := gT_7 84 rfl rfl
set_option maxRecDepth 20000 in
theorem lkX12_398 : Cond.constantLong RX12 398 (6) ∈ gT := gT_7 86 rfl rfl
set_option maxRecDepth 20000 in
theorem lmX12_400 : Cond.methodLink RX12 400 yX12_bitsOf ∈ gT := gT_7 87 rfl rfl
set_option maxRecDepth 20000 in
theorem lmL_105 : Cond.methodLink RL 105 yX12_test ∈ gT := gT_7 90 rfl rfl
set_option maxRecDepth 20000 in
theorem lvX12_X12_test : Cond.selects RX12 yX12_test yX12_test ∈ gT := gT_7 92 rfl rfl
set_option maxRecDepth 20000 in
theorem lkX12_403 : Cond.constantLong RX12 403 (20) ∈ gT := gT_7 94 rfl rfl
set_option maxRecDepth 20000 in
theorem lkX12_405 : Cond.constantLong RX12 405 (333333) ∈ gT := gT_7 95 rfl rfl
set_option maxRecDepth 20000 in
theorem lmL_109 : Cond.methodLink RL 109 yX12_find ∈ gT := gT_7 96 rfl rfl
set_option maxRecDepth 20000 in
theorem lvX12_X12_find : Cond.selects RX12 yX12_find yX12_find ∈ gT := gT_7 98 rfl rfl
set_option maxRecDepth 20000 in
theorem lmX12_413 : Cond.methodLink RX12 413 yX12_parts ∈ gT := gT_7 100 rfl rfl
set_option maxRecDepth 20000 in
theorem lmX12_410 : Cond.methodLink RX12 410 yX12_isParted ∈ gT := gT_7 104 rfl rfl
set_option maxRecDepth 20000 in
theorem lmL_113 : Cond.methodLink RL 113 yX12_year ∈ gT := gT_7 108 rfl rfl
set_option maxRecDepth 20000 in
theorem lvX12_X12_year : Cond.selects RX12 yX12_year yX12_year ∈ gT := gT_7 110 rfl rfl
set_option maxRecDepth 20000 in
theorem lkX12_417 : Cond.constantLong RX12 417 (199) ∈ gT := gT_7 112 rfl rfl
set_option maxRecDepth 20000 in
theorem lmL_117 : Cond.methodLink RL 117 yX12_make ∈ gT := gT_7 113 rfl rfl
set_option maxRecDepth 20000 in
theorem lvX12_X12_make : Cond.selects RX12 yX12_make yX12_make ∈ gT := gT_7 115 rfl rfl
set_option maxRecDepth 20000 in
theorem lkX12_419 : Cond.constantLong RX12 419 (1000) ∈ gT := gT_7 117 rfl rfl
set_option maxRecDepth 20000 in
theorem lkX12_421 : Cond.constantLong RX12 421 (-999) ∈ gT := gT_7 118 rfl rfl
set_option maxRecDepth 20000 in
theorem lmL_121 : Cond.methodLink RL 121 yX12_walk ∈ gT := gT_7 119 rfl rfl
set_option maxRecDepth 20000 in
theorem lvX12_X12_walk : Cond.selects RX12 yX12_walk yX12_walk ∈ gT := gT_7 121 rfl rfl
set_option maxRecDepth 20000 in
theorem lkX12_426 : Cond.constantLong RX12 426 (200) ∈ gT := gT_7 123 rfl rfl
set_option maxRecDepth 20000 in
theorem lkX12_428 : Cond.constant RX12 428 (1000000) ∈ gT := gT_7 124 rfl rfl
set_option maxRecDepth 20000 in
theorem lmX12_429 : Cond.methodLink RX12 429 yX12_goes ∈ gT := gT_7 125 rfl rfl
set_option maxRecDepth 20000 in
theorem lmX12_423 : Cond.methodLink RX12 423 yX12_fails ∈ gT := gT_7 129 rfl rfl
set_option maxRecDepth 20000 in
theorem lmL_125 : Cond.methodLink RL 125 yX12_image ∈ gT := gT_7 133 rfl rfl
set_option maxRecDepth 20000 in
theorem lvX12_X12_image : Cond.selects RX12 yX12_image yX12_image ∈ gT := gT_7 135 rfl rfl
set_option maxRecDepth 20000 in
theorem lmL_129 : Cond.methodLink RL 129 yX12_back ∈ gT := gT_7 137 rfl rfl
set_option maxRecDepth 20000 in
theorem lvX12_X12_back : Cond.selects RX12 yX12_back yX12_back ∈ gT := gT_7 139 rfl rfl
set_option maxRecDepth 20000 in
theorem lmL_133 : Cond.methodLink RL 133 yX12_count ∈ gT := gT_7 141 rfl rfl
set_option maxRecDepth 20000 in
theorem lvX12_X12_count : Cond.selects RX12 yX12_count yX12_count ∈ gT := gT_7 143 rfl rfl
set_option maxRecDepth 20000 in
theorem lmL_137 : Cond.methodLink RL 137 yX12_sheet ∈ gT := gT_7 145 rfl rfl
set_option maxRecDepth 20000 in
theorem lvX12_X12_sheet : Cond.selects RX12 yX12_sheet yX12_sheet ∈ gT := gT_7 147 rfl rfl
set_option maxRecDepth 20000 in
theorem lmX12_444 : Cond.methodLink RX12 444 yX12_isSheet ∈ gT := gT_7 149 rfl rfl
set_option maxRecDepth 20000 in
theorem lmL_141 : Cond.methodLink RL 141 yX12_cell ∈ gT := gT_7 152 rfl rfl
set_option maxRecDepth 20000 in
theorem lvX12_X12_cell : Cond.selects RX12 yX12_cell yX12_cell ∈ gT := gT_7 154 rfl rfl
set_option maxRecDepth 20000 in
theorem lmL_145 : Cond.methodLink RL 145 yX12_copy ∈ gT := gT_7 156 rfl rfl
set_option maxRecDepth 20000 in
theorem lvX12_X12_copy : Cond.selects RX12 yX12_copy yX12_copy ∈ gT := gT_7 158 rfl rfl
set_option maxRecDepth 20000 in
theorem lmL_149 : Cond.methodLink RL 149 yX12_tries ∈ gT := gT_7 160 rfl rfl
set_option maxRecDepth 20000 in
theorem lvX12_X12_tries : Cond.selects RX12 yX12_tries yX12_tries ∈ gT := gT_7 162 rfl rfl
set_option maxRecDepth 20000 in
theorem lmX12_447 : Cond.methodLink RX12 447 yX12_shown ∈ gT := gT_7 164 rfl rfl
set_option maxRecDepth 20000 in
theorem lmL_153 : Cond.methodLink RL 153 yX12_taken ∈ gT := gT_7 165 rfl rfl
set_option maxRecDepth 20000 in
theorem lvX12_X12_taken : Cond.selects RX12 yX12_taken yX12_taken ∈ gT := gT_7 167 rfl rfl
