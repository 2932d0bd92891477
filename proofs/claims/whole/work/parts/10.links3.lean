set_option maxRecDepth 20000 in
theorem lmX12_450 : Cond.methodLink RX12 450 yX12_over ∈ gT := gT_7 169 rfl rfl
set_option maxRecDepth 20000 in
theorem lkL_72 : Cond.constantLong RL 72 (4294967295) ∈ gT := gT_7 172 rfl rfl
set_option maxRecDepth 20000 in
theorem lqX4_gaffs : Cond.sameMethod RX4 RX4 "gaffs" "()I" ∈ gT := gT_7 173 rfl rfl
set_option maxRecDepth 20000 in
theorem lqX10_gaffs : Cond.sameMethod RX10 RX10 "gaffs" "()I" ∈ gT := gT_7 174 rfl rfl
set_option maxRecDepth 20000 in
theorem lqX4_pays : Cond.sameMethod RX4 RX4 "pays" "(III)Z" ∈ gT := gT_7 175 rfl rfl
set_option maxRecDepth 20000 in
theorem lqX10_pays : Cond.sameMethod RX10 RX10 "pays" "(III)Z" ∈ gT := gT_7 176 rfl rfl
set_option maxRecDepth 20000 in
theorem lq_Ljava_lang_Object__getClass : Cond.sameMethod "[Ljava/lang/Object;" "java/lang/Object" "getClass" "()Ljava/lang/Class;" ∈ gT := gT_7 199 rfl rfl
set_option maxRecDepth 20000 in
theorem li_obj : Cond.instanceMethod objectInit ∈ gT := gT_1 33 rfl rfl
set_option maxRecDepth 20000 in
theorem lo_obj : Cond.code objectInit ⟨#[0xb1]⟩ 1 none ∈ gT := gT_1 34 rfl rfl
set_option maxRecDepth 20000 in
theorem ls_arraycopy : Cond.static ⟨"java/lang/System", "arraycopy", "(Ljava/lang/Object;ILjava/lang/Object;II)V"⟩ ∈ gT := gT_2 87 rfl rfl
set_option maxRecDepth 20000 in
theorem flJx4a65c_9_0 : FL RJx4a65c 9 0 1 := ⟨_, RJx4a65c, _, _, rfl, by decide, by decide, gT_1 49 rfl rfl, Or.inl rfl⟩
set_option maxRecDepth 20000 in
theorem fpJx4a65c_9_0i : FP RJx4a65c true 9 0 1 := ⟨_, RJx4a65c, _, _, rfl, by decide, by decide, gT_1 49 rfl rfl, Or.inl rfl, Or.inl rfl⟩
set_option maxRecDepth 20000 in
theorem fpJx4a65c_9_0 : FP RJx4a65c false 9 0 1 := ⟨_, RJx4a65c, _, _, rfl, by decide, by decide, gT_1 49 rfl rfl, Or.inl rfl, Or.inl rfl⟩
set_option maxRecDepth 20000 in
theorem flJx4a65c_48_0 : FL RJx4a65c 48 0 2 := ⟨_, RJx4a65c, _, _, rfl, by decide, by decide, gT_1 50 rfl rfl, Or.inl rfl⟩
set_option maxRecDepth 20000 in
theorem fpJx4a65c_48_0 : FP RJx4a65c false 48 0 2 := ⟨_, RJx4a65c, _, _, rfl, by decide, by decide, gT_1 50 rfl rfl, Or.inl rfl, Or.inl rfl⟩
set_option maxRecDepth 20000 in
theorem flJxc12de_7_0 : FL RJxc12de 7 0 0 := ⟨_, RJxc12de, _, _, rfl, by decide, by decide, gT_1 51 rfl rfl, Or.inl rfl⟩
set_option maxRecDepth 20000 in
theorem fpJxc12de_7_0i : FP RJxc12de true 7 0 0 := ⟨_, RJxc12de, _, _, rfl, by decide, by decide, gT_1 51 rfl rfl, Or.inl rfl, Or.inl rfl⟩
set_option maxRecDepth 20000 in
theorem flJx4a65c_63_0 : FL RJx4a65c 63 0 0 := ⟨_, RJx4a65c, _, _, rfl, by decide, by decide, gT_1 52 rfl rfl, Or.inr (gT_1 53 rfl rfl)⟩
set_option maxRecDepth 20000 in
theorem fpJx4a65c_63_0 : FP RJx4a65c false 63 0 0 := ⟨_, RJx4a65c, _, _, rfl, by decide, by decide, gT_1 52 rfl rfl, Or.inr (gT_1 53 rfl rfl), Or.inl rfl⟩
set_option maxRecDepth 20000 in
theorem flX6_11_7 : FL RX6 11 7 0 := ⟨_, RX6, _, _, rfl, by decide, by decide, gT_1 67 rfl rfl, Or.inl rfl⟩
set_option maxRecDepth 20000 in
theorem fpX6_11_7i : FP RX6 true 11 7 0 := ⟨_, RX6, _, _, rfl, by decide, by decide, gT_1 67 rfl rfl, Or.inl rfl, Or.inr ⟨rfl, rfl, rfl⟩⟩
set_option maxRecDepth 20000 in
theorem flX6_15_7 : FL RX6 15 7 1 := ⟨_, RX6, _, _, rfl, by decide, by decide, gT_1 68 rfl rfl, Or.inl rfl⟩
set_option maxRecDepth 20000 in
theorem fpX6_15_7i : FP RX6 true 15 7 1 := ⟨_, RX6, _, _, rfl, by decide, by decide, gT_1 68 rfl rfl, Or.inl rfl, Or.inl rfl⟩
set_option maxRecDepth 20000 in
theorem fpX6_15_7 : FP RX6 false 15 7 1 := ⟨_, RX6, _, _, rfl, by decide, by decide, gT_1 68 rfl rfl, Or.inl rfl, Or.inl rfl⟩
set_option maxRecDepth 20000 in
theorem flX11_284_7 : FL RX11 284 7 1 := ⟨_, RX6, _, _, rfl, by decide, by decide, gT_1 69 rfl rfl, Or.inl rfl⟩
set_option maxRecDepth 20000 in
theorem flX6_19_7 : FL RX6 19 7 2 := ⟨_, RX6, _, _, rfl, by decide, by decide, gT_1 70 rfl rfl, Or.inl rfl⟩
set_option maxRecDepth 20000 in
theorem fpX6_19_7i : FP RX6 true 19 7 2 := ⟨_, RX6, _, _, rfl, by decide, by decide, gT_1 70 rfl rfl, Or.inl rfl, Or.inr ⟨rfl, rfl, rfl⟩⟩
set_option maxRecDepth 20000 in
theorem flX6_22_7 : FL RX6 22 7 3 := ⟨_, RX6, _, _, rfl, by decide, by decide, gT_1 71 rfl rfl, Or.inl rfl⟩
set_option maxRecDepth 20000 in
theorem fpX6_22_7i : FP RX6 true 22 7 3 := ⟨_, RX6, _, _, rfl, by decide, by decide, gT_1 71 rfl rfl, Or.inl rfl, Or.inr ⟨rfl, rfl, rfl⟩⟩
set_option maxRecDepth 20000 in
theorem flX6_25_7 : FL RX6 25 7 4 := ⟨_, RX6, _, _, rfl, by decide, by decide, gT_1 72 rfl rfl, Or.inl rfl⟩
set_option maxRecDepth 20000 in
theorem fpX6_25_7i : FP RX6 true 25 7 4 := ⟨_, RX6, _, _, rfl, by decide, by decide, gT_1 72 rfl rfl, Or.inl rfl, Or.inl rfl⟩
set_option maxRecDepth 20000 in
theorem fpX6_25_7 : FP RX6 false 25 7 4 := ⟨_, RX6, _, _, rfl, by decide, by decide, gT_1 72 rfl rfl, Or.inl rfl, Or.inl rfl⟩
set_option maxRecDepth 20000 in
theorem flX6_28_7 : FL RX6 28 7 5 := ⟨_, RX6, _, _, rfl, by decide, by decide, gT_1 73 rfl rfl, Or.inl rfl⟩
set_option maxRecDepth 20000 in
theorem fpX6_28_7i : FP RX6 true 28 7 5 := ⟨_, RX6, _, _, rfl, by decide, by decide, gT_1 73 rfl rfl, Or.inl rfl, Or.inl rfl⟩
set_option maxRecDepth 20000 in
theorem fpX6_28_7 : FP RX6 false 28 7 5 := ⟨_, RX6, _, _, rfl, by decide, by decide, gT_1 73 rfl rfl, Or.inl rfl, Or.inl rfl⟩
set_option maxRecDepth 20000 in
theorem flX6_31_7 : FL RX6 31 7 6 := ⟨_, RX6, _, _, rfl, by decide, by decide, gT_1 74 rfl rfl, Or.inl rfl⟩
set_option maxRecDepth 20000 in
theorem fpX6_31_7i : FP RX6 true 31 7 6 := ⟨_, RX6, _, _, rfl, by decide, by decide, gT_1 74 rfl rfl, Or.inl rfl, Or.inr ⟨rfl, rfl, rfl⟩⟩
set_option maxRecDepth 20000 in
theorem flX6_34_7 : FL RX6 34 7 7 := ⟨_, RX6, _, _, rfl, by decide, by decide, gT_1 75 rfl rfl, Or.inl rfl⟩
set_option maxRecDepth 20000 in
theorem fpX6_34_7i : FP RX6 true 34 7 7 := ⟨_, RX6, _, _, rfl, by decide, by decide, gT_1 75 rfl rfl, Or.inl rfl, Or.inl rfl⟩
set_option maxRecDepth 20000 in
theorem fpX6_34_7 : FP RX6 false 34 7 7 := ⟨_, RX6, _, _, rfl, by decide, by decide, gT_1 75 rfl rfl, Or.inl rfl, Or.inl rfl⟩
set_option maxRecDepth 20000 in
theorem flX6_37_7 : FL RX6 37 7 8 := ⟨_, RX6, _, _, rfl, by decide, by decide, gT_1 76 rfl rfl, Or.inl rfl⟩
set_option maxRecDepth 20000 in
theorem fpX6_37_7i : FP RX6 true 37 7 8 := ⟨_, RX6, _, _, rfl, by decide, by decide, gT_1 76 rfl rfl, Or.inl rfl, Or.inl rfl⟩
set_option maxRecDepth 20000 in
theorem fpX6_37_7 : FP RX6 false 37 7 8 := ⟨_, RX6, _, _, rfl, by decide, by decide, gT_1 76 rfl rfl, Or.inl rfl, Or.inl rfl⟩
set_option maxRecDepth 20000 in
theorem flX11_289_7 : FL RX11 289 7 8 := ⟨_, RX6, _, _, rfl, by decide, by decide, gT_1 77 rfl rfl, Or.inl rfl⟩
set_option maxRecDepth 20000 in
theorem flX5_9_6 : FL RX5 9 6 0 := ⟨_, RX5, _, _, rfl, by decide, by decide, gT_1 104 rfl rfl, Or.inl rfl⟩
set_option maxRecDepth 20000 in
theorem fpX5_9_6i : FP RX5 true 9 6 0 := ⟨_, RX5, _, _, rfl, by decide, by decide, gT_1 104 rfl rfl, Or.inl rfl, Or.inl rfl⟩
set_option maxRecDepth 20000 in
theorem flX11_375_6 : FL RX11 375 6 0 := ⟨_, RX5, _, _, rfl, by decide, by decide, gT_1 105 rfl rfl, Or.inl rfl⟩
set_option maxRecDepth 20000 in
theorem fpX11_375_6 : FP RX11 false 375 6 0 := ⟨_, RX5, _, _, rfl, by decide, by decide, gT_1 105 rfl rfl, Or.inl rfl, Or.inl rfl⟩
set_option maxRecDepth 20000 in
theorem flX5_15_6 : FL RX5 15 6 1 := ⟨_, RX5, _, _, rfl, by decide, by decide, gT_1 106 rfl rfl, Or.inl rfl⟩
set_option maxRecDepth 20000 in
theorem fpX5_15_6i : FP RX5 true 15 6 1 := ⟨_, RX5, _, _, rfl, by decide, by decide, gT_1 106 rfl rfl, Or.inl rfl, Or.inl rfl⟩
set_option maxRecDepth 20000 in
theorem flX11_379_6 : FL RX11 379 6 1 := ⟨_, RX5, _, _, rfl, by decide, by decide, gT_1 107 rfl rfl, Or.inl rfl⟩
set_option maxRecDepth 20000 in
theorem fpX11_379_6 : FP RX11 false 379 6 1 := ⟨_, RX5, _, _, rfl, by decide, by decide, gT_1 107 rfl rfl, Or.inl rfl, Or.inl rfl⟩
set_option maxRecDepth 20000 in
theorem flX5_19_6 : FL RX5 19 6 2 := ⟨_, RX5, _, _, rfl, by decide, by decide, gT_1 108 rfl rfl, Or.inl rfl⟩
set_option maxRecDepth 20000 in
theorem fpX5_19_6i : FP RX5 true 19 6 2 := ⟨_, RX5, _, _, rfl, by decide, by decide, gT_1 108 rfl rfl, Or.inl rfl, Or.inl rfl⟩
set_option maxRecDepth 20000 in
theorem flX11_382_6 : FL RX11 382 6 2 := ⟨_, RX5, _, _, rfl, by decide, by decide, gT_1 109 rfl rfl, Or.inl rfl⟩
set_option maxRecDepth 20000 in
theorem fpX11_382_6 : FP RX11 false 382 6 2 := ⟨_, RX5, _, _, rfl, by decide, by decide, gT_1 109 rfl rfl, Or.inl rfl, Or.inl rfl⟩
set_option maxRecDepth 20000 in
theorem flX5_22_6 : FL RX5 22 6 3 := ⟨_, RX5, _, _, rfl, by decide, by decide, gT_1 110 rfl rfl, Or.inl rfl⟩
set_option maxRecDepth 20000 in
theorem fpX5_22_6i : FP RX5 true 22 6 3 := ⟨_, RX5, _, _, rfl, by decide, by decide, gT_1 110 rfl rfl, Or.inl rfl, Or.inl rfl⟩
set_option maxRecDepth 20000 in
theorem flX11_383_6 : FL RX11 383 6 3 := ⟨_, RX5, _, _, rfl, by decide, by decide, gT_1 111 rfl rfl, Or.inl rfl⟩
set_option maxRecDepth 20000 in
theorem fpX11_383_6 : FP RX11 false 383 6 3 := ⟨_, RX5, _, _, rfl, by decide, by decide, gT_1 111 rfl rfl, Or.inl rfl, Or.inl rfl⟩
set_option maxRecDepth 20000 in
theorem flX5_25_6 : FL RX5 25 6 4 := ⟨_, RX5, _, _, rfl, by decide, by decide, gT_1 112 rfl rfl, Or.inl rfl⟩
set_option maxRecDepth 20000 in
theorem fpX5_25_6i : FP RX5 true 25 6 4 := ⟨_, RX5, _, _, rfl, by decide, by decide, gT_1 112 rfl rfl, Or.inl rfl, Or.inr ⟨rfl, rfl, rfl⟩⟩
set_option maxRecDepth 20000 in
theorem flX2_11_3 : FL RX2 11 3 0 := ⟨_, RX2, _, _, rfl, by decide, by decide, gT_1 132 rfl rfl, Or.inl rfl⟩
set_option maxRecDepth 20000 in
theorem fpX2_11_3i : FP RX2 true 11 3 0 := ⟨_, RX2, _, _, rfl, by decide, by decide, gT_1 132 rfl rfl, Or.inl rfl, Or.inr ⟨rfl, rfl, rfl⟩⟩
set_option maxRecDepth 20000 in
theorem flX2_15_3 : FL RX2 15 3 1 := ⟨_, RX2, _, _, rfl, by decide, by decide, gT_1 133 rfl rfl, Or.inl rfl⟩
set_option maxRecDepth 20000 in
theorem fpX2_15_3i : FP RX2 true 15 3 1 := ⟨_, RX2, _, _, rfl, by decide, by decide, gT_1 133 rfl rfl, Or.inl rfl, Or.inl rfl⟩
set_option maxRecDepth 20000 in
theorem fpX2_15_3 : FP RX2 false 15 3 1 := ⟨_, RX2, _, _, rfl, by decide, by decide, gT_1 133 rfl rfl, Or.inl rfl, Or.inl rfl⟩
set_option maxRecDepth 20000 in
theorem flX2_19_3 : FL RX2 19 3 2 := ⟨_, RX2, _, _, rfl, by decide, by decide, gT_1 134 rfl rfl, Or.inl rfl⟩
set_option maxRecDepth 20000 in
theorem fpX2_19_3i : FP RX2 true 19 3 2 := ⟨_, RX2, _, _, rfl, by decide, by decide, gT_1 134 rfl rfl, Or.inl rfl, Or.inl rfl⟩
set_option maxRecDepth 20000 in
theorem fpX2_19_3 : FP RX2 false 19 3 2 := ⟨_, RX2, _, _, rfl, by decide, by decide, gT_1 134 rfl rfl, Or.inl rfl, Or.inl rfl⟩
set_option maxRecDepth 20000 in
theorem flX9_11_10 : FL RX9 11 10 0 := ⟨_, RX9, _, _, rfl, by decide, by decide, gT_2 93 rfl rfl, Or.inl rfl⟩
set_option maxRecDepth 20000 in
theorem fpX9_11_10i : FP RX9 true 11 10 0 := ⟨_, RX9, _, _, rfl, by decide, by decide, gT_2 93 rfl rfl, Or.inl rfl, Or.inr ⟨rfl, rfl, rfl⟩⟩
set_option maxRecDepth 20000 in
theorem flX9_15_10 : FL RX9 15 10 1 := ⟨_, RX9, _, _, rfl, by decide, by decide, gT_2 94 rfl rfl, Or.inl rfl⟩
set_option maxRecDepth 20000 in
theorem fpX9_15_10i : FP RX9 true 15 10 1 := ⟨_, RX9, _, _, rfl, by decide, by decide, gT_2 94 rfl rfl, Or.inl rfl, Or.inr ⟨rfl, rfl, rfl⟩⟩
set_option maxRecDepth 20000 in
theorem flX9_18_10 : FL RX9 18 10 2 := ⟨_, RX9, _, _, rfl, by decide, by decide, gT_2 95 rfl rfl, Or.inl rfl⟩
set_option maxRecDepth 20000 in
theorem fpX9_18_10i : FP RX9 true 18 10 2 := ⟨_, RX9, _, _, rfl, by decide, by decide, gT_2 95 rfl rfl, Or.inl rfl, Or.inr ⟨rfl, rfl, rfl⟩⟩
set_option maxRecDepth 20000 in
theorem flX9_22_10 : FL RX9 22 10 3 := ⟨_, RX9, _, _, rfl, by decide, by decide, gT_2 96 rfl rfl, Or.inl rfl⟩
set_option maxRecDepth 20000 in
theorem fpX9_22_10i : FP RX9 true 22 10 3 := ⟨_, RX9, _, _, rfl, by decide, by decide, gT_2 96 rfl rfl, Or.inl rfl, Or.inr ⟨rfl, rfl, rfl⟩⟩
set_option maxRecDepth 20000 in
theorem flX11_12_12 : FL RX11 12 12 0 := ⟨_, RX11, _, _, rfl, by decide, by decide, gT_2 163 rfl rfl, Or.inl rfl⟩
set_option maxRecDepth 20000 in
theorem fpX11_12_12i : FP RX11 true 12 12 0 := ⟨_, RX11, _, _, rfl, by decide, by decide, gT_2 163 rfl rfl, Or.inl rfl, Or.inr ⟨rfl, rfl, rfl⟩⟩
set_option maxRecDepth 20000 in
theorem flX11_16_12 : FL RX11 16 12 1 := ⟨_, RX11, _, _, rfl, by decide, by decide, gT_2 164 rfl rfl, Or.inl rfl⟩
set_option maxRecDepth 20000 in
theorem fpX11_16_12i : FP RX11 true 16 12 1 := ⟨_, RX11, _, _, rfl, by decide, by decide, gT_2 164 rfl rfl, Or.inl rfl, Or.inr ⟨rfl, rfl, rfl⟩⟩
set_option maxRecDepth 20000 in
theorem flX11_19_12 : FL RX11 19 12 2 := ⟨_, RX11, _, _, rfl, by decide, by decide, gT_2 165 rfl rfl, Or.inl rfl⟩
set_option maxRecDepth 20000 in
theorem fpX11_19_12i : FP RX11 true 19 12 2 := ⟨_, RX11, _, _, rfl, by decide, by decide, gT_2 165 rfl rfl, Or.inl rfl, Or.inr ⟨rfl, rfl, rfl⟩⟩
set_option maxRecDepth 20000 in
theorem flX11_22_12 : FL RX11 22 12 3 := ⟨_, RX11, _, _, rfl, by decide, by decide, gT_2 166 rfl rfl, Or.inl rfl⟩
set_option maxRecDepth 20000 in
theorem fpX11_22_12i : FP RX11 true 22 12 3 := ⟨_, RX11, _, _, rfl, by decide, by decide, gT_2 166 rfl rfl, Or.inl rfl, Or.inl rfl⟩
set_option maxRecDepth 20000 in
theorem fpX11_22_12 : FP RX11 false 22 12 3 := ⟨_, RX11, _, _, rfl, by decide, by decide, gT_2 166 rfl rfl, Or.inl rfl, Or.inl rfl⟩
set_option maxRecDepth 20000 in
theorem flX11_26_12 : FL RX11 26 12 4 := ⟨_, RX11, _, _, rfl, by decide, by decide, gT_2 167 rfl rfl, Or.inl rfl⟩
set_option maxRecDepth 20000 in
theorem fpX11_26_12i : FP RX11 true 26 12 4 := ⟨_, RX11, _, _, rfl, by decide, by decide, gT_2 167 rfl rfl, Or.inl rfl, Or.inr ⟨rfl, rfl, rfl⟩⟩
set_option maxRecDepth 20000 in
theorem flX11_30_12 : FL RX11 30 12 5 := ⟨_, RX11, _, _, rfl, by decide, by decide, gT_2 168 rfl rfl, Or.inl rfl⟩
set_option maxRecDepth 20000 in
theorem fpX11_30_12i : FP RX11 true 30 12 5 := ⟨_, RX11, _, _, rfl, by decide, by decide, gT_2 168 rfl rfl, Or.inl rfl, Or.inl rfl⟩
set_option maxRecDepth 20000 in
theorem fpX11_30_12 : FP RX11 false 30 12 5 := ⟨_, RX11, _, _, rfl, by decide, by decide, gT_2 168 rfl rfl, Or.inl rfl, Or.inl rfl⟩
set_option maxRecDepth 20000 in
theorem flX11_33_12 : FL RX11 33 12 6 := ⟨_, RX11, _, _, rfl, by decide, by decide, gT_2 169 rfl rfl, Or.inl rfl⟩
set_option maxRecDepth 20000 in
theorem fpX11_33_12i : FP RX11 true 33 12 6 := ⟨_, RX11, _, _, rfl, by decide, by decide, gT_2 169 rfl rfl, Or.inl rfl, Or.inr ⟨rfl, rfl, rfl⟩⟩
set_option maxRecDepth 20000 in
theorem flX11_36_12 : FL RX11 36 12 7 := ⟨_, RX11, _, _, rfl, by decide, by decide, gT_2 170 rfl rfl, Or.inl rfl⟩
set_option maxRecDepth 20000 in
theorem fpX11_36_12i : FP RX11 true 36 12 7 := ⟨_, RX11, _, _, rfl, by decide, by decide, gT_2 170 rfl rfl, Or.inl rfl, Or.inr ⟨rfl, rfl, rfl⟩⟩
set_option maxRecDepth 20000 in
theorem flX11_39_12 : FL RX11 39 12 8 := ⟨_, RX11, _, _, rfl, by decide, by decide, gT_2 171 rfl rfl, Or.inl rfl⟩
set_option maxRecDepth 20000 in
theorem fpX11_39_12i : FP RX11 true 39 12 8 := ⟨_, RX11, _, _, rfl, by decide, by decide, gT_2 171 rfl rfl, Or.inl rfl, Or.inl rfl⟩
set_option maxRecDepth 20000 in
theorem fpX11_39_12 : FP RX11 false 39 12 8 := ⟨_, RX11, _, _, rfl, by decide, by decide, gT_2 171 rfl rfl, Or.inl rfl, Or.inl rfl⟩
set_option maxRecDepth 20000 in
theorem flX11_45_12 : FL RX11 45 12 9 := ⟨_, RX11, _, _, rfl, by decide, by decide, gT_2 172 rfl rfl, Or.inl rfl⟩
set_option maxRecDepth 20000 in
theorem fpX11_45_12i : FP RX11 true 45 12 9 := ⟨_, RX11, _, _, rfl, by decide, by decide, gT_2 172 rfl rfl, Or.inl rfl, Or.inr ⟨rfl, rfl, rfl⟩⟩
set_option maxRecDepth 20000 in
theorem flX11_52_12 : FL RX11 52 12 10 := ⟨_, RX11, _, _, rfl, by decide, by decide, gT_2 173 rfl rfl, Or.inl rfl⟩
set_option maxRecDepth 20000 in
theorem fpX11_52_12i : FP RX11 true 52 12 10 := ⟨_, RX11, _, _, rfl, by decide, by decide, gT_2 173 rfl rfl, Or.inl rfl, Or.inr ⟨rfl, rfl, rfl⟩⟩
set_option maxRecDepth 20000 in
theorem flX11_57_12 : FL RX11 57 12 11 := ⟨_, RX11, _, _, rfl, by decide, by decide, gT_2 174 rfl rfl, Or.inl rfl⟩
set_option maxRecDepth 20000 in
theorem fpX11_57_12i : FP RX11 true 57 12 11 := ⟨_, RX11, _, _, rfl, by decide, by decide, gT_2 174 rfl rfl, Or.inl rfl, Or.inr ⟨rfl, rfl, rfl⟩⟩
set_option maxRecDepth 20000 in
theorem flX11_61_12 : FL RX11 61 12 12 := ⟨_, RX11, _, _, rfl, by decide, by decide, gT_2 175 rfl rfl, Or.inl rfl⟩
set_option maxRecDepth 20000 in
theorem fpX11_61_12i : FP RX11 true 61 12 12 := ⟨_, RX11, _, _, rfl, by decide, by decide, gT_2 175 rfl rfl, Or.inl rfl, Or.inr ⟨rfl, rfl, rfl⟩⟩
set_option maxRecDepth 20000 in
theorem flX11_67_12 : FL RX11 67 12 13 := ⟨_, RX11, _, _, rfl, by decide, by decide, gT_2 176 rfl rfl, Or.inl rfl⟩
set_option maxRecDepth 20000 in
theorem fpX11_67_12i : FP RX11 true 67 12 13 := ⟨_, RX11, _, _, rfl, by decide, by decide, gT_2 176 rfl rfl, Or.inl rfl, Or.inr ⟨rfl, rfl, rfl⟩⟩
set_option maxRecDepth 20000 in
theorem flX11_73_12 : FL RX11 73 12 14 := ⟨_, RX11, _, _, rfl, by decide, by decide, gT_2 177 rfl rfl, Or.inl rfl⟩
set_option maxRecDepth 20000 in
theorem fpX11_73_12i : FP RX11 true 73 12 14 := ⟨_, RX11, _, _, rfl, by decide, by decide, gT_2 177 rfl rfl, Or.inl rfl, Or.inr ⟨rfl, rfl, rfl⟩⟩
set_option maxRecDepth 20000 in
theorem flX11_76_12 : FL RX11 76 12 15 := ⟨_, RX11, _, _, rfl, by decide, by decide, gT_2 178 rfl rfl, Or.inl rfl⟩
set_option maxRecDepth 20000 in
theorem fpX11_76_12i : FP RX11 true 76 12 15 := ⟨_, RX11, _, _, rfl, by decide, by decide, gT_2 178 rfl rfl, Or.inl rfl, Or.inr ⟨rfl, rfl, rfl⟩⟩
set_option maxRecDepth 20000 in
theorem flX11_79_12 : FL RX11 79 12 16 := ⟨_, RX11, _, _, rfl, by decide, by decide, gT_2 179 rfl rfl, Or.inl rfl⟩
set_option maxRecDepth 20000 in
theorem fpX11_79_12i : FP RX11 true 79 12 16 := ⟨_, RX11, _, _, rfl, by decide, by decide, gT_2 179 rfl rfl, Or.inl rfl, Or.inr ⟨rfl, rfl, rfl⟩⟩
set_option maxRecDepth 20000 in
theorem flX11_83_12 : FL RX11 83 12 17 := ⟨_, RX11, _, _, rfl, by decide, by decide, gT_2 180 rfl rfl, Or.inl rfl⟩
set_option maxRecDepth 20000 in
theorem fpX11_83_12i : FP RX11 true 83 12 17 := ⟨_, RX11, _, _, rfl, by decide, by decide, gT_2 180 rfl rfl, Or.inl rfl, Or.inr ⟨rfl, rfl, rfl⟩⟩
set_option maxRecDepth 20000 in
theorem flX11_86_12 : FL RX11 86 12 18 := ⟨_, RX11, _, _, rfl, by decide, by decide, gT_2 181 rfl rfl, Or.inl rfl⟩
set_option maxRecDepth 20000 in
theorem fpX11_86_12i : FP RX11 true 86 12 18 := ⟨_, RX11, _, _, rfl, by decide, by decide, gT_2 181 rfl rfl, Or.inl rfl, Or.inr ⟨rfl, rfl, rfl⟩⟩
set_option maxRecDepth 20000 in
theorem flX11_89_12 : FL RX11 89 12 19 := ⟨_, RX11, _, _, rfl, by decide, by decide, gT_2 182 rfl rfl, Or.inl rfl⟩
set_option maxRecDepth 20000 in
theorem fpX11_89_12i : FP RX11 true 89 12 19 := ⟨_, RX11, _, _, rfl, by decide, by decide, gT_2 182 rfl rfl, Or.inl rfl, Or.inr ⟨rfl, rfl, rfl⟩⟩
set_option maxRecDepth 20000 in
theorem flX8_19_1 : FL RX8 19 1 0 := ⟨_, RX8, _, _, rfl, by decide, by decide, gT_3 10 rfl rfl, Or.inl rfl⟩
set_option maxRecDepth 20000 in
theorem fpX8_19_1i : FP RX8 true 19 1 0 := ⟨_, RX8, _, _, rfl, by decide, by decide, gT_3 10 rfl rfl, Or.inl rfl, Or.inr ⟨rfl, rfl, rfl⟩⟩
set_option maxRecDepth 20000 in
theorem flX8_19_2 : FL RX8 19 2 0 := ⟨_, RX8, _, _, rfl, by decide, by decide, gT_3 10 rfl rfl, Or.inl rfl⟩
set_option maxRecDepth 20000 in
theorem fpX8_19_2i : FP RX8 true 19 2 0 := ⟨_, RX8, _, _, rfl, by decide, by decide, gT_3 10 rfl rfl, Or.inl rfl, Or.inr ⟨rfl, rfl, rfl⟩⟩
set_option maxRecDepth 20000 in
theorem flX8_19_5 : FL RX8 19 5 0 := ⟨_, RX8, _, _, rfl, by decide, by decide, gT_3 10 rfl rfl, Or.inl rfl⟩
set_option maxRecDepth 20000 in
theorem fpX8_19_5i : FP RX8 true 19 5 0 := ⟨_, RX8, _, _, rfl, by decide, by decide, gT_3 10 rfl rfl, Or.inl rfl, Or.inr ⟨rfl, rfl, rfl⟩⟩
set_option maxRecDepth 20000 in
theorem flX8_19_8 : FL RX8 19 8 0 := ⟨_, RX8, _, _, rfl, by decide, by decide, gT_3 10 rfl rfl, Or.inl rfl⟩
set_option maxRecDepth 20000 in
theorem fpX8_19_8i : FP RX8 true 19 8 0 := ⟨_, RX8, _, _, rfl, by decide, by decide, gT_3 10 rfl rfl, Or.inl rfl, Or.inr ⟨rfl, rfl, rfl⟩⟩
set_option maxRecDepth 20000 in
theorem flX8_19_9 : FL RX8 19 9 0 := ⟨_, RX8, _, _, rfl, by decide, by decide, gT_3 10 rfl rfl, Or.inl rfl⟩
set_option maxRecDepth 20000 in
theorem fpX8_19_9i : FP RX8 true 19 9 0 := ⟨_, RX8, _, _, rfl, by decide, by decide, gT_3 10 rfl rfl, Or.inl rfl, Or.inr ⟨rfl, rfl, rfl⟩⟩
set_option maxRecDepth 20000 in
theorem flX8_19_11 : FL RX8 19 11 0 := ⟨_, RX8, _, _, rfl, by decide, by decide, gT_3 10 rfl rfl, Or.inl rfl⟩
set_option maxRecDepth 20000 in
theorem fpX8_19_11i : FP RX8 true 19 11 0 := ⟨_, RX8, _, _, rfl, by decide, by decide, gT_3 10 rfl rfl, Or.inl rfl, Or.inr ⟨rfl, rfl, rfl⟩⟩
set_option maxRecDepth 20000 in
theorem flX11_140_1 : FL RX11 140 1 0 := ⟨_, RX8, _, _, rfl, by decide, by decide, gT_3 11 rfl rfl, Or.inl rfl⟩
set_option maxRecDepth 20000 in
theorem flX11_140_2 : FL RX11 140 2 0 := ⟨_, RX8, _, _, rfl, by decide, by decide, gT_3 11 rfl rfl, Or.inl rfl⟩
set_option maxRecDepth 20000 in
theorem flX11_140_5 : FL RX11 140 5 0 := ⟨_, RX8, _, _, rfl, by decide, by decide, gT_3 11 rfl rfl, Or.inl rfl⟩
set_option maxRecDepth 20000 in
theorem flX11_140_8 : FL RX11 140 8 0 := ⟨_, RX8, _, _, rfl, by decide, by decide, gT_3 11 rfl rfl, Or.inl rfl⟩
set_option maxRecDepth 20000 in
theorem flX11_140_9 : FL RX11 140 9 0 := ⟨_, RX8, _, _, rfl, by decide, by decide, gT_3 11 rfl rfl, Or.inl rfl⟩
set_option maxRecDepth 20000 in
theorem flX11_140_11 : FL RX11 140 11 0 := ⟨_, RX8, _, _, rfl, by decide, by decide, gT_3 11 rfl rfl, Or.inl rfl⟩
set_option maxRecDepth 20000 in
theorem flX8_22_1 : FL RX8 22 1 1 := ⟨_, RX8, _, _, rfl, by decide, by decide, gT_3 12 rfl rfl, Or.inl rfl⟩
set_option maxRecDepth 20000 in
theorem fpX8_22_1i : FP RX8 true 22 1 1 := ⟨_, RX8, _, _, rfl, by decide, by decide, gT_3 12 rfl rfl, Or.inl rfl, Or.inr ⟨rfl, rfl, rfl⟩⟩
set_option maxRecDepth 20000 in
theorem flX8_22_2 : FL RX8 22 2 1 := ⟨_, RX8, _, _, rfl, by decide, by decide, gT_3 12 rfl rfl, Or.inl rfl⟩
set_option maxRecDepth 20000 in
theorem fpX8_22_2i : FP RX8 true 22 2 1 := ⟨_, RX8, _, _, rfl, by decide, by decide, gT_3 12 rfl rfl, Or.inl rfl, Or.inr ⟨rfl, rfl, rfl⟩⟩
set_option maxRecDepth 20000 in
theorem flX8_22_5 : FL RX8 22 5 1 := ⟨_, RX8, _, _, rfl, by decide, by decide, gT_3 12 rfl rfl, Or.inl rfl⟩
set_option maxRecDepth 20000 in
theorem fpX8_22_5i : FP RX8 true 22 5 1 := ⟨_, RX8, _, _, rfl, by decide, by decide, gT_3 12 rfl rfl, Or.inl rfl, Or.inr ⟨rfl, rfl, rfl⟩⟩
set_option maxRecDepth 20000 in
theorem flX8_22_8 : FL RX8 22 8 1 := ⟨_, RX8, _, _, rfl, by decide, by decide, gT_3 12 rfl rfl, Or.inl rfl⟩
set_option maxRecDepth 20000 in
theorem fpX8_22_8i : FP RX8 true 22 8 1 := ⟨_, RX8, _, _, rfl, by decide, by decide, gT_3 12 rfl rfl, Or.inl rfl, Or.inr ⟨rfl, rfl, rfl⟩⟩
set_option maxRecDepth 20000 in
theorem flX8_22_9 : FL RX8 22 9 1 := ⟨_, RX8, _, _, rfl, by decide, by decide, gT_3 12 rfl rfl, Or.inl rfl⟩
set_option maxRecDepth 20000 in
theorem fpX8_22_9i : FP RX8 true 22 9 1 := ⟨_, RX8, _, _, rfl, by decide, by decide, gT_3 12 rfl rfl, Or.inl rfl, Or.inr ⟨rfl, rfl, rfl⟩⟩
set_option maxRecDepth 20000 in
theorem flX8_22_11 : FL RX8 22 11 1 := ⟨_, RX8, _, _, rfl, by decide, by decide, gT_3 12 rfl rfl, Or.inl rfl⟩
set_option maxRecDepth 20000 in
theorem fpX8_22_11i : FP RX8 true 22 11 1 := ⟨_, RX8, _, _, rfl, by decide, by decide, gT_3 12 rfl rfl, Or.inl rfl, Or.inr ⟨rfl, rfl, rfl⟩⟩
set_option maxRecDepth 20000 in
theorem flX2_22_1 : FL RX2 22 1 1 := ⟨_, RX8, _, _, rfl, by decide, by decide, gT_3 13 rfl rfl, Or.inl rfl⟩
set_option maxRecDepth 20000 in
theorem flX2_22_2 : FL RX2 22 2 1 := ⟨_, RX8, _, _, rfl, by decide, by decide, gT_3 13 rfl rfl, Or.inl rfl⟩
set_option maxRecDepth 20000 in
theorem flX2_22_5 : FL RX2 22 5 1 := ⟨_, RX8, _, _, rfl, by decide, by decide, gT_3 13 rfl rfl, Or.inl rfl⟩
set_option maxRecDepth 20000 in
theorem flX2_22_8 : FL RX2 22 8 1 := ⟨_, RX8, _, _, rfl, by decide, by decide, gT_3 13 rfl rfl, Or.inl rfl⟩
set_option maxRecDepth 20000 in
theorem flX2_22_9 : FL RX2 22 9 1 := ⟨_, RX8, _, _, rfl, by decide, by decide, gT_3 13 rfl rfl, Or.inl rfl⟩
set_option maxRecDepth 20000 in
theorem flX2_22_11 : FL RX2 22 11 1 := ⟨_, RX8, _, _, rfl, by decide, by decide, gT_3 13 rfl rfl, Or.inl rfl⟩
set_option maxRecDepth 20000 in
theorem flX11_143_1 : FL RX11 143 1 1 := ⟨_, RX8, _, _, rfl, by decide, by decide, gT_3 14 rfl rfl, Or.inl rfl⟩
set_option maxRecDepth 20000 in
theorem flX11_143_2 : FL RX11 143 2 1 := ⟨_, RX8, _, _, rfl, by decide, by decide, gT_3 14 rfl rfl, Or.inl rfl⟩
set_option maxRecDepth 20000 in
theorem flX11_143_5 : FL RX11 143 5 1 := ⟨_, RX8, _, _, rfl, by decide, by decide, gT_3 14 rfl rfl, Or.inl rfl⟩
set_option maxRecDepth 20000 in
theorem flX11_143_8 : FL RX11 143 8 1 := ⟨_, RX8, _, _, rfl, by decide, by decide, gT_3 14 rfl rfl, Or.inl rfl⟩
set_option maxRecDepth 20000 in
theorem flX11_143_9 : FL RX11 143 9 1 := ⟨_, RX8, _, _, rfl, by decide, by decide, gT_3 14 rfl rfl, Or.inl rfl⟩
set_option maxRecDepth 20000 in
theorem flX11_143_11 : FL RX11 143 11 1 := ⟨_, RX8, _, _, rfl, by decide, by decide, gT_3 14 rfl rfl, Or.inl rfl⟩
set_option maxRecDepth 20000 in
theorem flX8_25_1 : FL RX8 25 1 2 := ⟨_, RX8, _, _, rfl, by decide, by decide, gT_3 15 rfl rfl, Or.inl rfl⟩
set_option maxRecDepth 20000 in
theorem fpX8_25_1i : FP RX8 true 25 1 2 := ⟨_, RX8, _, _, rfl, by decide, by decide, gT_3 15 rfl rfl, Or.inl rfl, Or.inr ⟨rfl, rfl, rfl⟩⟩
set_option maxRecDepth 20000 in
theorem flX8_25_2 : FL RX8 25 2 2 := ⟨_, RX8, _, _, rfl, by decide, by decide, gT_3 15 rfl rfl, Or.inl rfl⟩
set_option maxRecDepth 20000 in
theorem fpX8_25_2i : FP RX8 true 25 2 2 := ⟨_, RX8, _, _, rfl, by decide, by decide, gT_3 15 rfl rfl, Or.inl rfl, Or.inr ⟨rfl, rfl, rfl⟩⟩
set_option maxRecDepth 20000 in
theorem flX8_25_5 : FL RX8 25 5 2 := ⟨_, RX8, _, _, rfl, by decide, by decide, gT_3 15 rfl rfl, Or.inl rfl⟩
set_option maxRecDepth 20000 in
theorem fpX8_25_5i : FP RX8 true 25 5 2 := ⟨_, RX8, _, _, rfl, by decide, by decide, gT_3 15 rfl rfl, Or.inl rfl, Or.inr ⟨rfl, rfl, rfl⟩⟩
set_option maxRecDepth 20000 in
theorem flX8_25_8 : FL RX8 25 8 2 := ⟨_, RX8, _, _, rfl, by decide, by decide, gT_3 15 rfl rfl, Or.inl rfl⟩
set_option maxRecDepth 20000 in
theorem fpX8_25_8i : FP RX8 true 25 8 2 := ⟨_, RX8, _, _, rfl, by decide, by decide, gT_3 15 rfl rfl, Or.inl rfl, Or.inr ⟨rfl, rfl, rfl⟩⟩
set_option maxRecDepth 20000 in
theorem flX8_25_9 : FL RX8 25 9 2 := ⟨_, RX8, _, _, rfl, by decide, by decide, gT_3 15 rfl rfl, Or.inl rfl⟩
set_option maxRecDepth 20000 in
theorem fpX8_25_9i : FP RX8 true 25 9 2 := ⟨_, RX8, _, _, rfl, by decide, by decide, gT_3 15 rfl rfl, Or.inl rfl, Or.inr ⟨rfl, rfl, rfl⟩⟩
set_option maxRecDepth 20000 in
theorem flX8_25_11 : FL RX8 25 11 2 := ⟨_, RX8, _, _, rfl, by decide, by decide, gT_3 15 rfl rfl, Or.inl rfl⟩
set_option maxRecDepth 20000 in
theorem fpX8_25_11i : FP RX8 true 25 11 2 := ⟨_, RX8, _, _, rfl, by decide, by decide, gT_3 15 rfl rfl, Or.inl rfl, Or.inr ⟨rfl, rfl, rfl⟩⟩
set_option maxRecDepth 20000 in
theorem flX2_25_1 : FL RX2 25 1 2 := ⟨_, RX8, _, _, rfl, by decide, by decide, gT_3 16 rfl rfl, Or.inl rfl⟩
set_option maxRecDepth 20000 in
theorem flX2_25_2 : FL RX2 25 2 2 := ⟨_, RX8, _, _, rfl, by decide, by decide, gT_3 16 rfl rfl, Or.inl rfl⟩
set_option maxRecDepth 20000 in
theorem flX2_25_5 : FL RX2 25 5 2 := ⟨_, RX8, _, _, rfl, by decide, by decide, gT_3 16 rfl rfl, Or.inl rfl⟩
set_option maxRecDepth 20000 in
theorem flX2_25_8 : FL RX2 25 8 2 := ⟨_, RX8, _, _, rfl, by decide, by decide, gT_3 16 rfl rfl, Or.inl rfl⟩
set_option maxRecDepth 20000 in
theorem flX2_25_9 : FL RX2 25 9 2 := ⟨_, RX8, _, _, rfl, by decide, by decide, gT_3 16 rfl rfl, Or.inl rfl⟩
set_option maxRecDepth 20000 in
theorem flX2_25_11 : FL RX2 25 11 2 := ⟨_, RX8, _, _, rfl, by decide, by decide, gT_3 16 rfl rfl, Or.inl rfl⟩
set_option maxRecDepth 20000 in
theorem flX11_146_1 : FL RX11 146 1 2 := ⟨_, RX8, _, _, rfl, by decide, by decide, gT_3 17 rfl rfl, Or.inl rfl⟩
set_option maxRecDepth 20000 in
theorem flX11_146_2 : FL RX11 146 2 2 := ⟨_, RX8, _, _, rfl, by decide, by decide, gT_3 17 rfl rfl, Or.inl rfl⟩
set_option maxRecDepth 20000 in
theorem flX11_146_5 : FL RX11 146 5 2 := ⟨_, RX8, _, _, rfl, by decide, by decide, gT_3 17 rfl rfl, Or.inl rfl⟩
set_option maxRecDepth 20000 in
theorem flX11_146_8 : FL RX11 146 8 2 := ⟨_, RX8, _, _, rfl, by decide, by decide, gT_3 17 rfl rfl, Or.inl rfl⟩
set_option maxRecDepth 20000 in
theorem flX11_146_9 : FL RX11 146 9 2 := ⟨_, RX8, _, _, rfl, by decide, by decide, gT_3 17 rfl rfl, Or.inl rfl⟩
set_option maxRecDepth 20000 in
theorem flX11_146_11 : FL RX11 146 11 2 := ⟨_, RX8, _, _, rfl, by decide, by decide, gT_3 17 rfl rfl, Or.inl rfl⟩
set_option maxRecDepth 20000 in
theorem flX8_28_1 : FL RX8 28 1 3 := ⟨_, RX8, _, _, rfl, by decide, by decide, gT_3 18 rfl rfl, Or.inl rfl⟩
set_option maxRecDepth 20000 in
theorem fpX8_28_1i : FP RX8 true 28 1 3 := ⟨_, RX8, _, _, rfl, by decide, by decide, gT_3 18 rfl rfl, Or.inl rfl, Or.inr ⟨rfl, rfl, rfl⟩⟩
set_option maxRecDepth 20000 in
theorem flX8_28_2 : FL RX8 28 2 3 := ⟨_, RX8, _, _, rfl, by decide, by decide, gT_3 18 rfl rfl, Or.inl rfl⟩
set_option maxRecDepth 20000 in
theorem fpX8_28_2i : FP RX8 true 28 2 3 := ⟨_, RX8, _, _, rfl, by decide, by decide, gT_3 18 rfl rfl, Or.inl rfl, Or.inr ⟨rfl, rfl, rfl⟩⟩
set_option maxRecDepth 20000 in
theorem flX8_28_5 : FL RX8 28 5 3 := ⟨_, RX8, _, _, rfl, by decide, by decide, gT_3 18 rfl rfl, Or.inl rfl⟩
set_option maxRecDepth 20000 in
theorem fpX8_28_5i : FP RX8 true 28 5 3 := ⟨_, RX8, _, _, rfl, by decide, by decide, gT_3 18 rfl rfl, Or.inl rfl, Or.inr ⟨rfl, rfl, rfl⟩⟩
set_option maxRecDepth 20000 in
theorem flX8_28_8 : FL RX8 28 8 3 := ⟨_, RX8, _, _, rfl, by decide, by decide, gT_3 18 rfl rfl, Or.inl rfl⟩
set_option maxRecDepth 20000 in
theorem fpX8_28_8i : FP RX8 true 28 8 3 := ⟨_, RX8, _, _, rfl, by decide, by decide, gT_3 18 rfl rfl, Or.inl rfl, Or.inr ⟨rfl, rfl, rfl⟩⟩
set_option maxRecDepth 20000 in
theorem flX8_28_9 : FL RX8 28 9 3 := ⟨_, RX8, _, _, rfl, by decide, by decide, gT_3 18 rfl rfl, Or.inl rfl⟩
set_option maxRecDepth 20000 in
theorem fpX8_28_9i : FP RX8 true 28 9 3 := ⟨_, RX8, _, _, rfl, by decide, by decide, gT_3 18 rfl rfl, Or.inl rfl, Or.inr ⟨rfl, rfl, rfl⟩⟩
set_option maxRecDepth 20000 in
theorem flX8_28_11 : FL RX8 28 11 3 := ⟨_, RX8, _, _, rfl, by decide, by decide, gT_3 18 rfl rfl, Or.inl rfl⟩
set_option maxRecDepth 20000 in
theorem fpX8_28_11i : FP RX8 true 28 11 3 := ⟨_, RX8, _, _, rfl, by decide, by decide, gT_3 18 rfl rfl, Or.inl rfl, Or.inr ⟨rfl, rfl, rfl⟩⟩
set_option maxRecDepth 20000 in
theorem flX4_7_1 : FL RX4 7 1 3 := ⟨_, RX4, _, _, rfl, by decide, by decide, gT_3 19 rfl rfl, Or.inr (gT_3 20 rfl rfl)⟩
set_option maxRecDepth 20000 in
theorem flX4_7_2 : FL RX4 7 2 3 := ⟨_, RX4, _, _, rfl, by decide, by decide, gT_3 19 rfl rfl, Or.inr (gT_3 20 rfl rfl)⟩
set_option maxRecDepth 20000 in
theorem flX4_7_5 : FL RX4 7 5 3 := ⟨_, RX4, _, _, rfl, by decide, by decide, gT_3 19 rfl rfl, Or.inr (gT_3 20 rfl rfl)⟩
set_option maxRecDepth 20000 in
theorem flX4_7_8 : FL RX4 7 8 3 := ⟨_, RX4, _, _, rfl, by decide, by decide, gT_3 19 rfl rfl, Or.inr (gT_3 20 rfl rfl)⟩
set_option maxRecDepth 20000 in
theorem flX4_7_9 : FL RX4 7 9 3 := ⟨_, RX4, _, _, rfl, by decide, by decide, gT_3 19 rfl rfl, Or.inr (gT_3 20 rfl rfl)⟩
set_option maxRecDepth 20000 in
theorem flX4_7_11 : FL RX4 7 11 3 := ⟨_, RX4, _, _, rfl, by decide, by decide, gT_3 19 rfl rfl, Or.inr (gT_3 20 rfl rfl)⟩
set_option maxRecDepth 20000 in
theorem flX1_11_1 : FL RX1 11 1 3 := ⟨_, RX1, _, _, rfl, by decide, by decide, gT_3 21 rfl rfl, Or.inr (gT_3 22 rfl rfl)⟩
set_option maxRecDepth 20000 in
theorem flX1_11_2 : FL RX1 11 2 3 := ⟨_, RX1, _, _, rfl, by decide, by decide, gT_3 21 rfl rfl, Or.inr (gT_3 22 rfl rfl)⟩
set_option maxRecDepth 20000 in
theorem flX1_11_5 : FL RX1 11 5 3 := ⟨_, RX1, _, _, rfl, by decide, by decide, gT_3 21 rfl rfl, Or.inr (gT_3 22 rfl rfl)⟩
set_option maxRecDepth 20000 in
theorem flX1_11_8 : FL RX1 11 8 3 := ⟨_, RX1, _, _, rfl, by decide, by decide, gT_3 21 rfl rfl, Or.inr (gT_3 22 rfl rfl)⟩
set_option maxRecDepth 20000 in
theorem flX1_11_9 : FL RX1 11 9 3 := ⟨_, RX1, _, _, rfl, by decide, by decide, gT_3 21 rfl rfl, Or.inr (gT_3 22 rfl rfl)⟩
set_option maxRecDepth 20000 in
theorem flX1_11_11 : FL RX1 11 11 3 := ⟨_, RX1, _, _, rfl, by decide, by decide, gT_3 21 rfl rfl, Or.inr (gT_3 22 rfl rfl)⟩
set_option maxRecDepth 20000 in
theorem flX11_149_1 : FL RX11 149 1 3 := ⟨_, RX8, _, _, rfl, by decide, by decide, gT_3 23 rfl rfl, Or.inl rfl⟩
set_option maxRecDepth 20000 in
theorem flX11_149_2 : FL RX11 149 2 3 := ⟨_, RX8, _, _, rfl, by decide, by decide, gT_3 23 rfl rfl, Or.inl rfl⟩
set_option maxRecDepth 20000 in
theorem flX11_149_5 : FL RX11 149 5 3 := ⟨_, RX8, _, _, rfl, by decide, by decide, gT_3 23 rfl rfl, Or.inl rfl⟩
set_option maxRecDepth 20000 in
theorem flX11_149_8 : FL RX11 149 8 3 := ⟨_, RX8, _, _, rfl, by decide, by decide, gT_3 23 rfl rfl, Or.inl rfl⟩
set_option maxRecDepth 20000 in
theorem flX11_149_9 : FL RX11 149 9 3 := ⟨_, RX8, _, _, rfl, by decide, by decide, gT_3 23 rfl rfl, Or.inl rfl⟩
set_option maxRecDepth 20000 in
theorem flX11_149_11 : FL RX11 149 11 3 := ⟨_, RX8, _, _, rfl, by decide, by decide, gT_3 23 rfl rfl, Or.inl rfl⟩
set_option maxRecDepth 20000 in
theorem flX8_31_1 : FL RX8 31 1 4 := ⟨_, RX8, _, _, rfl, by decide, by decide, gT_3 24 rfl rfl, Or.inl rfl⟩
set_option maxRecDepth 20000 in
theorem fpX8_31_1i : FP RX8 true 31 1 4 := ⟨_, RX8, _, _, rfl, by decide, by decide, gT_3 24 rfl rfl, Or.inl rfl, Or.inl rfl⟩
set_option maxRecDepth 20000 in
theorem fpX8_31_1 : FP RX8 false 31 1 4 := ⟨_, RX8, _, _, rfl, by decide, by decide, gT_3 24 rfl rfl, Or.inl rfl, Or.inl rfl⟩
set_option maxRecDepth 20000 in
theorem flX8_31_2 : FL RX8 31 2 4 := ⟨_, RX8, _, _, rfl, by decide, by decide, gT_3 24 rfl rfl, Or.inl rfl⟩
set_option maxRecDepth 20000 in
theorem fpX8_31_2i : FP RX8 true 31 2 4 := ⟨_, RX8, _, _, rfl, by decide, by decide, gT_3 24 rfl rfl, Or.inl rfl, Or.inl rfl⟩
set_option maxRecDepth 20000 in
theorem fpX8_31_2 : FP RX8 false 31 2 4 := ⟨_, RX8, _, _, rfl, by decide, by decide, gT_3 24 rfl rfl, Or.inl rfl, Or.inl rfl⟩
set_option maxRecDepth 20000 in
theorem flX8_31_5 : FL RX8 31 5 4 := ⟨_, RX8, _, _, rfl, by decide, by decide, gT_3 24 rfl rfl, Or.inl rfl⟩
set_option maxRecDepth 20000 in
theorem fpX8_31_5i : FP RX8 true 31 5 4 := ⟨_, RX8, _, _, rfl, by decide, by decide, gT_3 24 rfl rfl, Or.inl rfl, Or.inl rfl⟩
set_option maxRecDepth 20000 in
theorem fpX8_31_5 : FP RX8 false 31 5 4 := ⟨_, RX8, _, _, rfl, by decide, by decide, gT_3 24 rfl rfl, Or.inl rfl, Or.inl rfl⟩
set_option maxRecDepth 20000 in
theorem flX8_31_8 : FL RX8 31 8 4 := ⟨_, RX8, _, _, rfl, by decide, by decide, gT_3 24 rfl rfl, Or.inl rfl⟩
set_option maxRecDepth 20000 in
theorem fpX8_31_8i : FP RX8 true 31 8 4 := ⟨_, RX8, _, _, rfl, by decide, by decide, gT_3 24 rfl rfl, Or.inl rfl, Or.inl rfl⟩
set_option maxRecDepth 20000 in
theorem fpX8_31_8 : FP RX8 false 31 8 4 := ⟨_, RX8, _, _, rfl, by decide, by decide, gT_3 24 rfl rfl, Or.inl rfl, Or.inl rfl⟩
set_option maxRecDepth 20000 in
theorem flX8_31_9 : FL RX8 31 9 4 := ⟨_, RX8, _, _, rfl, by decide, by decide, gT_3 24 rfl rfl, Or.inl rfl⟩
set_option maxRecDepth 20000 in
theorem fpX8_31_9i : FP RX8 true 31 9 4 := ⟨_, RX8, _, _, rfl, by decide, by decide, gT_3 24 rfl rfl, Or.inl rfl, Or.inl rfl⟩
set_option maxRecDepth 20000 in
theorem fpX8_31_9 : FP RX8 false 31 9 4 := ⟨_, RX8, _, _, rfl, by decide, by decide, gT_3 24 rfl rfl, Or.inl rfl, Or.inl rfl⟩
set_option maxRecDepth 20000 in
theorem flX8_31_11 : FL RX8 31 11 4 := ⟨_, RX8, _, _, rfl, by decide, by decide, gT_3 24 rfl rfl, Or.inl rfl⟩
set_option maxRecDepth 20000 in
theorem fpX8_31_11i : FP RX8 true 31 11 4 := ⟨_, RX8, _, _, rfl, by decide, by decide, gT_3 24 rfl rfl, Or.inl rfl, Or.inl rfl⟩
set_option maxRecDepth 20000 in
theorem fpX8_31_11 : FP RX8 false 31 11 4 := ⟨_, RX8, _, _, rfl, by decide, by decide, gT_3 24 rfl rfl, Or.inl rfl, Or.inl rfl⟩
set_option maxRecDepth 20000 in
theorem flX11_151_1 : FL RX11 151 1 4 := ⟨_, RX8, _, _, rfl, by decide, by decide, gT_3 25 rfl rfl, Or.inl rfl⟩
set_option maxRecDepth 20000 in
theorem flX11_151_2 : FL RX11 151 2 4 := ⟨_, RX8, _, _, rfl, by decide, by decide, gT_3 25 rfl rfl, Or.inl rfl⟩
set_option maxRecDepth 20000 in
theorem flX11_151_5 : FL RX11 151 5 4 := ⟨_, RX8, _, _, rfl, by decide, by decide, gT_3 25 rfl rfl, Or.inl rfl⟩
set_option maxRecDepth 20000 in
theorem flX11_151_8 : FL RX11 151 8 4 := ⟨_, RX8, _, _, rfl, by decide, by decide, gT_3 25 rfl rfl, Or.inl rfl⟩
set_option maxRecDepth 20000 in
theorem flX11_151_9 : FL RX11 151 9 4 := ⟨_, RX8, _, _, rfl, by decide, by decide, gT_3 25 rfl rfl, Or.inl rfl⟩
set_option maxRecDepth 20000 in
theorem flX11_151_11 : FL RX11 151 11 4 := ⟨_, RX8, _, _, rfl, by decide, by decide, gT_3 25 rfl rfl, Or.inl rfl⟩
set_option maxRecDepth 20000 in
theorem flX8_7_1 : FL RX8 7 1 5 := ⟨_, RX8, _, _, rfl, by decide, by decide, gT_3 26 rfl rfl, Or.inl rfl⟩
set_option maxRecDepth 20000 in
theorem fpX8_7_1i : FP RX8 true 7 1 5 := ⟨_, RX8, _, _, rfl, by decide, by decide, gT_3 26 rfl rfl, Or.inl rfl, Or.inl rfl⟩
set_option maxRecDepth 20000 in
theorem fpX8_7_1 : FP RX8 false 7 1 5 := ⟨_, RX8, _, _, rfl, by decide, by decide, gT_3 26 rfl rfl, Or.inl rfl, Or.inl rfl⟩
set_option maxRecDepth 20000 in
theorem flX8_7_2 : FL RX8 7 2 5 := ⟨_, RX8, _, _, rfl, by decide, by decide, gT_3 26 rfl rfl, Or.inl rfl⟩
set_option maxRecDepth 20000 in
theorem fpX8_7_2i : FP RX8 true 7 2 5 := ⟨_, RX8, _, _, rfl, by decide, by decide, gT_3 26 rfl rfl, Or.inl rfl, Or.inl rfl⟩
set_option maxRecDepth 20000 in
theorem fpX8_7_2 : FP RX8 false 7 2 5 := ⟨_, RX8, _, _, rfl, by decide, by decide, gT_3 26 rfl rfl, Or.inl rfl, Or.inl rfl⟩
set_option maxRecDepth 20000 in
theorem flX8_7_5 : FL RX8 7 5 5 := ⟨_, RX8, _, _, rfl, by decide, by decide, gT_3 26 rfl rfl, Or.inl rfl⟩
set_option maxRecDepth 20000 in
theorem fpX8_7_5i : FP RX8 true 7 5 5 := ⟨_, RX8, _, _, rfl, by decide, by decide, gT_3 26 rfl rfl, Or.inl rfl, Or.inl rfl⟩
set_option maxRecDepth 20000 in
theorem fpX8_7_5 : FP RX8 false 7 5 5 := ⟨_, RX8, _, _, rfl, by decide, by decide, gT_3 26 rfl rfl, Or.inl rfl, Or.inl rfl⟩
set_option maxRecDepth 20000 in
theorem flX8_7_8 : FL RX8 7 8 5 := ⟨_, RX8, _, _, rfl, by decide, by decide, gT_3 26 rfl rfl, Or.inl rfl⟩
set_option maxRecDepth 20000 in
theorem fpX8_7_8i : FP RX8 true 7 8 5 := ⟨_, RX8, _, _, rfl, by decide, by decide, gT_3 26 rfl rfl, Or.inl rfl, Or.inl rfl⟩
set_option maxRecDepth 20000 in
theorem fpX8_7_8 : FP RX8 false 7 8 5 := ⟨_, RX8, _, _, rfl, by decide, by decide, gT_3 26 rfl rfl, Or.inl rfl, Or.inl rfl⟩
set_option maxRecDepth 20000 in
theorem flX8_7_9 : FL RX8 7 9 5 := ⟨_, RX8, _, _, rfl, by decide, by decide, gT_3 26 rfl rfl, Or.inl rfl⟩
set_option maxRecDepth 20000 in
theorem fpX8_7_9i : FP RX8 true 7 9 5 := ⟨_, RX8, _, _, rfl, by decide, by decide, gT_3 26 rfl rfl, Or.inl rfl, Or.inl rfl⟩
set_option maxRecDepth 20000 in
theorem fpX8_7_9 : FP RX8 false 7 9 5 := ⟨_, RX8, _, _, rfl, by decide, by decide, gT_3 26 rfl rfl, Or.inl rfl, Or.inl rfl⟩
set_option maxRecDepth 20000 in
theorem flX8_7_11 : FL RX8 7 11 5 := ⟨_, RX8, _, _, rfl, by decide, by decide, gT_3 26 rfl rfl, Or.inl rfl⟩
set_option maxRecDepth 20000 in
theorem fpX8_7_11i : FP RX8 true 7 11 5 := ⟨_, RX8, _, _, rfl, by decide, by decide, gT_3 26 rfl rfl, Or.inl rfl, Or.inl rfl⟩
set_option maxRecDepth 20000 in
theorem fpX8_7_11 : FP RX8 false 7 11 5 := ⟨_, RX8, _, _, rfl, by decide, by decide, gT_3 26 rfl rfl, Or.inl rfl, Or.inl rfl⟩
set_option maxRecDepth 20000 in
theorem flX11_154_1 : FL RX11 154 1 5 := ⟨_, RX8, _, _, rfl, by decide, by decide, gT_3 27 rfl rfl, Or.inl rfl⟩
set_option maxRecDepth 20000 in
theorem flX11_154_2 : FL RX11 154 2 5 := ⟨_, RX8, _, _, rfl, by decide, by decide, gT_3 27 rfl rfl, Or.inl rfl⟩
set_option maxRecDepth 20000 in
theorem flX11_154_5 : FL RX11 154 5 5 := ⟨_, RX8, _, _, rfl, by decide, by decide, gT_3 27 rfl rfl, Or.inl rfl⟩
set_option maxRecDepth 20000 in
theorem flX11_154_8 : FL RX11 154 8 5 := ⟨_, RX8, _, _, rfl, by decide, by decide, gT_3 27 rfl rfl, Or.inl rfl⟩
set_option maxRecDepth 20000 in
theorem flX11_154_9 : FL RX11 154 9 5 := ⟨_, RX8, _, _, rfl, by decide, by decide, gT_3 27 rfl rfl, Or.inl rfl⟩
set_option maxRecDepth 20000 in
theorem flX11_154_11 : FL RX11 154 11 5 := ⟨_, RX8, _, _, rfl, by decide, by decide, gT_3 27 rfl rfl, Or.inl rfl⟩
set_option maxRecDepth 20000 in
theorem flX8_13_1 : FL RX8 13 1 6 := ⟨_, RX8, _, _, rfl, by decide, by decide, gT_3 28 rfl rfl, Or.inl rfl⟩
set_option maxRecDepth 20000 in
theorem fpX8_13_1i : FP RX8 true 13 1 6 := ⟨_, RX8, _, _, rfl, by decide, by decide, gT_3 28 rfl rfl, Or.inl rfl, Or.inl rfl⟩
set_option maxRecDepth 20000 in
theorem fpX8_13_1 : FP RX8 false 13 1 6 := ⟨_, RX8, _, _, rfl, by decide, by decide, gT_3 28 rfl rfl, Or.inl rfl, Or.inl rfl⟩
set_option maxRecDepth 20000 in
theorem flX8_13_2 : FL RX8 13 2 6 := ⟨_, RX8, _, _, rfl, by decide, by decide, gT_3 28 rfl rfl, Or.inl rfl⟩
set_option maxRecDepth 20000 in
theorem fpX8_13_2i : FP RX8 true 13 2 6 := ⟨_, RX8, _, _, rfl, by decide, by decide, gT_3 28 rfl rfl, Or.inl rfl, Or.inl rfl⟩
set_option maxRecDepth 20000 in
theorem fpX8_13_2 : FP RX8 false 13 2 6 := ⟨_, RX8, _, _, rfl, by decide, by decide, gT_3 28 rfl rfl, Or.inl rfl, Or.inl rfl⟩
set_option maxRecDepth 20000 in
theorem flX8_13_5 : FL RX8 13 5 6 := ⟨_, RX8, _, _, rfl, by decide, by decide, gT_3 28 rfl rfl, Or.inl rfl⟩
set_option maxRecDepth 20000 in
theorem fpX8_13_5i : FP RX8 true 13 5 6 := ⟨_, RX8, _, _, rfl, by decide, by decide, gT_3 28 rfl rfl, Or.inl rfl, Or.inl rfl⟩
set_option maxRecDepth 20000 in
theorem fpX8_13_5 : FP RX8 false 13 5 6 := ⟨_, RX8, _, _, rfl, by decide, by decide, gT_3 28 rfl rfl, Or.inl rfl, Or.inl rfl⟩
set_option maxRecDepth 20000 in
theorem flX8_13_8 : FL RX8 13 8 6 := ⟨_, RX8, _, _, rfl, by decide, by decide, gT_3 28 rfl rfl, Or.inl rfl⟩
set_option maxRecDepth 20000 in
theorem fpX8_13_8i : FP RX8 true 13 8 6 := ⟨_, RX8, _, _, rfl, by decide, by decide, gT_3 28 rfl rfl, Or.inl rfl, Or.inl rfl⟩
set_option maxRecDepth 20000 in
theorem fpX8_13_8 : FP RX8 false 13 8 6 := ⟨_, RX8, _, _, rfl, by decide, by decide, gT_3 28 rfl rfl, Or.inl rfl, Or.inl rfl⟩
set_option maxRecDepth 20000 in
theorem flX8_13_9 : FL RX8 13 9 6 := ⟨_, RX8, _, _, rfl, by decide, by decide, gT_3 28 rfl rfl, Or.inl rfl⟩
set_option maxRecDepth 20000 in
theorem fpX8_13_9i : FP RX8 true 13 9 6 := ⟨_, RX8, _, _, rfl, by decide, by decide, gT_3 28 rfl rfl, Or.inl rfl, Or.inl rfl⟩
set_option maxRecDepth 20000 in
theorem fpX8_13_9 : FP RX8 false 13 9 6 := ⟨_, RX8, _, _, rfl, by decide, by decide, gT_3 28 rfl rfl, Or.inl rfl, Or.inl rfl⟩
set_option maxRecDepth 20000 in
theorem flX8_13_11 : FL RX8 13 11 6 := ⟨_, RX8, _, _, rfl, by decide, by decide, gT_3 28 rfl rfl, Or.inl rfl⟩
set_option maxRecDepth 20000 in
theorem fpX8_13_11i : FP RX8 true 13 11 6 := ⟨_, RX8, _, _, rfl, by decide, by decide, gT_3 28 rfl rfl, Or.inl rfl, Or.inl rfl⟩
set_option maxRecDepth 20000 in
theorem fpX8_13_11 : FP RX8 false 13 11 6 := ⟨_, RX8, _, _, rfl, by decide, by decide, gT_3 28 rfl rfl, Or.inl rfl, Or.inl rfl⟩
set_option maxRecDepth 20000 in
theorem flX11_157_1 : FL RX11 157 1 6 := ⟨_, RX8, _, _, rfl, by decide, by decide, gT_3 29 rfl rfl, Or.inl rfl⟩
set_option maxRecDepth 20000 in
theorem flX11_157_2 : FL RX11 157 2 6 := ⟨_, RX8, _, _, rfl, by decide, by decide, gT_3 29 rfl rfl, Or.inl rfl⟩
set_option maxRecDepth 20000 in
theorem flX11_157_5 : FL RX11 157 5 6 := ⟨_, RX8, _, _, rfl, by decide, by decide, gT_3 29 rfl rfl, Or.inl rfl⟩
set_option maxRecDepth 20000 in
theorem flX11_157_8 : FL RX11 157 8 6 := ⟨_, RX8, _, _, rfl, by decide, by decide, gT_3 29 rfl rfl, Or.inl rfl⟩
set_option maxRecDepth 20000 in
theorem flX11_157_9 : FL RX11 157 9 6 := ⟨_, RX8, _, _, rfl, by decide, by decide, gT_3 29 rfl rfl, Or.inl rfl⟩
set_option maxRecDepth 20000 in
theorem flX11_157_11 : FL RX11 157 11 6 := ⟨_, RX8, _, _, rfl, by decide, by decide, gT_3 29 rfl rfl, Or.inl rfl⟩
set_option maxRecDepth 20000 in
theorem flX8_16_1 : FL RX8 16 1 7 := ⟨_, RX8, _, _, rfl, by decide, by decide, gT_3 30 rfl rfl, Or.inl rfl⟩
set_option maxRecDepth 20000 in
theorem fpX8_16_1i : FP RX8 true 16 1 7 := ⟨_, RX8, _, _, rfl, by decide, by decide, gT_3 30 rfl rfl, Or.inl rfl, Or.inl rfl⟩
set_option maxRecDepth 20000 in
theorem fpX8_16_1 : FP RX8 false 16 1 7 := ⟨_, RX8, _, _, rfl, by decide, by decide, gT_3 30 rfl rfl, Or.inl rfl, Or.inl rfl⟩
set_option maxRecDepth 20000 in
theorem flX8_16_2 : FL RX8 16 2 7 := ⟨_, RX8, _, _, rfl, by decide, by decide, gT_3 30 rfl rfl, Or.inl rfl⟩
set_option maxRecDepth 20000 in
theorem fpX8_16_2i : FP RX8 true 16 2 7 := ⟨_, RX8, _, _, rfl, by decide, by decide, gT_3 30 rfl rfl, Or.inl rfl, Or.inl rfl⟩
set_option maxRecDepth 20000 in
theorem fpX8_16_2 : FP RX8 false 16 2 7 := ⟨_, RX8, _, _, rfl, by decide, by decide, gT_3 30 rfl rfl, Or.inl rfl, Or.inl rfl⟩
set_option maxRecDepth 20000 in
theorem flX8_16_5 : FL RX8 16 5 7 := ⟨_, RX8, _, _, rfl, by decide, by decide, gT_3 30 rfl rfl, Or.inl rfl⟩
set_option maxRecDepth 20000 in
theorem fpX8_16_5i : FP RX8 true 16 5 7 := ⟨_, RX8, _, _, rfl, by decide, by decide, gT_3 30 rfl rfl, Or.inl rfl, Or.inl rfl⟩
set_option maxRecDepth 20000 in
theorem fpX8_16_5 : FP RX8 false 16 5 7 := ⟨_, RX8, _, _, rfl, by decide, by decide, gT_3 30 rfl rfl, Or.inl rfl, Or.inl rfl⟩
set_option maxRecDepth 20000 in
theorem flX8_16_8 : FL RX8 16 8 7 := ⟨_, RX8, _, _, rfl, by decide, by decide, gT_3 30 rfl rfl, Or.inl rfl⟩
set_option maxRecDepth 20000 in
theorem fpX8_16_8i : FP RX8 true 16 8 7 := ⟨_, RX8, _, _, rfl, by decide, by decide, gT_3 30 rfl rfl, Or.inl rfl, Or.inl rfl⟩
set_option maxRecDepth 20000 in
theorem fpX8_16_8 : FP RX8 false 16 8 7 := ⟨_, RX8, _, _, rfl, by decide, by decide, gT_3 30 rfl rfl, Or.inl rfl, Or.inl rfl⟩
set_option maxRecDepth 20000 in
theorem flX8_16_9 : FL RX8 16 9 7 := ⟨_, RX8, _, _, rfl, by decide, by decide, gT_3 30 rfl rfl, Or.inl rfl⟩
set_option maxRecDepth 20000 in
theorem fpX8_16_9i : FP RX8 true 16 9 7 := ⟨_, RX8, _, _, rfl, by decide, by decide, gT_3 30 rfl rfl, Or.inl rfl, Or.inl rfl⟩
set_option maxRecDepth 20000 in
theorem fpX8_16_9 : FP RX8 false 16 9 7 := ⟨_, RX8, _, _, rfl, by decide, by decide, gT_3 30 rfl rfl, Or.inl rfl, Or.inl rfl⟩
set_option maxRecDepth 20000 in
theorem flX8_16_11 : FL RX8 16 11 7 := ⟨_, RX8, _, _, rfl, by decide, by decide, gT_3 30 rfl rfl, Or.inl rfl⟩
set_option maxRecDepth 20000 in
theorem fpX8_16_11i : FP RX8 true 16 11 7 := ⟨_, RX8, _, _, rfl, by decide, by decide, gT_3 30 rfl rfl, Or.inl rfl, Or.inl rfl⟩
set_option maxRecDepth 20000 in
theorem fpX8_16_11 : FP RX8 false 16 11 7 := ⟨_, RX8, _, _, rfl, by decide, by decide, gT_3 30 rfl rfl, Or.inl rfl, Or.inl rfl⟩
set_option maxRecDepth 20000 in
theorem flX1_24_1 : FL RX1 24 1 7 := ⟨_, RX1, _, _, rfl, by decide, by decide, gT_3 31 rfl rfl, Or.inr (gT_3 32 rfl rfl)⟩
set_option maxRecDepth 20000 in
theorem flX1_24_2 : FL RX1 24 2 7 := ⟨_, RX1, _, _, rfl, by decide, by decide, gT_3 31 rfl rfl, Or.inr (gT_3 32 rfl rfl)⟩
set_option maxRecDepth 20000 in
theorem flX1_24_5 : FL RX1 24 5 7 := ⟨_, RX1, _, _, rfl, by decide, by decide, gT_3 31 rfl rfl, Or.inr (gT_3 32 rfl rfl)⟩
set_option maxRecDepth 20000 in
theorem flX1_24_8 : FL RX1 24 8 7 := ⟨_, RX1, _, _, rfl, by decide, by decide, gT_3 31 rfl rfl, Or.inr (gT_3 32 rfl rfl)⟩
set_option maxRecDepth 20000 in
theorem flX1_24_9 : FL RX1 24 9 7 := ⟨_, RX1, _, _, rfl, by decide, by decide, gT_3 31 rfl rfl, Or.inr (gT_3 32 rfl rfl)⟩
set_option maxRecDepth 20000 in
theorem flX1_24_11 : FL RX1 24 11 7 := ⟨_, RX1, _, _, rfl, by decide, by decide, gT_3 31 rfl rfl, Or.inr (gT_3 32 rfl rfl)⟩
set_option maxRecDepth 20000 in
theorem flX11_160_1 : FL RX11 160 1 7 := ⟨_, RX8, _, _, rfl, by decide, by decide, gT_3 33 rfl rfl, Or.inl rfl⟩
set_option maxRecDepth 20000 in
theorem flX11_160_2 : FL RX11 160 2 7 := ⟨_, RX8, _, _, rfl, by decide, by decide, gT_3 33 rfl rfl, Or.inl rfl⟩
set_option maxRecDepth 20000 in
theorem flX11_160_5 : FL RX11 160 5 7 := ⟨_, RX8, _, _, rfl, by decide, by decide, gT_3 33 rfl rfl, Or.inl rfl⟩
set_option maxRecDepth 20000 in
theorem flX11_160_8 : FL RX11 160 8 7 := ⟨_, RX8, _, _, rfl, by decide, by decide, gT_3 33 rfl rfl, Or.inl rfl⟩
set_option maxRecDepth 20000 in
theorem flX11_160_9 : FL RX11 160 9 7 := ⟨_, RX8, _, _, rfl, by decide, by decide, gT_3 33 rfl rfl, Or.inl rfl⟩
set_option maxRecDepth 20000 in
theorem flX11_160_11 : FL RX11 160 11 7 := ⟨_, RX8, _, _, rfl, by decide, by decide, gT_3 33 rfl rfl, Or.inl rfl⟩
set_option maxRecDepth 20000 in
theorem flX3_7_4 : FL RX3 7 4 0 := ⟨_, RX3, _, _, rfl, by decide, by decide, gT_4 37 rfl rfl, Or.inl rfl⟩
set_option maxRecDepth 20000 in
theorem fpX3_7_4i : FP RX3 true 7 4 0 := ⟨_, RX3, _, _, rfl, by decide, by decide, gT_4 37 rfl rfl, Or.inl rfl, Or.inr ⟨rfl, rfl, rfl⟩⟩
set_option maxRecDepth 20000 in
theorem flX2_30_4 : FL RX2 30 4 0 := ⟨_, RX3, _, _, rfl, by decide, by decide, gT_4 38 rfl rfl, Or.inl rfl⟩
set_option maxRecDepth 20000 in
theorem flX11_270_4 : FL RX11 270 4 0 := ⟨_, RX3, _, _, rfl, by decide, by decide, gT_4 39 rfl rfl, Or.inl rfl⟩
set_option maxRecDepth 20000 in
theorem flX3_13_4 : FL RX3 13 4 1 := ⟨_, RX3, _, _, rfl, by decide, by decide, gT_4 40 rfl rfl, Or.inl rfl⟩
set_option maxRecDepth 20000 in
theorem fpX3_13_4i : FP RX3 true 13 4 1 := ⟨_, RX3, _, _, rfl, by decide, by decide, gT_4 40 rfl rfl, Or.inl rfl, Or.inr ⟨rfl, rfl, rfl⟩⟩
set_option maxRecDepth 20000 in
theorem flX2_35_4 : FL RX2 35 4 1 := ⟨_, RX3, _, _, rfl, by decide, by decide, gT_4 41 rfl rfl, Or.inl rfl⟩
set_option maxRecDepth 20000 in
theorem flX11_273_4 : FL RX11 273 4 1 := ⟨_, RX3, _, _, rfl, by decide, by decide, gT_4 42 rfl rfl, Or.inl rfl⟩
set_option maxRecDepth 20000 in
theorem flX3_16_4 : FL RX3 16 4 2 := ⟨_, RX3, _, _, rfl, by decide, by decide, gT_4 43 rfl rfl, Or.inl rfl⟩
set_option maxRecDepth 20000 in
theorem fpX3_16_4i : FP RX3 true 16 4 2 := ⟨_, RX3, _, _, rfl, by decide, by decide, gT_4 43 rfl rfl, Or.inl rfl, Or.inr ⟨rfl, rfl, rfl⟩⟩
set_option maxRecDepth 20000 in
theorem flX2_38_4 : FL RX2 38 4 2 := ⟨_, RX3, _, _, rfl, by decide, by decide, gT_4 44 rfl rfl, Or.inl rfl⟩
set_option maxRecDepth 20000 in
theorem flX11_264_4 : FL RX11 264 4 2 := ⟨_, RX3, _, _, rfl, by decide, by decide, gT_4 45 rfl rfl, Or.inl rfl⟩
set_option maxRecDepth 20000 in
theorem flX3_19_4 : FL RX3 19 4 3 := ⟨_, RX3, _, _, rfl, by decide, by decide, gT_4 46 rfl rfl, Or.inl rfl⟩
set_option maxRecDepth 20000 in
theorem fpX3_19_4i : FP RX3 true 19 4 3 := ⟨_, RX3, _, _, rfl, by decide, by decide, gT_4 46 rfl rfl, Or.inl rfl, Or.inr ⟨rfl, rfl, rfl⟩⟩
set_option maxRecDepth 20000 in
theorem flX11_257_4 : FL RX11 257 4 3 := ⟨_, RX3, _, _, rfl, by decide, by decide, gT_4 47 rfl rfl, Or.inl rfl⟩
set_option maxRecDepth 20000 in
theorem flX3_22_4 : FL RX3 22 4 4 := ⟨_, RX3, _, _, rfl, by decide, by decide, gT_4 48 rfl rfl, Or.inl rfl⟩
set_option maxRecDepth 20000 in
theorem fpX3_22_4i : FP RX3 true 22 4 4 := ⟨_, RX3, _, _, rfl, by decide, by decide, gT_4 48 rfl rfl, Or.inl rfl, Or.inr ⟨rfl, rfl, rfl⟩⟩
set_option maxRecDepth 20000 in
theorem flX11_199_4 : FL RX11 199 4 4 := ⟨_, RX3, _, _, rfl, by decide, by decide, gT_4 49 rfl rfl, Or.inl rfl⟩
set_option maxRecDepth 20000 in
theorem flX12_13_13 : FL RX12 13 13 1 := ⟨_, RX12, _, _, rfl, by decide, by decide, gT_5 138 rfl rfl, Or.inl rfl⟩
set_option maxRecDepth 20000 in
theorem fpX12_13_13i : FP RX12 true 13 13 1 := ⟨_, RX12, _, _, rfl, by decide, by decide, gT_5 138 rfl rfl, Or.inl rfl, Or.inr ⟨rfl, rfl, rfl⟩⟩
set_option maxRecDepth 20000 in
theorem flX12_17_13 : FL RX12 17 13 2 := ⟨_, RX12, _, _, rfl, by decide, by decide, gT_5 139 rfl rfl, Or.inl rfl⟩
set_option maxRecDepth 20000 in
theorem fpX12_17_13i : FP RX12 true 17 13 2 := ⟨_, RX12, _, _, rfl, by decide, by decide, gT_5 139 rfl rfl, Or.inl rfl, Or.inr ⟨rfl, rfl, rfl⟩⟩
set_option maxRecDepth 20000 in
theorem flX12_117_13 : FL RX12 117 13 3 := ⟨_, RX12, _, _, rfl, by decide, by decide, gT_5 140 rfl rfl, Or.inl rfl⟩
set_option maxRecDepth 20000 in
theorem fpX12_117_13i : FP RX12 true 117 13 3 := ⟨_, RX12, _, _, rfl, by decide, by decide, gT_5 140 rfl rfl, Or.inl rfl, Or.inl rfl⟩
set_option maxRecDepth 20000 in
theorem fpX12_117_13 : FP RX12 false 117 13 3 := ⟨_, RX12, _, _, rfl, by decide, by decide, gT_5 140 rfl rfl, Or.inl rfl, Or.inl rfl⟩
set_option maxRecDepth 20000 in
theorem flX12_149_13 : FL RX12 149 13 4 := ⟨_, RX12, _, _, rfl, by decide, by decide, gT_5 141 rfl rfl, Or.inl rfl⟩
set_option maxRecDepth 20000 in
theorem fpX12_149_13 : FP RX12 false 149 13 4 := ⟨_, RX12, _, _, rfl, by decide, by decide, gT_5 141 rfl rfl, Or.inl rfl, Or.inl rfl⟩
set_option maxRecDepth 20000 in
theorem flX12_20_13 : FL RX12 20 13 5 := ⟨_, RX12, _, _, rfl, by decide, by decide, gT_5 142 rfl rfl, Or.inl rfl⟩
set_option maxRecDepth 20000 in
theorem fpX12_20_13i : FP RX12 true 20 13 5 := ⟨_, RX12, _, _, rfl, by decide, by decide, gT_5 142 rfl rfl, Or.inl rfl, Or.inr ⟨rfl, rfl, rfl⟩⟩
set_option maxRecDepth 20000 in
theorem flX12_242_13 : FL RX12 242 13 6 := ⟨_, RX12, _, _, rfl, by decide, by decide, gT_5 143 rfl rfl, Or.inl rfl⟩
set_option maxRecDepth 20000 in
theorem fpX12_242_13 : FP RX12 false 242 13 6 := ⟨_, RX12, _, _, rfl, by decide, by decide, gT_5 143 rfl rfl, Or.inl rfl, Or.inl rfl⟩
set_option maxRecDepth 20000 in
theorem flX12_23_13 : FL RX12 23 13 7 := ⟨_, RX12, _, _, rfl, by decide, by decide, gT_5 144 rfl rfl, Or.inl rfl⟩
set_option maxRecDepth 20000 in
theorem fpX12_23_13i : FP RX12 true 23 13 7 := ⟨_, RX12, _, _, rfl, by decide, by decide, gT_5 144 rfl rfl, Or.inl rfl, Or.inr ⟨rfl, rfl, rfl⟩⟩
set_option maxRecDepth 20000 in
theorem flX12_26_13 : FL RX12 26 13 8 := ⟨_, RX12, _, _, rfl, by decide, by decide, gT_5 145 rfl rfl, Or.inl rfl⟩
set_option maxRecDepth 20000 in
theorem fpX12_26_13i : FP RX12 true 26 13 8 := ⟨_, RX12, _, _, rfl, by decide, by decide, gT_5 145 rfl rfl, Or.inl rfl, Or.inr ⟨rfl, rfl, rfl⟩⟩
set_option maxRecDepth 20000 in
theorem flX12_29_13 : FL RX12 29 13 9 := ⟨_, RX12, _, _, rfl, by decide, by decide, gT_5 146 rfl rfl, Or.inl rfl⟩
set_option maxRecDepth 20000 in
theorem fpX12_29_13i : FP RX12 true 29 13 9 := ⟨_, RX12, _, _, rfl, by decide, by decide, gT_5 146 rfl rfl, Or.inl rfl, Or.inr ⟨rfl, rfl, rfl⟩⟩
set_option maxRecDepth 20000 in
theorem flX12_32_13 : FL RX12 32 13 10 := ⟨_, RX12, _, _, rfl, by decide, by decide, gT_5 147 rfl rfl, Or.inl rfl⟩
set_option maxRecDepth 20000 in
theorem fpX12_32_13i : FP RX12 true 32 13 10 := ⟨_, RX12, _, _, rfl, by decide, by decide, gT_5 147 rfl rfl, Or.inl rfl, Or.inr ⟨rfl, rfl, rfl⟩⟩
set_option maxRecDepth 20000 in
theorem flX12_35_13 : FL RX12 35 13 11 := ⟨_, RX12, _, _, rfl, by decide, by decide, gT_5 148 rfl rfl, Or.inl rfl⟩
set_option maxRecDepth 20000 in
theorem fpX12_35_13i : FP RX12 true 35 13 11 := ⟨_, RX12, _, _, rfl, by decide, by decide, gT_5 148 rfl rfl, Or.inl rfl, Or.inr ⟨rfl, rfl, rfl⟩⟩
set_option maxRecDepth 20000 in
theorem flX12_38_13 : FL RX12 38 13 12 := ⟨_, RX12, _, _, rfl, by decide, by decide, gT_5 149 rfl rfl, Or.inl rfl⟩
set_option maxRecDepth 20000 in
theorem fpX12_38_13i : FP RX12 true 38 13 12 := ⟨_, RX12, _, _, rfl, by decide, by decide, gT_5 149 rfl rfl, Or.inl rfl, Or.inr ⟨rfl, rfl, rfl⟩⟩
set_option maxRecDepth 20000 in
theorem flX12_41_13 : FL RX12 41 13 13 := ⟨_, RX12, _, _, rfl, by decide, by decide, gT_5 150 rfl rfl, Or.inl rfl⟩
set_option maxRecDepth 20000 in
theorem fpX12_41_13i : FP RX12 true 41 13 13 := ⟨_, RX12, _, _, rfl, by decide, by decide, gT_5 150 rfl rfl, Or.inl rfl, Or.inr ⟨rfl, rfl, rfl⟩⟩
set_option maxRecDepth 20000 in
theorem flX12_122_13 : FL RX12 122 13 14 := ⟨_, RX12, _, _, rfl, by decide, by decide, gT_5 151 rfl rfl, Or.inl rfl⟩
set_option maxRecDepth 20000 in
theorem fpX12_122_13 : FP RX12 false 122 13 14 := ⟨_, RX12, _, _, rfl, by decide, by decide, gT_5 151 rfl rfl, Or.inl rfl, Or.inl rfl⟩
set_option maxRecDepth 20000 in
theorem flX12_44_13 : FL RX12 44 13 15 := ⟨_, RX12, _, _, rfl, by decide, by decide, gT_5 152 rfl rfl, Or.inl rfl⟩
set_option maxRecDepth 20000 in
theorem fpX12_44_13i : FP RX12 true 44 13 15 := ⟨_, RX12, _, _, rfl, by decide, by decide, gT_5 152 rfl rfl, Or.inl rfl, Or.inr ⟨rfl, rfl, rfl⟩⟩
set_option maxRecDepth 20000 in
theorem flX12_47_13 : FL RX12 47 13 16 := ⟨_, RX12, _, _, rfl, by decide, by decide, gT_5 153 rfl rfl, Or.inl rfl⟩
set_option maxRecDepth 20000 in
theorem fpX12_47_13i : FP RX12 true 47 13 16 := ⟨_, RX12, _, _, rfl, by decide, by decide, gT_5 153 rfl rfl, Or.inl rfl, Or.inr ⟨rfl, rfl, rfl⟩⟩
set_option maxRecDepth 20000 in
theorem flX12_50_13 : FL RX12 50 13 17 := ⟨_, RX12, _, _, rfl, by decide, by decide, gT_5 154 rfl rfl, Or.inl rfl⟩
set_option maxRecDepth 20000 in
theorem fpX12_50_13i : FP RX12 true 50 13 17 := ⟨_, RX12, _, _, rfl, by decide, by decide, gT_5 154 rfl rfl, Or.inl rfl, Or.inr ⟨rfl, rfl, rfl⟩⟩
set_option maxRecDepth 20000 in
theorem flX12_129_13 : FL RX12 129 13 18 := ⟨_, RX12, _, _, rfl, by decide, by decide, gT_5 155 rfl rfl, Or.inl rfl⟩
set_option maxRecDepth 20000 in
theorem fpX12_129_13 : FP RX12 false 129 13 18 := ⟨_, RX12, _, _, rfl, by decide, by decide, gT_5 155 rfl rfl, Or.inl rfl, Or.inl rfl⟩
set_option maxRecDepth 20000 in
theorem flX12_206_13 : FL RX12 206 13 19 := ⟨_, RX12, _, _, rfl, by decide, by decide, gT_5 156 rfl rfl, Or.inl rfl⟩
set_option maxRecDepth 20000 in
theorem fpX12_206_13 : FP RX12 false 206 13 19 := ⟨_, RX12, _, _, rfl, by decide, by decide, gT_5 156 rfl rfl, Or.inl rfl, Or.inl rfl⟩
set_option maxRecDepth 20000 in
theorem flX12_53_13 : FL RX12 53 13 20 := ⟨_, RX12, _, _, rfl, by decide, by decide, gT_5 157 rfl rfl, Or.inl rfl⟩
set_option maxRecDepth 20000 in
theorem fpX12_53_13i : FP RX12 true 53 13 20 := ⟨_, RX12, _, _, rfl, by decide, by decide, gT_5 157 rfl rfl, Or.inl rfl, Or.inr ⟨rfl, rfl, rfl⟩⟩
set_option maxRecDepth 20000 in
theorem flX12_56_13 : FL RX12 56 13 21 := ⟨_, RX12, _, _, rfl, by decide, by decide, gT_5 158 rfl rfl, Or.inl rfl⟩
set_option maxRecDepth 20000 in
theorem fpX12_56_13i : FP RX12 true 56 13 21 := ⟨_, RX12, _, _, rfl, by decide, by decide, gT_5 158 rfl rfl, Or.inl rfl, Or.inr ⟨rfl, rfl, rfl⟩⟩
set_option maxRecDepth 20000 in
theorem flX12_59_13 : FL RX12 59 13 22 := ⟨_, RX12, _, _, rfl, by decide, by decide, gT_5 159 rfl rfl, Or.inl rfl⟩
set_option maxRecDepth 20000 in
theorem fpX12_59_13i : FP RX12 true 59 13 22 := ⟨_, RX12, _, _, rfl, by decide, by decide, gT_5 159 rfl rfl, Or.inl rfl, Or.inr ⟨rfl, rfl, rfl⟩⟩
set_option maxRecDepth 20000 in
theorem flX12_62_13 : FL RX12 62 13 23 := ⟨_, RX12, _, _, rfl, by decide, by decide, gT_5 160 rfl rfl, Or.inl rfl⟩
set_option maxRecDepth 20000 in
theorem fpX12_62_13i : FP RX12 true 62 13 23 := ⟨_, RX12, _, _, rfl, by decide, by decide, gT_5 160 rfl rfl, Or.inl rfl, Or.inr ⟨rfl, rfl, rfl⟩⟩
set_option maxRecDepth 20000 in
theorem flX12_65_13 : FL RX12 65 13 24 := ⟨_, RX12, _, _, rfl, by decide, by decide, gT_5 161 rfl rfl, Or.inl rfl⟩
set_option maxRecDepth 20000 in
theorem fpX12_65_13i : FP RX12 true 65 13 24 := ⟨_, RX12, _, _, rfl, by decide, by decide, gT_5 161 rfl rfl, Or.inl rfl, Or.inr ⟨rfl, rfl, rfl⟩⟩
set_option maxRecDepth 20000 in
theorem flX12_223_13 : FL RX12 223 13 25 := ⟨_, RX12, _, _, rfl, by decide, by decide, gT_5 162 rfl rfl, Or.inl rfl⟩
set_option maxRecDepth 20000 in
theorem fpX12_223_13 : FP RX12 false 223 13 25 := ⟨_, RX12, _, _, rfl, by decide, by decide, gT_5 162 rfl rfl, Or.inl rfl, Or.inl rfl⟩
set_option maxRecDepth 20000 in
theorem flX12_248_13 : FL RX12 248 13 26 := ⟨_, RX12, _, _, rfl, by decide, by decide, gT_5 163 rfl rfl, Or.inl rfl⟩
set_option maxRecDepth 20000 in
theorem fpX12_248_13 : FP RX12 false 248 13 26 := ⟨_, RX12, _, _, rfl, by decide, by decide, gT_5 163 rfl rfl, Or.inl rfl, Or.inl rfl⟩
set_option maxRecDepth 20000 in
theorem flX12_245_13 : FL RX12 245 13 27 := ⟨_, RX12, _, _, rfl, by decide, by decide, gT_5 164 rfl rfl, Or.inl rfl⟩
set_option maxRecDepth 20000 in
theorem fpX12_245_13 : FP RX12 false 245 13 27 := ⟨_, RX12, _, _, rfl, by decide, by decide, gT_5 164 rfl rfl, Or.inl rfl, Or.inl rfl⟩
set_option maxRecDepth 20000 in
theorem flX12_260_13 : FL RX12 260 13 28 := ⟨_, RX12, _, _, rfl, by decide, by decide, gT_5 165 rfl rfl, Or.inl rfl⟩
set_option maxRecDepth 20000 in
theorem fpX12_260_13 : FP RX12 false 260 13 28 := ⟨_, RX12, _, _, rfl, by decide, by decide, gT_5 165 rfl rfl, Or.inl rfl, Or.inl rfl⟩
set_option maxRecDepth 20000 in
theorem flX12_257_13 : FL RX12 257 13 29 := ⟨_, RX12, _, _, rfl, by decide, by decide, gT_5 166 rfl rfl, Or.inl rfl⟩
set_option maxRecDepth 20000 in
theorem fpX12_257_13 : FP RX12 false 257 13 29 := ⟨_, RX12, _, _, rfl, by decide, by decide, gT_5 166 rfl rfl, Or.inl rfl, Or.inl rfl⟩
set_option maxRecDepth 20000 in
theorem flX12_267_13 : FL RX12 267 13 30 := ⟨_, RX12, _, _, rfl, by decide, by decide, gT_5 167 rfl rfl, Or.inl rfl⟩
set_option maxRecDepth 20000 in
theorem fpX12_267_13 : FP RX12 false 267 13 30 := ⟨_, RX12, _, _, rfl, by decide, by decide, gT_5 167 rfl rfl, Or.inl rfl, Or.inl rfl⟩
set_option maxRecDepth 20000 in
theorem flX12_251_13 : FL RX12 251 13 31 := ⟨_, RX12, _, _, rfl, by decide, by decide, gT_5 168 rfl rfl, Or.inl rfl⟩
set_option maxRecDepth 20000 in
theorem fpX12_251_13 : FP RX12 false 251 13 31 := ⟨_, RX12, _, _, rfl, by decide, by decide, gT_5 168 rfl rfl, Or.inl rfl, Or.inl rfl⟩
set_option maxRecDepth 20000 in
theorem flX12_290_13 : FL RX12 290 13 32 := ⟨_, RX12, _, _, rfl, by decide, by decide, gT_5 169 rfl rfl, Or.inl rfl⟩
set_option maxRecDepth 20000 in
theorem fpX12_290_13 : FP RX12 false 290 13 32 := ⟨_, RX12, _, _, rfl, by decide, by decide, gT_5 169 rfl rfl, Or.inl rfl, Or.inl rfl⟩
set_option maxRecDepth 20000 in
theorem flX12_283_13 : FL RX12 283 13 33 := ⟨_, RX12, _, _, rfl, by decide, by decide, gT_5 170 rfl rfl, Or.inl rfl⟩
set_option maxRecDepth 20000 in
theorem fpX12_283_13 : FP RX12 false 283 13 33 := ⟨_, RX12, _, _, rfl, by decide, by decide, gT_5 170 rfl rfl, Or.inl rfl, Or.inl rfl⟩
set_option maxRecDepth 20000 in
theorem flX12_287_13 : FL RX12 287 13 34 := ⟨_, RX12, _, _, rfl, by decide, by decide, gT_5 171 rfl rfl, Or.inl rfl⟩
set_option maxRecDepth 20000 in
theorem fpX12_287_13 : FP RX12 false 287 13 34 := ⟨_, RX12, _, _, rfl, by decide, by decide, gT_5 171 rfl rfl, Or.inl rfl, Or.inl rfl⟩
set_option maxRecDepth 20000 in
theorem flX12_310_13 : FL RX12 310 13 35 := ⟨_, RX12, _, _, rfl, by decide, by decide, gT_5 172 rfl rfl, Or.inl rfl⟩
set_option maxRecDepth 20000 in
theorem fpX12_310_13 : FP RX12 false 310 13 35 := ⟨_, RX12, _, _, rfl, by decide, by decide, gT_5 172 rfl rfl, Or.inl rfl, Or.inl rfl⟩
set_option maxRecDepth 20000 in
theorem flX12_305_13 : FL RX12 305 13 36 := ⟨_, RX12, _, _, rfl, by decide, by decide, gT_5 173 rfl rfl, Or.inl rfl⟩
set_option maxRecDepth 20000 in
theorem fpX12_305_13 : FP RX12 false 305 13 36 := ⟨_, RX12, _, _, rfl, by decide, by decide, gT_5 173 rfl rfl, Or.inl rfl, Or.inl rfl⟩
set_option maxRecDepth 20000 in
theorem flX12_319_13 : FL RX12 319 13 37 := ⟨_, RX12, _, _, rfl, by decide, by decide, gT_5 174 rfl rfl, Or.inl rfl⟩
set_option maxRecDepth 20000 in
theorem fpX12_319_13 : FP RX12 false 319 13 37 := ⟨_, RX12, _, _, rfl, by decide, by decide, gT_5 174 rfl rfl, Or.inl rfl, Or.inl rfl⟩
set_option maxRecDepth 20000 in
theorem flX12_324_13 : FL RX12 324 13 38 := ⟨_, RX12, _, _, rfl, by decide, by decide, gT_5 175 rfl rfl, Or.inl rfl⟩
set_option maxRecDepth 20000 in
theorem fpX12_324_13 : FP RX12 false 324 13 38 := ⟨_, RX12, _, _, rfl, by decide, by decide, gT_5 175 rfl rfl, Or.inl rfl, Or.inl rfl⟩
set_option maxRecDepth 20000 in
theorem flX12_381_13 : FL RX12 381 13 39 := ⟨_, RX12, _, _, rfl, by decide, by decide, gT_5 176 rfl rfl, Or.inl rfl⟩
set_option maxRecDepth 20000 in
theorem fpX12_381_13 : FP RX12 false 381 13 39 := ⟨_, RX12, _, _, rfl, by decide, by decide, gT_5 176 rfl rfl, Or.inl rfl, Or.inl rfl⟩
set_option maxRecDepth 20000 in
theorem flX12_384_13 : FL RX12 384 13 40 := ⟨_, RX12, _, _, rfl, by decide, by decide, gT_5 177 rfl rfl, Or.inl rfl⟩
set_option maxRecDepth 20000 in
theorem fpX12_384_13 : FP RX12 false 384 13 40 := ⟨_, RX12, _, _, rfl, by decide, by decide, gT_5 177 rfl rfl, Or.inl rfl, Or.inl rfl⟩
set_option maxRecDepth 20000 in
theorem flX12_387_13 : FL RX12 387 13 41 := ⟨_, RX12, _, _, rfl, by decide, by decide, gT_5 178 rfl rfl, Or.inl rfl⟩
set_option maxRecDepth 20000 in
theorem fpX12_387_13 : FP RX12 false 387 13 41 := ⟨_, RX12, _, _, rfl, by decide, by decide, gT_5 178 rfl rfl, Or.inl rfl, Or.inl rfl⟩
set_option maxRecDepth 20000 in
theorem flX12_68_13 : FL RX12 68 13 42 := ⟨_, RX12, _, _, rfl, by decide, by decide, gT_5 179 rfl rfl, Or.inl rfl⟩
set_option maxRecDepth 20000 in
theorem fpX12_68_13i : FP RX12 true 68 13 42 := ⟨_, RX12, _, _, rfl, by decide, by decide, gT_5 179 rfl rfl, Or.inl rfl, Or.inr ⟨rfl, rfl, rfl⟩⟩
set_option maxRecDepth 20000 in
theorem flX12_71_13 : FL RX12 71 13 43 := ⟨_, RX12, _, _, rfl, by decide, by decide, gT_5 180 rfl rfl, Or.inl rfl⟩
set_option maxRecDepth 20000 in
theorem fpX12_71_13i : FP RX12 true 71 13 43 := ⟨_, RX12, _, _, rfl, by decide, by decide, gT_5 180 rfl rfl, Or.inl rfl, Or.inr ⟨rfl, rfl, rfl⟩⟩
set_option maxRecDepth 20000 in
theorem flX12_407_13 : FL RX12 407 13 44 := ⟨_, RX12, _, _, rfl, by decide, by decide, gT_5 181 rfl rfl, Or.inl rfl⟩
set_option maxRecDepth 20000 in
theorem fpX12_407_13 : FP RX12 false 407 13 44 := ⟨_, RX12, _, _, rfl, by decide, by decide, gT_5 181 rfl rfl, Or.inl rfl, Or.inl rfl⟩
set_option maxRecDepth 20000 in
theorem flX12_74_13 : FL RX12 74 13 45 := ⟨_, RX12, _, _, rfl, by decide, by decide, gT_5 182 rfl rfl, Or.inl rfl⟩
set_option maxRecDepth 20000 in
theorem fpX12_74_13i : FP RX12 true 74 13 45 := ⟨_, RX12, _, _, rfl, by decide, by decide, gT_5 182 rfl rfl, Or.inl rfl, Or.inr ⟨rfl, rfl, rfl⟩⟩
set_option maxRecDepth 20000 in
theorem flX12_77_13 : FL RX12 77 13 46 := ⟨_, RX12, _, _, rfl, by decide, by decide, gT_5 183 rfl rfl, Or.inl rfl⟩
set_option maxRecDepth 20000 in
theorem fpX12_77_13i : FP RX12 true 77 13 46 := ⟨_, RX12, _, _, rfl, by decide, by decide, gT_5 183 rfl rfl, Or.inl rfl, Or.inr ⟨rfl, rfl, rfl⟩⟩
set_option maxRecDepth 20000 in
theorem flX12_80_13 : FL RX12 80 13 47 := ⟨_, RX12, _, _, rfl, by decide, by decide, gT_5 184 rfl rfl, Or.inl rfl⟩
set_option maxRecDepth 20000 in
theorem fpX12_80_13i : FP RX12 true 80 13 47 := ⟨_, RX12, _, _, rfl, by decide, by decide, gT_5 184 rfl rfl, Or.inl rfl, Or.inr ⟨rfl, rfl, rfl⟩⟩
set_option maxRecDepth 20000 in
theorem flX12_83_13 : FL RX12 83 13 48 := ⟨_, RX12, _, _, rfl, by decide, by decide, gT_5 185 rfl rfl, Or.inl rfl⟩
set_option maxRecDepth 20000 in
theorem fpX12_83_13i : FP RX12 true 83 13 48 := ⟨_, RX12, _, _, rfl, by decide, by decide, gT_5 185 rfl rfl, Or.inl rfl, Or.inr ⟨rfl, rfl, rfl⟩⟩
set_option maxRecDepth 20000 in
theorem flX12_432_13 : FL RX12 432 13 49 := ⟨_, RX12, _, _, rfl, by decide, by decide, gT_5 186 rfl rfl, Or.inl rfl⟩
set_option maxRecDepth 20000 in
theorem fpX12_432_13 : FP RX12 false 432 13 49 := ⟨_, RX12, _, _, rfl, by decide, by decide, gT_5 186 rfl rfl, Or.inl rfl, Or.inl rfl⟩
set_option maxRecDepth 20000 in
theorem flX12_435_13 : FL RX12 435 13 50 := ⟨_, RX12, _, _, rfl, by decide, by decide, gT_5 187 rfl rfl, Or.inl rfl⟩
set_option maxRecDepth 20000 in
theorem fpX12_435_13 : FP RX12 false 435 13 50 := ⟨_, RX12, _, _, rfl, by decide, by decide, gT_5 187 rfl rfl, Or.inl rfl, Or.inl rfl⟩
set_option maxRecDepth 20000 in
theorem flX12_438_13 : FL RX12 438 13 51 := ⟨_, RX12, _, _, rfl, by decide, by decide, gT_5 188 rfl rfl, Or.inl rfl⟩
set_option maxRecDepth 20000 in
theorem fpX12_438_13 : FP RX12 false 438 13 51 := ⟨_, RX12, _, _, rfl, by decide, by decide, gT_5 188 rfl rfl, Or.inl rfl, Or.inl rfl⟩
set_option maxRecDepth 20000 in
theorem flX12_441_13 : FL RX12 441 13 52 := ⟨_, RX12, _, _, rfl, by decide, by decide, gT_5 189 rfl rfl, Or.inl rfl⟩
set_option maxRecDepth 20000 in
theorem fpX12_441_13 : FP RX12 false 441 13 52 := ⟨_, RX12, _, _, rfl, by decide, by decide, gT_5 189 rfl rfl, Or.inl rfl, Or.inl rfl⟩
set_option maxRecDepth 20000 in
theorem flX12_86_13 : FL RX12 86 13 53 := ⟨_, RX12, _, _, rfl, by decide, by decide, gT_5 190 rfl rfl, Or.inl rfl⟩
set_option maxRecDepth 20000 in
theorem fpX12_86_13i : FP RX12 true 86 13 53 := ⟨_, RX12, _, _, rfl, by decide, by decide, gT_5 190 rfl rfl, Or.inl rfl, Or.inr ⟨rfl, rfl, rfl⟩⟩
set_option maxRecDepth 20000 in
theorem flX12_90_13 : FL RX12 90 13 54 := ⟨_, RX12, _, _, rfl, by decide, by decide, gT_5 191 rfl rfl, Or.inl rfl⟩
set_option maxRecDepth 20000 in
theorem fpX12_90_13i : FP RX12 true 90 13 54 := ⟨_, RX12, _, _, rfl, by decide, by decide, gT_5 191 rfl rfl, Or.inl rfl, Or.inr ⟨rfl, rfl, rfl⟩⟩
set_option maxRecDepth 20000 in
theorem flX12_93_13 : FL RX12 93 13 55 := ⟨_, RX12, _, _, rfl, by decide, by decide, gT_5 192 rfl rfl, Or.inl rfl⟩
set_option maxRecDepth 20000 in
theorem fpX12_93_13i : FP RX12 true 93 13 55 := ⟨_, RX12, _, _, rfl, by decide, by decide, gT_5 192 rfl rfl, Or.inl rfl, Or.inr ⟨rfl, rfl, rfl⟩⟩
set_option maxRecDepth 20000 in
theorem flX12_96_13 : FL RX12 96 13 56 := ⟨_, RX12, _, _, rfl, by decide, by decide, gT_5 193 rfl rfl, Or.inl rfl⟩
set_option maxRecDepth 20000 in
theorem fpX12_96_13i : FP RX12 true 96 13 56 := ⟨_, RX12, _, _, rfl, by decide, by decide, gT_5 193 rfl rfl, Or.inl rfl, Or.inr ⟨rfl, rfl, rfl⟩⟩
