section
variable {G : GE} {d dC : Nat} {mi mic : MI} {pc : Nat} {ls st st0 as : List Value} {h h1 h' : HS} {r r1 : Option Value} {v : Value} {a b : Nat} {y : MethodName}
theorem ceN {q : Option Nat} (e : q = none) (c : CE G dC y mic as h (some (va_rf q)) h1) : CE G dC y mic as h (some .null) h1 := by rw [e] at c; exact c
theorem ceS {q : Option Nat} (e : q = some a) (c : CE G dC y mic as h (some (va_rf q)) h1) : CE G dC y mic as h (some (.ref a)) h1 := by rw [e] at c; exact c
theorem e_castSt {index : Nat} (hk : isSt (hT h a) = true) (hl : Cond.classLink mi.1 index RX8 ∈ gT) (hd : decode mi.2.1 pc = .ok (.checkcast index, 3)) (kk : En G d mi (pc + 3) ls (.ref a :: st) h r h') : En G d mi pc ls (.ref a :: st) h r h' := by
  obtain e | e | e | e | e | e := isSt_c hk
  · exact e_castY (ci := 1) e (by decide) rfl hl (by decide) hd kk
  · exact e_castY (ci := 2) e (by decide) rfl hl (by decide) hd kk
  · exact e_castY (ci := 5) e (by decide) rfl hl (by decide) hd kk
  · exact e_castY (ci := 8) e (by decide) rfl hl (by decide) hd kk
  · exact e_castS (ci := 9) e (by decide) rfl hl hd kk
  · exact e_castY (ci := 11) e (by decide) rfl hl (by decide) hd kk
theorem e_inst_isHv {index : Nat} (hk : isSt (hT h a) = true) (hl : Cond.classLink mi.1 index RX4 ∈ gT) (hd : decode mi.2.1 pc = .ok (.instanceof index, 3)) (kk : En G d mi (pc + 3) ls (.int (b2i (isHv (hT h a))) :: st) h r h') : En G d mi pc ls (.ref a :: st) h r h' := by
  obtain e | e | e | e | e | e := isSt_c hk <;> rw [e] at kk
  · exact e_instN (ci := 1) e (by decide) rfl hl (by decide) hd kk
  · exact e_instY (ci := 2) e (by decide) rfl hl (by decide) hd kk
  · exact e_instS (ci := 5) e (by decide) rfl hl hd kk
  · exact e_instN (ci := 8) e (by decide) rfl hl (by decide) hd kk
  · exact e_instN (ci := 9) e (by decide) rfl hl (by decide) hd kk
  · exact e_instN (ci := 11) e (by decide) rfl hl (by decide) hd kk
theorem e_inst_isTg {index : Nat} (hk : isSt (hT h a) = true) (hl : Cond.classLink mi.1 index RX10 ∈ gT) (hd : decode mi.2.1 pc = .ok (.instanceof index, 3)) (kk : En G d mi (pc + 3) ls (.int (b2i (isTg (hT h a))) :: st) h r h') : En G d mi pc ls (.ref a :: st) h r h' := by
  obtain e | e | e | e | e | e := isSt_c hk <;> rw [e] at kk
  · exact e_instN (ci := 1) e (by decide) rfl hl (by decide) hd kk
  · exact e_instN (ci := 2) e (by decide) rfl hl (by decide) hd kk
  · exact e_instN (ci := 5) e (by decide) rfl hl (by decide) hd kk
  · exact e_instY (ci := 8) e (by decide) rfl hl (by decide) hd kk
  · exact e_instN (ci := 9) e (by decide) rfl hl (by decide) hd kk
  · exact e_instS (ci := 11) e (by decide) rfl hl hd kk
theorem e_inst_isSp {index : Nat} (hk : isSt (hT h a) = true) (hl : Cond.classLink mi.1 index RX7 ∈ gT) (hd : decode mi.2.1 pc = .ok (.instanceof index, 3)) (kk : En G d mi (pc + 3) ls (.int (b2i (isSp (hT h a))) :: st) h r h') : En G d mi pc ls (.ref a :: st) h r h' := by
  obtain e | e | e | e | e | e := isSt_c hk <;> rw [e] at kk
  · exact e_instN (ci := 1) e (by decide) rfl hl (by decide) hd kk
  · exact e_instN (ci := 2) e (by decide) rfl hl (by decide) hd kk
  · exact e_instN (ci := 5) e (by decide) rfl hl (by decide) hd kk
  · exact e_instS (ci := 8) e (by decide) rfl hl hd kk
  · exact e_instN (ci := 9) e (by decide) rfl hl (by decide) hd kk
  · exact e_instN (ci := 11) e (by decide) rfl hl (by decide) hd kk
theorem e_inst_isDr {index : Nat} (hk : isSt (hT h a) = true) (hl : Cond.classLink mi.1 index RX0 ∈ gT) (hd : decode mi.2.1 pc = .ok (.instanceof index, 3)) (kk : En G d mi (pc + 3) ls (.int (b2i (isDr (hT h a))) :: st) h r h') : En G d mi pc ls (.ref a :: st) h r h' := by
  obtain e | e | e | e | e | e := isSt_c hk <;> rw [e] at kk
  · exact e_instS (ci := 1) e (by decide) rfl hl hd kk
  · exact e_instN (ci := 2) e (by decide) rfl hl (by decide) hd kk
  · exact e_instN (ci := 5) e (by decide) rfl hl (by decide) hd kk
  · exact e_instN (ci := 8) e (by decide) rfl hl (by decide) hd kk
  · exact e_instN (ci := 9) e (by decide) rfl hl (by decide) hd kk
  · exact e_instN (ci := 11) e (by decide) rfl hl (by decide) hd kk
theorem e_inst_isGa {index : Nat} (hk : isSt (hT h a) = true) (hl : Cond.classLink mi.1 index RX1 ∈ gT) (hd : decode mi.2.1 pc = .ok (.instanceof index, 3)) (kk : En G d mi (pc + 3) ls (.int (b2i (isGa (hT h a))) :: st) h r h') : En G d mi pc ls (.ref a :: st) h r h' := by
  obtain e | e | e | e | e | e := isSt_c hk <;> rw [e] at kk
  · exact e_instN (ci := 1) e (by decide) rfl hl (by decide) hd kk
  · exact e_instS (ci := 2) e (by decide) rfl hl hd kk
  · exact e_instN (ci := 5) e (by decide) rfl hl (by decide) hd kk
  · exact e_instN (ci := 8) e (by decide) rfl hl (by decide) hd kk
  · exact e_instN (ci := 9) e (by decide) rfl hl (by decide) hd kk
  · exact e_instN (ci := 11) e (by decide) rfl hl (by decide) hd kk
theorem e_mmax {index : Nat} {x y : Int32} (hl : Cond.methodLink mi.1 index yJ9_max_7cf53 ∈ gT) (hs : Cond.static yJ9_max_7cf53 ∈ gT) (hcd : Cond.code yJ9_max_7cf53 miJ9_max_7cf53.2.1 miJ9_max_7cf53.2.2.1 miJ9_max_7cf53.2.2.2.1 ∈ gT) (hw : wS st ≤ 8) (hdd : 1 ≤ d) (hd : decode mi.2.1 pc = .ok (.invokestatic index, 3)) (kk : En G d mi (pc + 3) ls (.int (if x < y then y else x) :: st) h r h') : En G d mi pc ls (.int y :: .int x :: st) h r h' :=
  ⟨kk.1, kk.2.1, fun p l e R s m args below meth c c0 s0 mc ms hC cells slots H locs lsr hD => by
    have hCC := hC
    obtain ⟨hx, hb, hr, hml, ho, ht, hK, hlk, hin, r1', r2', r3, r4, r5, r6⟩ := hC
    have k1 := kk.1
    have k2 := kk.2.1
    have d1 := hD.1
    have d2 := hD.2.1
    have hrm := wS_cv hK.2.2.2.2.2.2.2.2.2.2.2.2.2 st
    exact va_mmax hx hb (by rw [hml]; exact hD.2.2.2.2.1.symm) ho (ht _ hl) (ht _ hs) (ht _ lnJ9) (ht _ hcd) (by omega) (by omega) (by omega) (by omega) hd (kk.2.2 p l e R s m args below meth c c0 s0 mc ms hCC cells slots H locs lsr hD)⟩
theorem e_mmin {index : Nat} {x y : Int32} (hl : Cond.methodLink mi.1 index yJ9_min_7cf53 ∈ gT) (hs : Cond.static yJ9_min_7cf53 ∈ gT) (hcd : Cond.code yJ9_min_7cf53 miJ9_min_7cf53.2.1 miJ9_min_7cf53.2.2.1 miJ9_min_7cf53.2.2.2.1 ∈ gT) (hw : wS st ≤ 8) (hdd : 1 ≤ d) (hd : decode mi.2.1 pc = .ok (.invokestatic index, 3)) (kk : En G d mi (pc + 3) ls (.int (if y < x then y else x) :: st) h r h') : En G d mi pc ls (.int y :: .int x :: st) h r h' :=
  ⟨kk.1, kk.2.1, fun p l e R s m args below meth c c0 s0 mc ms hC cells slots H locs lsr hD => by
    have hCC := hC
    obtain ⟨hx, hb, hr, hml, ho, ht, hK, hlk, hin, r1', r2', r3, r4, r5, r6⟩ := hC
    have k1 := kk.1
    have k2 := kk.2.1
    have d1 := hD.1
    have d2 := hD.2.1
    have hrm := wS_cv hK.2.2.2.2.2.2.2.2.2.2.2.2.2 st
    exact va_mmin hx hb (by rw [hml]; exact hD.2.2.2.2.1.symm) ho (ht _ hl) (ht _ hs) (ht _ lnJ9) (ht _ hcd) (by omega) (by omega) (by omega) (by omega) hd (kk.2.2 p l e R s m args below meth c c0 s0 mc ms hCC cells slots H locs lsr hD)⟩
theorem e_mabs {index : Nat} {x : Int64} (hl : Cond.methodLink mi.1 index yJ9_abs_067f4 ∈ gT) (hs : Cond.static yJ9_abs_067f4 ∈ gT) (hcd : Cond.code yJ9_abs_067f4 miJ9_abs_067f4.2.1 miJ9_abs_067f4.2.2.1 miJ9_abs_067f4.2.2.2.1 ∈ gT) (hw : wS st ≤ 8) (hdd : 1 ≤ d) (hd : decode mi.2.1 pc = .ok (.invokestatic index, 3)) (kk : En G d mi (pc + 3) ls (.long (if 0 < x then x else -x) :: st) h r h') : En G d mi pc ls (.long x :: st) h r h' :=
  ⟨kk.1, kk.2.1, fun p l e R s m args below meth c c0 s0 mc ms hC cells slots H locs lsr hD => by
    have hCC := hC
    obtain ⟨hx, hb, hr, hml, ho, ht, hK, hlk, hin, r1', r2', r3, r4, r5, r6⟩ := hC
    have k1 := kk.1
    have k2 := kk.2.1
    have d1 := hD.1
    have d2 := hD.2.1
    have hrm := wS_cv hK.2.2.2.2.2.2.2.2.2.2.2.2.2 st
    exact va_mabs_long hx hb (by rw [hml]; exact hD.2.2.2.2.1.symm) ho (ht _ hl) (ht _ hs) (ht _ lnJ9) (ht _ hcd) (by omega) (by omega) (by omega) (by omega) hd (kk.2.2 p l e R s m args below meth c c0 s0 mc ms hCC cells slots H locs lsr hD)⟩
theorem e_aastE {i : Int32} (hk0 : hT h a = 18) (hin : vp_in i (hLn h a)) (hk : isEl (hT h b) = true) (hd : decode mi.2.1 pc = .ok (.aastore, 1)) (kk : En G d mi (pc + 1) ls st (sR h a i.toNatClampNeg (some b)) r h') : En G d mi pc ls (.ref b :: .int i :: .ref a :: st) h r h' := by
  obtain e | e | e | e | e | e | e | e := isEl_c hk
  · exact e_aastO (cj := 1) hk0 hin e (by decide) rfl (by decide) hd kk
  · exact e_aastO (cj := 2) hk0 hin e (by decide) rfl (by decide) hd kk
  · exact e_aastO (cj := 5) hk0 hin e (by decide) rfl (by decide) hd kk
  · exact e_aastO (cj := 8) hk0 hin e (by decide) rfl (by decide) hd kk
  · exact e_aastO (cj := 9) hk0 hin e (by decide) rfl (by decide) hd kk
  · exact e_aastO (cj := 11) hk0 hin e (by decide) rfl (by decide) hd kk
  · exact e_aastO (cj := 4) hk0 hin e (by decide) rfl (by decide) hd kk
  · exact e_aastO (cj := 10) hk0 hin e (by decide) rfl (by decide) hd kk
end
section
variable {G : GE} {d : Nat} {pc : Nat} {ls st : List Value} {h h' : HS} {r : Option Value} {a : Nat}
theorem gmX2_22_isSt {M : ByteArray × Nat × Option FieldType × Bool} (hk : isSt (hT h a) = true) (hd : decode M.1 pc = .ok (.getfield 22, 3)) (kk : En G d (RX2, M) (pc + 3) ls (.int (hI h a 1) :: st) h r h') : En G d (RX2, M) pc ls (.ref a :: st) h r h' := by
  obtain e | e | e | e | e | e := isSt_c hk
  · exact e_getI e flX2_22_1 hd rfl kk
  · exact e_getI e flX2_22_2 hd rfl kk
  · exact e_getI e flX2_22_5 hd rfl kk
  · exact e_getI e flX2_22_8 hd rfl kk
  · exact e_getI e flX2_22_9 hd rfl kk
  · exact e_getI e flX2_22_11 hd rfl kk
theorem gmX2_25_isSt {M : ByteArray × Nat × Option FieldType × Bool} (hk : isSt (hT h a) = true) (hd : decode M.1 pc = .ok (.getfield 25, 3)) (kk : En G d (RX2, M) (pc + 3) ls (.int (hI h a 2) :: st) h r h') : En G d (RX2, M) pc ls (.ref a :: st) h r h' := by
  obtain e | e | e | e | e | e := isSt_c hk
  · exact e_getI e flX2_25_1 hd rfl kk
  · exact e_getI e flX2_25_2 hd rfl kk
  · exact e_getI e flX2_25_5 hd rfl kk
  · exact e_getI e flX2_25_8 hd rfl kk
  · exact e_getI e flX2_25_9 hd rfl kk
  · exact e_getI e flX2_25_11 hd rfl kk
theorem gmX4_7_isHv {M : ByteArray × Nat × Option FieldType × Bool} (hk : isHv (hT h a) = true) (hd : decode M.1 pc = .ok (.getfield 7, 3)) (kk : En G d (RX4, M) (pc + 3) ls (.int (hI h a 3) :: st) h r h') : En G d (RX4, M) pc ls (.ref a :: st) h r h' := by
  obtain e | e := isHv_c hk
  · exact e_getI e flX4_7_2 hd rfl kk
  · exact e_getI e flX4_7_5 hd rfl kk
theorem gmX8_13_isSt {M : ByteArray × Nat × Option FieldType × Bool} (hk : isSt (hT h a) = true) (hd : decode M.1 pc = .ok (.getfield 13, 3)) (kk : En G d (RX8, M) (pc + 3) ls (.int (hI h a 6) :: st) h r h') : En G d (RX8, M) pc ls (.ref a :: st) h r h' := by
  obtain e | e | e | e | e | e := isSt_c hk
  · exact e_getI e flX8_13_1 hd rfl kk
  · exact e_getI e flX8_13_2 hd rfl kk
  · exact e_getI e flX8_13_5 hd rfl kk
  · exact e_getI e flX8_13_8 hd rfl kk
  · exact e_getI e flX8_13_9 hd rfl kk
  · exact e_getI e flX8_13_11 hd rfl kk
theorem gmX8_16_isSt {M : ByteArray × Nat × Option FieldType × Bool} (hk : isSt (hT h a) = true) (hd : decode M.1 pc = .ok (.getfield 16, 3)) (kk : En G d (RX8, M) (pc + 3) ls (.int (hI h a 7) :: st) h r h') : En G d (RX8, M) pc ls (.ref a :: st) h r h' := by
  obtain e | e | e | e | e | e := isSt_c hk
  · exact e_getI e flX8_16_1 hd rfl kk
  · exact e_getI e flX8_16_2 hd rfl kk
  · exact e_getI e flX8_16_5 hd rfl kk
  · exact e_getI e flX8_16_8 hd rfl kk
  · exact e_getI e flX8_16_9 hd rfl kk
  · exact e_getI e flX8_16_11 hd rfl kk
theorem gmX8_28_isSt {M : ByteArray × Nat × Option FieldType × Bool} (hk : isSt (hT h a) = true) (hd : decode M.1 pc = .ok (.getfield 28, 3)) (kk : En G d (RX8, M) (pc + 3) ls (.int (hI h a 3) :: st) h r h') : En G d (RX8, M) pc ls (.ref a :: st) h r h' := by
  obtain e | e | e | e | e | e := isSt_c hk
  · exact e_getI e flX8_28_1 hd rfl kk
  · exact e_getI e flX8_28_2 hd rfl kk
  · exact e_getI e flX8_28_5 hd rfl kk
  · exact e_getI e flX8_28_8 hd rfl kk
  · exact e_getI e flX8_28_9 hd rfl kk
  · exact e_getI e flX8_28_11 hd rfl kk
theorem gmX8_31_isSt {M : ByteArray × Nat × Option FieldType × Bool} (hk : isSt (hT h a) = true) (hd : decode M.1 pc = .ok (.getfield 31, 3)) (kk : En G d (RX8, M) (pc + 3) ls (.int (hI h a 4) :: st) h r h') : En G d (RX8, M) pc ls (.ref a :: st) h r h' := by
  obtain e | e | e | e | e | e := isSt_c hk
  · exact e_getI e flX8_31_1 hd rfl kk
  · exact e_getI e flX8_31_2 hd rfl kk
  · exact e_getI e flX8_31_5 hd rfl kk
  · exact e_getI e flX8_31_8 hd rfl kk
  · exact e_getI e flX8_31_9 hd rfl kk
  · exact e_getI e flX8_31_11 hd rfl kk
theorem gmX8_7_isSt {M : ByteArray × Nat × Option FieldType × Bool} (hk : isSt (hT h a) = true) (hd : decode M.1 pc = .ok (.getfield 7, 3)) (kk : En G d (RX8, M) (pc + 3) ls (.int (hI h a 5) :: st) h r h') : En G d (RX8, M) pc ls (.ref a :: st) h r h' := by
  obtain e | e | e | e | e | e := isSt_c hk
  · exact e_getI e flX8_7_1 hd rfl kk
  · exact e_getI e flX8_7_2 hd rfl kk
  · exact e_getI e flX8_7_5 hd rfl kk
  · exact e_getI e flX8_7_8 hd rfl kk
  · exact e_getI e flX8_7_9 hd rfl kk
  · exact e_getI e flX8_7_11 hd rfl kk
theorem gmX11_140_isSt {M : ByteArray × Nat × Option FieldType × Bool} (hk : isSt (hT h a) = true) (hd : decode M.1 pc = .ok (.getfield 140, 3)) (kk : En G d (RX11, M) (pc + 3) ls (.int (hI h a 0) :: st) h r h') : En G d (RX11, M) pc ls (.ref a :: st) h r h' := by
  obtain e | e | e | e | e | e := isSt_c hk
  · exact e_getI e flX11_140_1 hd rfl kk
  · exact e_getI e flX11_140_2 hd rfl kk
  · exact e_getI e flX11_140_5 hd rfl kk
  · exact e_getI e flX11_140_8 hd rfl kk
  · exact e_getI e flX11_140_9 hd rfl kk
  · exact e_getI e flX11_140_11 hd rfl kk
theorem gmX11_143_isSt {M : ByteArray × Nat × Option FieldType × Bool} (hk : isSt (hT h a) = true) (hd : decode M.1 pc = .ok (.getfield 143, 3)) (kk : En G d (RX11, M) (pc + 3) ls (.int (hI h a 1) :: st) h r h') : En G d (RX11, M) pc ls (.ref a :: st) h r h' := by
  obtain e | e | e | e | e | e := isSt_c hk
  · exact e_getI e flX11_143_1 hd rfl kk
  · exact e_getI e flX11_143_2 hd rfl kk
  · exact e_getI e flX11_143_5 hd rfl kk
  · exact e_getI e flX11_143_8 hd rfl kk
  · exact e_getI e flX11_143_9 hd rfl kk
  · exact e_getI e flX11_143_11 hd rfl kk
theorem gmX11_146_isSt {M : ByteArray × Nat × Option FieldType × Bool} (hk : isSt (hT h a) = true) (hd : decode M.1 pc = .ok (.getfield 146, 3)) (kk : En G d (RX11, M) (pc + 3) ls (.int (hI h a 2) :: st) h r h') : En G d (RX11, M) pc ls (.ref a :: st) h r h' := by
  obtain e | e | e | e | e | e := isSt_c hk
  · exact e_getI e flX11_146_1 hd rfl kk
  · exact e_getI e flX11_146_2 hd rfl kk
  · exact e_getI e flX11_146_5 hd rfl kk
  · exact e_getI e flX11_146_8 hd rfl kk
  · exact e_getI e flX11_146_9 hd rfl kk
  · exact e_getI e flX11_146_11 hd rfl kk
theorem gmX11_149_isSt {M : ByteArray × Nat × Option FieldType × Bool} (hk : isSt (hT h a) = true) (hd : decode M.1 pc = .ok (.getfield 149, 3)) (kk : En G d (RX11, M) (pc + 3) ls (.int (hI h a 3) :: st) h r h') : En G d (RX11, M) pc ls (.ref a :: st) h r h' := by
  obtain e | e | e | e | e | e := isSt_c hk
  · exact e_getI e flX11_149_1 hd rfl kk
  · exact e_getI e flX11_149_2 hd rfl kk
  · exact e_getI e flX11_149_5 hd rfl kk
  · exact e_getI e flX11_149_8 hd rfl kk
  · exact e_getI e flX11_149_9 hd rfl kk
  · exact e_getI e flX11_149_11 hd rfl kk
theorem gmX11_151_isSt {M : ByteArray × Nat × Option FieldType × Bool} (hk : isSt (hT h a) = true) (hd : decode M.1 pc = .ok (.getfield 151, 3)) (kk : En G d (RX11, M) (pc + 3) ls (.int (hI h a 4) :: st) h r h') : En G d (RX11, M) pc ls (.ref a :: st) h r h' := by
  obtain e | e | e | e | e | e := isSt_c hk
  · exact e_getI e flX11_151_1 hd rfl kk
  · exact e_getI e flX11_151_2 hd rfl kk
  · exact e_getI e flX11_151_5 hd rfl kk
  · exact e_getI e flX11_151_8 hd rfl kk
  · exact e_getI e flX11_151_9 hd rfl kk
  · exact e_getI e flX11_151_11 hd rfl kk
theorem gmX11_154_isSt {M : ByteArray × Nat × Option FieldType × Bool} (hk : isSt (hT h a) = true) (hd : decode M.1 pc = .ok (.getfield 154, 3)) (kk : En G d (RX11, M) (pc + 3) ls (.int (hI h a 5) :: st) h r h') : En G d (RX11, M) pc ls (.ref a :: st) h r h' := by
  obtain e | e | e | e | e | e := isSt_c hk
  · exact e_getI e flX11_154_1 hd rfl kk
  · exact e_getI e flX11_154_2 hd rfl kk
  · exact e_getI e flX11_154_5 hd rfl kk
  · exact e_getI e flX11_154_8 hd rfl kk
  · exact e_getI e flX11_154_9 hd rfl kk
  · exact e_getI e flX11_154_11 hd rfl kk
theorem gmX11_157_isSt {M : ByteArray × Nat × Option FieldType × Bool} (hk : isSt (hT h a) = true) (hd : decode M.1 pc = .ok (.getfield 157, 3)) (kk : En G d (RX11, M) (pc + 3) ls (.int (hI h a 6) :: st) h r h') : En G d (RX11, M) pc ls (.ref a :: st) h r h' := by
  obtain e | e | e | e | e | e := isSt_c hk
  · exact e_getI e flX11_157_1 hd rfl kk
  · exact e_getI e flX11_157_2 hd rfl kk
  · exact e_getI e flX11_157_5 hd rfl kk
  · exact e_getI e flX11_157_8 hd rfl kk
  · exact e_getI e flX11_157_9 hd rfl kk
  · exact e_getI e flX11_157_11 hd rfl kk
theorem gmX11_160_isSt {M : ByteArray × Nat × Option FieldType × Bool} (hk : isSt (hT h a) = true) (hd : decode M.1 pc = .ok (.getfield 160, 3)) (kk : En G d (RX11, M) (pc + 3) ls (.int (hI h a 7) :: st) h r h') : En G d (RX11, M) pc ls (.ref a :: st) h r h' := by
  obtain e | e | e | e | e | e := isSt_c hk
  · exact e_getI e flX11_160_1 hd rfl kk
  · exact e_getI e flX11_160_2 hd rfl kk
  · exact e_getI e flX11_160_5 hd rfl kk
  · exact e_getI e flX11_160_8 hd rfl kk
  · exact e_getI e flX11_160_9 hd rfl kk
  · exact e_getI e flX11_160_11 hd rfl kk
theorem pmX8_13_isSt {B : ByteArray} {N : Nat} {R : Option FieldType} {x : Int32} (hk : isSt (hT h a) = true) (hd : decode B pc = .ok (.putfield 13, 3)) (kk : En G d (RX8, B, N, R, false) (pc + 3) ls st (sI h a 6 x) r h') : En G d (RX8, B, N, R, false) pc ls (.int x :: .ref a :: st) h r h' := by
  obtain e | e | e | e | e | e := isSt_c hk
  · exact e_putI e fpX8_13_1 rfl hd kk
  · exact e_putI e fpX8_13_2 rfl hd kk
  · exact e_putI e fpX8_13_5 rfl hd kk
  · exact e_putI e fpX8_13_8 rfl hd kk
  · exact e_putI e fpX8_13_9 rfl hd kk
  · exact e_putI e fpX8_13_11 rfl hd kk
theorem pmX8_16_isSt {B : ByteArray} {N : Nat} {R : Option FieldType} {x : Int32} (hk : isSt (hT h a) = true) (hd : decode B pc = .ok (.putfield 16, 3)) (kk : En G d (RX8, B, N, R, false) (pc + 3) ls st (sI h a 7 x) r h') : En G d (RX8, B, N, R, false) pc ls (.int x :: .ref a :: st) h r h' := by
  obtain e | e | e | e | e | e := isSt_c hk
  · exact e_putI e fpX8_16_1 rfl hd kk
  · exact e_putI e fpX8_16_2 rfl hd kk
  · exact e_putI e fpX8_16_5 rfl hd kk
  · exact e_putI e fpX8_16_8 rfl hd kk
  · exact e_putI e fpX8_16_9 rfl hd kk
  · exact e_putI e fpX8_16_11 rfl hd kk
theorem pmX8_31_isSt {B : ByteArray} {N : Nat} {R : Option FieldType} {x : Int32} (hk : isSt (hT h a) = true) (hd : decode B pc = .ok (.putfield 31, 3)) (kk : En G d (RX8, B, N, R, false) (pc + 3) ls st (sI h a 4 x) r h') : En G d (RX8, B, N, R, false) pc ls (.int x :: .ref a :: st) h r h' := by
  obtain e | e | e | e | e | e := isSt_c hk
  · exact e_putI e fpX8_31_1 rfl hd kk
  · exact e_putI e fpX8_31_2 rfl hd kk
  · exact e_putI e fpX8_31_5 rfl hd kk
  · exact e_putI e fpX8_31_8 rfl hd kk
  · exact e_putI e fpX8_31_9 rfl hd kk
  · exact e_putI e fpX8_31_11 rfl hd kk
theorem pmX8_7_isSt {B : ByteArray} {N : Nat} {R : Option FieldType} {x : Int32} (hk : isSt (hT h a) = true) (hd : decode B pc = .ok (.putfield 7, 3)) (kk : En G d (RX8, B, N, R, false) (pc + 3) ls st (sI h a 5 x) r h') : En G d (RX8, B, N, R, false) pc ls (.int x :: .ref a :: st) h r h' := by
  obtain e | e | e | e | e | e := isSt_c hk
  · exact e_putI e fpX8_7_1 rfl hd kk
  · exact e_putI e fpX8_7_2 rfl hd kk
  · exact e_putI e fpX8_7_5 rfl hd kk
  · exact e_putI e fpX8_7_8 rfl hd kk
  · exact e_putI e fpX8_7_9 rfl hd kk
  · exact e_putI e fpX8_7_11 rfl hd kk
theorem pmX8_13_isSti {B : ByteArray} {N : Nat} {R : Option FieldType} {x : Int32} (hk : isSt (hT h a) = true) (hd : decode B pc = .ok (.putfield 13, 3)) (kk : En G d (RX8, B, N, R, true) (pc + 3) ls st (sI h a 6 x) r h') : En G d (RX8, B, N, R, true) pc ls (.int x :: .ref a :: st) h r h' := by
  obtain e | e | e | e | e | e := isSt_c hk
  · exact e_putI e fpX8_13_1i rfl hd kk
  · exact e_putI e fpX8_13_2i rfl hd kk
  · exact e_putI e fpX8_13_5i rfl hd kk
  · exact e_putI e fpX8_13_8i rfl hd kk
  · exact e_putI e fpX8_13_9i rfl hd kk
  · exact e_putI e fpX8_13_11i rfl hd kk
theorem pmX8_16_isSti {B : ByteArray} {N : Nat} {R : Option FieldType} {x : Int32} (hk : isSt (hT h a) = true) (hd : decode B pc = .ok (.putfield 16, 3)) (kk : En G d (RX8, B, N, R, true) (pc + 3) ls st (sI h a 7 x) r h') : En G d (RX8, B, N, R, true) pc ls (.int x :: .ref a :: st) h r h' := by
  obtain e | e | e | e | e | e := isSt_c hk
  · exact e_putI e fpX8_16_1i rfl hd kk
  · exact e_putI e fpX8_16_2i rfl hd kk
  · exact e_putI e fpX8_16_5i rfl hd kk
  · exact e_putI e fpX8_16_8i rfl hd kk
  · exact e_putI e fpX8_16_9i rfl hd kk
  · exact e_putI e fpX8_16_11i rfl hd kk
theorem pmX8_19_isSti {B : ByteArray} {N : Nat} {R : Option FieldType} {x : Int32} (hk : isSt (hT h a) = true) (hd : decode B pc = .ok (.putfield 19, 3)) (kk : En G d (RX8, B, N, R, true) (pc + 3) ls st (sI h a 0 x) r h') : En G d (RX8, B, N, R, true) pc ls (.int x :: .ref a :: st) h r h' := by
  obtain e | e | e | e | e | e := isSt_c hk
  · exact e_putI e fpX8_19_1i rfl hd kk
  · exact e_putI e fpX8_19_2i rfl hd kk
  · exact e_putI e fpX8_19_5i rfl hd kk
  · exact e_putI e fpX8_19_8i rfl hd kk
  · exact e_putI e fpX8_19_9i rfl hd kk
  · exact e_putI e fpX8_19_11i rfl hd kk
theorem pmX8_22_isSti {B : ByteArray} {N : Nat} {R : Option FieldType} {x : Int32} (hk : isSt (hT h a) = true) (hd : decode B pc = .ok (.putfield 22, 3)) (kk : En G d (RX8, B, N, R, true) (pc + 3) ls st (sI h a 1 x) r h') : En G d (RX8, B, N, R, true) pc ls (.int x :: .ref a :: st) h r h' := by
  obtain e | e | e | e | e | e := isSt_c hk
  · exact e_putI e fpX8_22_1i rfl hd kk
  · exact e_putI e fpX8_22_2i rfl hd kk
  · exact e_putI e fpX8_22_5i rfl hd kk
  · exact e_putI e fpX8_22_8i rfl hd kk
  · exact e_putI e fpX8_22_9i rfl hd kk
  · exact e_putI e fpX8_22_11i rfl hd kk
theorem pmX8_25_isSti {B : ByteArray} {N : Nat} {R : Option FieldType} {x : Int32} (hk : isSt (hT h a) = true) (hd : decode B pc = .ok (.putfield 25, 3)) (kk : En G d (RX8, B, N, R, true) (pc + 3) ls st (sI h a 2 x) r h') : En G d (RX8, B, N, R, true) pc ls (.int x :: .ref a :: st) h r h' := by
  obtain e | e | e | e | e | e := isSt_c hk
  · exact e_putI e fpX8_25_1i rfl hd kk
  · exact e_putI e fpX8_25_2i rfl hd kk
  · exact e_putI e fpX8_25_5i rfl hd kk
  · exact e_putI e fpX8_25_8i rfl hd kk
  · exact e_putI e fpX8_25_9i rfl hd kk
  · exact e_putI e fpX8_25_11i rfl hd kk
theorem pmX8_28_isSti {B : ByteArray} {N : Nat} {R : Option FieldType} {x : Int32} (hk : isSt (hT h a) = true) (hd : decode B pc = .ok (.putfield 28, 3)) (kk : En G d (RX8, B, N, R, true) (pc + 3) ls st (sI h a 3 x) r h') : En G d (RX8, B, N, R, true) pc ls (.int x :: .ref a :: st) h r h' := by
  obtain e | e | e | e | e | e := isSt_c hk
  · exact e_putI e fpX8_28_1i rfl hd kk
  · exact e_putI e fpX8_28_2i rfl hd kk
  · exact e_putI e fpX8_28_5i rfl hd kk
  · exact e_putI e fpX8_28_8i rfl hd kk
  · exact e_putI e fpX8_28_9i rfl hd kk
  · exact e_putI e fpX8_28_11i rfl hd kk
theorem pmX8_31_isSti {B : ByteArray} {N : Nat} {R : Option FieldType} {x : Int32} (hk : isSt (hT h a) = true) (hd : decode B pc = .ok (.putfield 31, 3)) (kk : En G d (RX8, B, N, R, true) (pc + 3) ls st (sI h a 4 x) r h') : En G d (RX8, B, N, R, true) pc ls (.int x :: .ref a :: st) h r h' := by
  obtain e | e | e | e | e | e := isSt_c hk
  · exact e_putI e fpX8_31_1i rfl hd kk
  · exact e_putI e fpX8_31_2i rfl hd kk
  · exact e_putI e fpX8_31_5i rfl hd kk
  · exact e_putI e fpX8_31_8i rfl hd kk
  · exact e_putI e fpX8_31_9i rfl hd kk
  · exact e_putI e fpX8_31_11i rfl hd kk
theorem pmX8_7_isSti {B : ByteArray} {N : Nat} {R : Option FieldType} {x : Int32} (hk : isSt (hT h a) = true) (hd : decode B pc = .ok (.putfield 7, 3)) (kk : En G d (RX8, B, N, R, true) (pc + 3) ls st (sI h a 5 x) r h') : En G d (RX8, B, N, R, true) pc ls (.int x :: .ref a :: st) h r h' := by
  obtain e | e | e | e | e | e := isSt_c hk
  · exact e_putI e fpX8_7_1i rfl hd kk
  · exact e_putI e fpX8_7_2i rfl hd kk
  · exact e_putI e fpX8_7_5i rfl hd kk
  · exact e_putI e fpX8_7_8i rfl hd kk
  · exact e_putI e fpX8_7_9i rfl hd kk
  · exact e_putI e fpX8_7_11i rfl hd kk
theorem umX10_7_isTg {M : ByteArray × Nat × Option FieldType × Bool} {dC : Nat} {as st0 : List Value} {v : Value} {h1 : HS} (hk : isTg (hT h a) = true) (hd : decode M.1 pc = .ok (.invokespecial 7, 3)) (hc : CE G dC yX8_pays miX8_pays (.ref a :: as) h (some v) h1) (hst : st0 = as.reverse ++ .ref a :: st) (hlen : as.length = 3) (hw : wS st ≤ 8) (hdd : dC + 1 ≤ d) (kk : En G d (RX10, M) (pc + 3) ls (v :: st) h1 r h') : En G d (RX10, M) pc ls st0 h r h' := by
  have hm : MS yX8_pays miX8_pays as.length := by rw [hlen]; exact msX8_pays
  obtain e | e := isTg_c hk
  · exact u1 e (by decide) rfl lmX10_7 lqX8_pays lpX10 liX8_pays (by decide) hm hd hc hst hw hdd kk
  · exact u1 e (by decide) rfl lmX10_7 lqX8_pays lpX10 liX8_pays (by decide) hm hd hc hst hw hdd kk
end
