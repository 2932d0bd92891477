/-! ===== what the tables' words say ===== -/
theorem AOa.of {s : State} {args : Array Value} (h : (Cond.arrayOver (.array .int)).before args s = true) : AOa s := by
  have e1 : (FieldType.array .int).toString = "[I" := by decide
  have e2 : "[" ++ (FieldType.array .int).toString = "[[I" := by decide
  simp only [Cond.before, Cond.holds, Cond.value, beq_iff_eq] at h
  rw [e1] at h
  cases hc : s.vm.findClass "[I" with
  | none => simp [hc] at h
  | some comp =>
    simp only [hc, Option.bind_some, Option.bind_eq_some_iff, Option.map_eq_some_iff] at h
    obtain ⟨c, hi, k, hk, hb⟩ := h
    obtain ⟨hlt, hp, -⟩ := Array.findIdx?_eq_some_iff_getElem.mp hi
    have hkk : s.vm.classes[c] = k := (Array.getElem?_eq_some_iff.mp hk).2
    rw [hkk] at hp
    cases hkind : k.kind with
    | array component ty =>
      rw [hkind] at hb hp
      simp at hb hp
      exact ⟨comp, c, k, hc, hi, hk, by rw [hkind, hp, hb.1], hb.2⟩
    | _ => rw [hkind] at hb; simp at hb
theorem AOa.ar {s : State} (h : AOa s) : ∃ c, ArrOfT s c (.array .int) ∧ va_RA s c (.array .int) := by
  obtain ⟨comp, c, k, h1, h2, h3, h4, h5⟩ := h
  exact ⟨c, fun n z => ⟨fun k h => (by cases h), k, h3, comp, h4⟩, h5⟩
theorem ac_of {s : State} {args : Array Value} {ty : FieldType} (h : (Cond.arrayClass ty).before args s = true) (ht : ∀ C, ty ≠ .object C) : ∃ c, ArrOfT s c ty ∧ s.vm.findClass ("[" ++ ty.toString) = some c := by
  obtain ⟨c, k, comp, h1, h2, h3⟩ := Cond.arrayClass_spec h
  refine ⟨c, fun n z => ⟨fun k h => (by cases h), k, h2, comp, h3⟩, h1⟩
theorem ao_of {s : State} {args : Array Value} (h : (Cond.arrayOver (.object "java/lang/Object")).before args s = true) : ∃ c, ArrOfT s c (.object "java/lang/Object") ∧ va_RA s c (.object "java/lang/Object") := by
  obtain ⟨comp, c, k, h1, h2, h3, h4, h5⟩ := Cond.arrayOver_spec h
  exact ⟨c, fun n z => ⟨fun k h => (by cases h), k, h3, comp, h4⟩, k, comp, h3, h4, h1, h5⟩
abbrev PreC : Cond := Jvm.Cond.and given_1 narrow_1
def inP (k : Nat) (w : Cond) : Bool := decide ((flatC PreC)[k]? = some w)
def inT (k : Nat) (w : Cond) : Bool := decide (tables_1[k]? = some w)
def tmS (i : Nat) : Term := .string (strL.getD i ("", 0, "")).1 (strL.getD i ("", 0, "")).2.1
abbrev tmV (i : Nat) : Term := .field (tmS i) "java/lang/String" "value" "[B"
abbrev tmA : Term := .static "ThreeBalls" "ANSWER_PLACES" "[I"
abbrev tmE : Term := .static "java/util/ArrayList" "DEFAULTCAPACITY_EMPTY_ELEMENTDATA" "[Ljava/lang/Object;"
def posS : List Nat := [121, 180, 189, 200, 211, 224, 236, 251, 264, 279, 295, 313, 333]
def posR : List Nat := [142, 241, 246, 247, 248, 249, 250, 251, 252, 253, 254, 255, 256]
def posQ : List Nat := [63, 100, 128, 808, 1027]
def posC : List Nat := [1617, 1618, 1619, 1620, 1621, 1622, 1623, 1634, 1635, 1637, 1631, 1633, 1636, 1629, 1632, 321, 1642]
def posN : List Nat := [32, 29, 30, 31, 44, 41, 42, 43, 57, 53, 54, 55, 56, 70, 66, 67, 68, 69, 83, 79, 80, 81, 82]
theorem sw_1 : ((List.range 13).all fun i => inP (posS.getD i 0) (.exactly (tmS i) "java/lang/String") && inP (posS.getD i 0 + 1) (.eq (.field (tmS i) "java/lang/String" "coder" "B") (.int 0)) && inP (posS.getD i 0 + 2) (.arrayOf (tmV i) .byte) && inP (posS.getD i 0 + 3) (.eq (.length (tmV i)) (.int (Int32.ofNat (strLen.getD i 0))))) = true := by decide +kernel
theorem sw_2 : ((List.range 13).all fun i => (List.range (strLen.getD i 0)).all fun j => inP (posS.getD i 0 + 4 + j) (.eq (.elem (tmV i) (.int (Int32.ofNat j))) (.int ((strByt.getD i []).getD j 0)))) = true := by decide +kernel
theorem sw_3_1 : ((List.range 1).all fun j => inP (188 + j) (.not (.eq (tmS j) (tmS 1)))) = true := by decide +kernel
theorem sw_3_2 : ((List.range 2).all fun j => inP (198 + j) (.not (.eq (tmS j) (tmS 2)))) = true := by decide +kernel
theorem sw_3_3 : ((List.range 3).all fun j => inP (208 + j) (.not (.eq (tmS j) (tmS 3)))) = true := by decide +kernel
theorem sw_3_4 : ((List.range 4).all fun j => inP (220 + j) (.not (.eq (tmS j) (tmS 4)))) = true := by decide +kernel
theorem sw_3_5 : ((List.range 5).all fun j => inP (231 + j) (.not (.eq (tmS j) (tmS 5)))) = true := by decide +kernel
theorem sw_3_6 : ((List.range 6).all fun j => inP (245 + j) (.not (.eq (tmS j) (tmS 6)))) = true := by decide +kernel
theorem sw_3_7 : ((List.range 7).all fun j => inP (257 + j) (.not (.eq (tmS j) (tmS 7)))) = true := by decide +kernel
theorem sw_3_8 : ((List.range 8).all fun j => inP (271 + j) (.not (.eq (tmS j) (tmS 8)))) = true := by decide +kernel
theorem sw_3_9 : ((List.range 9).all fun j => inP (286 + j) (.not (.eq (tmS j) (tmS 9)))) = true := by decide +kernel
theorem sw_3_10 : ((List.range 10).all fun j => inP (303 + j) (.not (.eq (tmS j) (tmS 10)))) = true := by decide +kernel
theorem sw_3_11 : ((List.range 11).all fun j => inP (322 + j) (.not (.eq (tmS j) (tmS 11)))) = true := by decide +kernel
theorem sw_3_12 : ((List.range 12).all fun j => inP (342 + j) (.not (.eq (tmS j) (tmS 12)))) = true := by decide +kernel
theorem sw_4 : ((List.range 13).all fun i => inT (posR.getD i 0) (.stringRef (strL.getD i ("", 0, "")).1 (strL.getD i ("", 0, "")).2.1 (strL.getD i ("", 0, "")).2.2)) = true := by decide +kernel
theorem sw_5 : ((List.range 6).all fun j => inP (16 + j) (.eq (.elem tmA (.int (Int32.ofNat j))) (.int (ansL.getD j 0)))) = true := by decide +kernel
theorem sw_6 : ((List.range 5).all fun i => match nestL[i]? with | some q => inT (posQ.getD i 0) (.methodLinkNest q.1 q.2.1 q.2.2.1 q.2.2.2) | none => true) = true := by decide +kernel
theorem sw_7 : ((List.range 17).all fun i => match castL[i]? with | some q => inT (posC.getD i 0) (.castable q.1 q.2) | none => true) = true := by decide +kernel
theorem sw_8 : ((List.range 23).all fun i => match ncL[i]? with | some q => inP (posN.getD i 0) (.not (.castable q.1 q.2)) | none => true) = true := by decide +kernel
theorem sv_Aa : inP 14 (.arrayOf tmA .int) = true := by decide +kernel
theorem sv_Al : inP 15 (.eq (.length tmA) (.int 6)) = true := by decide +kernel
theorem sv_Ea : inP 5 (.arrayOf tmE (.object "java/lang/Object")) = true := by decide +kernel
theorem sv_El : inP 7 (.eq (.length tmE) (.int 0)) = true := by decide +kernel
theorem sv_CS : inP 8 (.eq (.static "java/lang/String" "COMPACT_STRINGS" "Z") (.int 1)) = true := by decide +kernel
theorem sv_SI : inP 9 (.isRef (.static "jdk/internal/util/Preconditions" "SIOOBE_FORMATTER" "Ljava/util/function/BiFunction;")) = true := by decide +kernel
theorem sv_aI : inT 97 (.arrayClass .int) = true := by decide +kernel
theorem sv_aJ : inT 346 (.arrayClass .long) = true := by decide +kernel
theorem sv_aZ : inT 1269 (.arrayClass .boolean) = true := by decide +kernel
theorem sv_oO : inT 399 (.arrayOver (.object "java/lang/Object")) = true := by decide +kernel
theorem sv_oI : inT 125 (.arrayOver (.array .int)) = true := by decide +kernel
theorem sv_lA : inT 962 (.laysStatic "ThreeBalls" "ANSWER_PLACES" "[I") = true := by decide +kernel
theorem sv_iA : inT 1 (.initialized "ThreeBalls") = true := by decide +kernel
theorem sv_lE : inT 48 (.laysStatic "java/util/ArrayList" "DEFAULTCAPACITY_EMPTY_ELEMENTDATA" "[Ljava/lang/Object;") = true := by decide +kernel
theorem sv_iE : inT 4 (.initialized "java/util/ArrayList") = true := by decide +kernel
theorem sv_lC : inT 156 (.laysStatic "java/lang/String" "COMPACT_STRINGS" "Z") = true := by decide +kernel
theorem sv_iC : inT 8 (.initialized "java/lang/String") = true := by decide +kernel
theorem sv_lS : inT 172 (.laysStatic "jdk/internal/util/Preconditions" "SIOOBE_FORMATTER" "Ljava/util/function/BiFunction;") = true := by decide +kernel
theorem sv_iS : inT 10 (.initialized "jdk/internal/util/Preconditions") = true := by decide +kernel
theorem sv_nJx4a65c : inT 36 (.instantiable RJx4a65c 3) = true := by decide +kernel
theorem sv_nX0 : inT 562 (.instantiable RX0 8) = true := by decide +kernel
theorem sv_nX1 : inT 577 (.instantiable RX1 8) = true := by decide +kernel
theorem sv_nX2 : inT 127 (.instantiable RX2 3) = true := by decide +kernel
theorem sv_nX3 : inT 752 (.instantiable RX3 5) = true := by decide +kernel
theorem sv_nX4 : inT 482 (.instantiable RX4 8) = true := by decide +kernel
theorem sv_nX5 : inT 99 (.instantiable RX5 5) = true := by decide +kernel
theorem sv_nX6 : inT 62 (.instantiable RX6 9) = true := by decide +kernel
theorem sv_nX7 : inT 547 (.instantiable RX7 8) = true := by decide +kernel
theorem sv_nX8 : inT 592 (.instantiable RX8 8) = true := by decide +kernel
theorem sv_nX9 : inT 312 (.instantiable RX9 4) = true := by decide +kernel
theorem sv_nX10 : inT 532 (.instantiable RX10 8) = true := by decide +kernel
theorem sv_nX11 : inT 28 (.instantiable RX11 20) = true := by decide +kernel
theorem sv_nX12 : inT 1081 (.instantiable RX12 57) = true := by decide +kernel
