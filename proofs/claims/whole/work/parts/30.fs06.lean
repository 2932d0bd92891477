-- Jx4a65c_elementData_915e3
def f_Jx4a65c_elementData_915e3 (p0 : Nat) (p1 : Int32) (h : HS) : Option (Option Nat) := (if hT h p0 = 1 then (om (hR h p0 1) none (fun b2 => (if b2 = 27 then none else (if hT h b2 = 18 then (if ixb p1 (hLn h b2) = true then (om (hR h b2 p1.toNatClampNeg) none (fun b6 => (some (some b6)))) else none) else none)))) else none)
set_option maxHeartbeats 4000000 in
set_option maxRecDepth 20000 in
theorem t_Jx4a65c_elementData_915e3 {G : GE} (d : Nat) {p0 : Nat} {p1 : Int32} {h : HS} {q : (Option Nat)} (H : f_Jx4a65c_elementData_915e3 p0 p1 h = some q) : CE G (d + 0) yJx4a65c_elementData_915e3 miJx4a65c_elementData_915e3 [.ref p0, .int p1] h (some (va_rf q)) (h) := by
  unfold f_Jx4a65c_elementData_915e3 at H
  refine ce_of rfl (by decide) (fun q => by first | rfl | cases q) (Nat.le_of_ble_eq_true rfl) rfl ?_
  refine g_aload_n dJx4a65c_elementData_915e3_0 rfl rfl ?_
  replace H := og H; obtain ⟨g1, H⟩ := H
  replace H := oom H; obtain ⟨-, H⟩ | ⟨b2, e3, H⟩ := H
  · exact nz H
  refine e_getR g1 flJx4a65c_9_0 dJx4a65c_elementData_915e3_1 rfl e3 ?_
  replace H := oi H; obtain ⟨c8, H⟩ | ⟨c8, H⟩ := H
  · subst c8
    refine e_iload_n dJx4a65c_elementData_915e3_4 rfl ?_
    exact nz H
  · refine e_iload_n dJx4a65c_elementData_915e3_4 rfl ?_
    replace H := og H; obtain ⟨g4, H⟩ := H
    replace H := og H; obtain ⟨g5, H⟩ := H
    replace H := oom H; obtain ⟨-, H⟩ | ⟨b6, e7, H⟩ := H
    · exact nz H
    refine e_aald (v := .ref b6) g4 (by decide) (ixb_y rfl g5) (by rw [e7]; rfl) dJx4a65c_elementData_915e3_5 ?_
    obtain rfl := Option.some.inj H
    exact z_aret rfl (by first | exact Or.inl ⟨_, rfl⟩ | exact Or.inr ⟨_, rfl⟩) (by first | exact Or.inl rfl | exact Or.inr ⟨_, rfl⟩) dJx4a65c_elementData_915e3_6 rfl rfl
-- Jx4a65c_get_915e3
def f_Jx4a65c_get_915e3 (p0 : Nat) (p1 : Int32) (h : HS) : Option (Option Nat) := (if hT h p0 = 1 then (Option.bind (f_J15_checkIndex_7cf53 p1 (hI h p0 2)) (fun q2 => (Option.bind (f_Jx4a65c_elementData_915e3 p0 p1 h) (fun q4 => (om q4 (some none) (fun b7 => (some (some b7)))))))) else none)
set_option maxHeartbeats 4000000 in
set_option maxRecDepth 20000 in
theorem t_Jx4a65c_get_915e3 {G : GE} (d : Nat) {p0 : Nat} {p1 : Int32} {h : HS} {q : (Option Nat)} (H : f_Jx4a65c_get_915e3 p0 p1 h = some q) : CE G (d + 2) yJx4a65c_get_915e3 miJx4a65c_get_915e3 [.ref p0, .int p1] h (some (va_rf q)) (h) := by
  unfold f_Jx4a65c_get_915e3 at H
  refine ce_of rfl (by decide) (fun q => by first | rfl | cases q) (Nat.le_of_ble_eq_true rfl) rfl ?_
  refine e_iload_n dJx4a65c_get_915e3_0 rfl ?_
  refine g_aload_n dJx4a65c_get_915e3_1 rfl rfl ?_
  replace H := og H; obtain ⟨g1, H⟩ := H
  refine e_getI g1 flJx4a65c_48_0 dJx4a65c_get_915e3_2 rfl ?_
  replace H := ob H; obtain ⟨q2, c3, H⟩ := H
  refine s1 lmJx4a65c_118 lsJ15_checkIndex_7cf53 msJ15_checkIndex_7cf53 dJx4a65c_get_915e3_5 (t_J15_checkIndex_7cf53 (d + 0) c3) rfl (Nat.le_of_ble_eq_true rfl) (Nat.le_refl _) ?_
  refine e_pop dJx4a65c_get_915e3_8 rfl ?_
  refine g_aload_n dJx4a65c_get_915e3_9 rfl rfl ?_
  refine e_iload_n dJx4a65c_get_915e3_10 rfl ?_
  replace H := ob H; obtain ⟨q4, c5, H⟩ := H
  replace H := oom H; obtain ⟨e6, H⟩ | ⟨b7, e6, H⟩ := H
  · refine v1 g1 (by decide) rfl rfl lmJx4a65c_123 liJx4a65c_elementData_915e3 lvJx4a65c_Jx4a65c_elementData_915e3 msJx4a65c_elementData_915e3 dJx4a65c_get_915e3_11 (ceN e6 (t_Jx4a65c_elementData_915e3 (d + 1) c5)) rfl (Nat.le_of_ble_eq_true rfl) (Nat.le_refl _) ?_
    obtain rfl := Option.some.inj H
    exact z_aret rfl (by first | exact Or.inl ⟨_, rfl⟩ | exact Or.inr ⟨_, rfl⟩) (by first | exact Or.inl rfl | exact Or.inr ⟨_, rfl⟩) dJx4a65c_get_915e3_14 rfl rfl
  · refine v1 g1 (by decide) rfl rfl lmJx4a65c_123 liJx4a65c_elementData_915e3 lvJx4a65c_Jx4a65c_elementData_915e3 msJx4a65c_elementData_915e3 dJx4a65c_get_915e3_11 (ceS e6 (t_Jx4a65c_elementData_915e3 (d + 1) c5)) rfl (Nat.le_of_ble_eq_true rfl) (Nat.le_refl _) ?_
    obtain rfl := Option.some.inj H
    exact z_aret rfl (by first | exact Or.inl ⟨_, rfl⟩ | exact Or.inr ⟨_, rfl⟩) (by first | exact Or.inl rfl | exact Or.inr ⟨_, rfl⟩) dJx4a65c_get_915e3_14 rfl rfl
-- X11_stallAt
def f_X11_stallAt (p1 : Int32) (h : HS) : Option (Option Nat) := (if hT h 33 = 1 then (Option.bind (f_Jx4a65c_size_8abf5 33 h) (fun q1 => (Option.bind (f_X11_isIn p1 (0 : Int32) (q1 - (1 : Int32))) (fun q4 => (if q4 = true then (Option.bind (f_Jx4a65c_get_915e3 33 p1 h) (fun q7 => (om q7 none (fun b10 => (if isSt (hT h b10) = true then (some (some b10)) else none))))) else (some none)))))) else none)
set_option maxHeartbeats 4000000 in
set_option maxRecDepth 20000 in
theorem t_X11_stallAt {G : GE} (d : Nat) {p1 : Int32} {h : HS} {q : (Option Nat)} (hY : LY TX h) (H : f_X11_stallAt p1 h = some q) : CE G (d + 3) yX11_stallAt miX11_stallAt [.ref 32, .int p1] h (some (va_rf q)) (h) := by
  unfold f_X11_stallAt at H
  refine ce_of rfl (by decide) (fun q => by first | rfl | cases q) (Nat.le_of_ble_eq_true rfl) rfl ?_
  refine e_iload_n dX11_stallAt_0 rfl ?_
  refine e_iconst (v := (0 : Int32)) dX11_stallAt_1 (by decide) ?_
  refine g_aload_n dX11_stallAt_2 rfl rfl ?_
  refine e_getR (hY.t 0 rfl) flX11_12_12 dX11_stallAt_3 rfl (hY.r 0 rfl) ?_
  replace H := og H; obtain ⟨g3, H⟩ := H
  replace H := ob H; obtain ⟨q1, c2, H⟩ := H
  refine v1 (hY.t 1 rfl) (by decide) rfl rfl lmX11_114 liJx4a65c_size_8abf5 lvJx4a65c_Jx4a65c_size_8abf5 msJx4a65c_size_8abf5 dX11_stallAt_6 (t_Jx4a65c_size_8abf5 (d + 2) c2) rfl (Nat.le_of_ble_eq_true rfl) (Nat.le_refl _) ?_
  refine e_iconst (v := (1 : Int32)) dX11_stallAt_9 (by decide) ?_
  refine e_isub dX11_stallAt_10 ?_
  replace H := ob H; obtain ⟨q4, c5, H⟩ := H
  refine s1 lmX11_106 lsX11_isIn msX11_isIn dX11_stallAt_11 (t_X11_isIn (d + 2) c5) rfl (Nat.le_of_ble_eq_true rfl) (Nat.le_refl _) ?_
  refine e_ifB_eq (tgt := 31) dX11_stallAt_14 (by decide) (fun c6 => ?_) (fun c6 => ?_)
  · replace H := of_ (nb c6) H
    refine e_null dX11_stallAt_31 ?_
    obtain rfl := Option.some.inj H
    exact z_aret rfl (by first | exact Or.inl ⟨_, rfl⟩ | exact Or.inr ⟨_, rfl⟩) (by first | exact Or.inl rfl | exact Or.inr ⟨_, rfl⟩) dX11_stallAt_32 rfl rfl
  · replace H := ot c6 H
    refine g_aload_n dX11_stallAt_17 rfl rfl ?_
    refine e_getR (hY.t 0 rfl) flX11_12_12 dX11_stallAt_18 rfl (hY.r 0 rfl) ?_
    refine e_iload_n dX11_stallAt_21 rfl ?_
    replace H := ob H; obtain ⟨q7, c8, H⟩ := H
    replace H := oom H; obtain ⟨e9, H⟩ | ⟨b10, e9, H⟩ := H
    · refine v1 (hY.t 1 rfl) (by decide) rfl rfl lmX11_276 liJx4a65c_get_915e3 lvJx4a65c_Jx4a65c_get_915e3 msJx4a65c_get_915e3 dX11_stallAt_22 (ceN e9 (t_Jx4a65c_get_915e3 (d + 0) c8)) rfl (Nat.le_of_ble_eq_true rfl) (Nat.le_refl _) ?_
      exact nz H
    · refine v1 (hY.t 1 rfl) (by decide) rfl rfl lmX11_276 liJx4a65c_get_915e3 lvJx4a65c_Jx4a65c_get_915e3 msJx4a65c_get_915e3 dX11_stallAt_22 (ceS e9 (t_Jx4a65c_get_915e3 (d + 0) c8)) rfl (Nat.le_of_ble_eq_true rfl) (Nat.le_refl _) ?_
      replace H := og H; obtain ⟨g11, H⟩ := H
      refine e_castSt g11 lcX11_131 dX11_stallAt_25 ?_
      refine e_goto (tgt := 32) dX11_stallAt_28 (by decide) ?_
      obtain rfl := Option.some.inj H
      exact z_aret rfl (by first | exact Or.inl ⟨_, rfl⟩ | exact Or.inr ⟨_, rfl⟩) (by first | exact Or.inl rfl | exact Or.inr ⟨_, rfl⟩) dX11_stallAt_32 rfl rfl
-- X11_isBit
def f_X11_isBit (p0 : Int32) : Option Bool := (if p0 = 0 then (some true) else (if p0 = (1 : Int32) then (some true) else (some false)))
set_option maxHeartbeats 4000000 in
set_option maxRecDepth 20000 in
theorem t_X11_isBit {G : GE} (d : Nat) {p0 : Int32} {h : HS} {q : Bool} (H : f_X11_isBit p0 = some q) : CE G (d + 0) yX11_isBit miX11_isBit [.int p0] h (some (.int (b2i q))) (h) := by
  unfold f_X11_isBit at H
  refine ce_of rfl (by decide) (fun q => by first | rfl | cases q) (Nat.le_of_ble_eq_true rfl) rfl ?_
  refine e_iload_n dX11_isBit_0 rfl ?_
  refine e_if_eq (tgt := 9) dX11_isBit_1 (by decide) (fun c1 => ?_) (fun c1 => ?_)
  · replace H := ot c1 H
    refine e_iconst (v := (1 : Int32)) dX11_isBit_9 (by decide) ?_
    refine e_goto (tgt := 14) dX11_isBit_10 (by decide) ?_
    obtain rfl := Option.some.inj H
    exact z_iret rfl rfl dX11_isBit_14 rfl rfl
  · replace H := of_ c1 H
    refine e_iload_n dX11_isBit_4 rfl ?_
    refine e_iconst (v := (1 : Int32)) dX11_isBit_5 (by decide) ?_
    refine e_icmp_ne (tgt := 13) dX11_isBit_6 (by decide) (fun c2 => ?_) (fun c2 => ?_)
    · replace H := of_ c2 H
      refine e_iconst (v := (0 : Int32)) dX11_isBit_13 (by decide) ?_
      obtain rfl := Option.some.inj H
      exact z_iret rfl rfl dX11_isBit_14 rfl rfl
    · replace H := ot c2 H
      refine e_iconst (v := (1 : Int32)) dX11_isBit_9 (by decide) ?_
      refine e_goto (tgt := 14) dX11_isBit_10 (by decide) ?_
      obtain rfl := Option.some.inj H
      exact z_iret rfl rfl dX11_isBit_14 rfl rfl
-- X11_isSettable
def f_X11_isSettable (p0 : Int32) (p1 : Int32) : Option Bool := (if p0 = (0 : Int32) then (Option.bind (f_X11_isIn p1 (1 : Int32) (99 : Int32)) (fun q11 => (some q11))) else (if p0 = (1 : Int32) then (Option.bind (f_X11_isIn p1 (0 : Int32) (999 : Int32)) (fun q9 => (some q9))) else (if p0 = (2 : Int32) then (Option.bind (f_X11_isIn p1 (0 : Int32) (999 : Int32)) (fun q7 => (some q7))) else (if p0 = (3 : Int32) then (Option.bind (f_X11_isBit p1) (fun q5 => (some q5))) else (some false)))))
set_option maxHeartbeats 4000000 in
set_option maxRecDepth 20000 in
theorem t_X11_isSettable {G : GE} (d : Nat) {p0 : Int32} {p1 : Int32} {h : HS} {q : Bool} (H : f_X11_isSettable p0 p1 = some q) : CE G (d + 1) yX11_isSettable miX11_isSettable [.int p0, .int p1] h (some (.int (b2i q))) (h) := by
  unfold f_X11_isSettable at H
  refine ce_of rfl (by decide) (fun q => by first | rfl | cases q) (Nat.le_of_ble_eq_true rfl) rfl ?_
  refine e_iload_n dX11_isSettable_0 rfl ?_
  by_cases k1 : p0 = (0 : Int32)
  · replace H := ot k1 H
    refine e_tableIn (off := 31) (tgt := 32) dX11_isSettable_1 (by rw [k1]; decide) (by rw [k1]; decide) (by rw [k1]; rfl) (by decide) ?_
    refine e_iload_n dX11_isSettable_32 rfl ?_
    refine e_iconst (v := (1 : Int32)) dX11_isSettable_33 (by decide) ?_
    refine e_bipush (v := (99 : Int32)) dX11_isSettable_34 (by decide) ?_
    replace H := ob H; obtain ⟨q11, c12, H⟩ := H
    refine s1 lmX11_106 lsX11_isIn msX11_isIn dX11_isSettable_36 (t_X11_isIn (d + 0) c12) rfl (Nat.le_of_ble_eq_true rfl) (Nat.le_refl _) ?_
    obtain rfl := Option.some.inj H
    exact z_bret rfl dX11_isSettable_39 rfl rfl
  · replace H := of_ k1 H
    by_cases k2 : p0 = (1 : Int32)
    · replace H := ot k2 H
      refine e_tableIn (off := 39) (tgt := 40) dX11_isSettable_1 (by rw [k2]; decide) (by rw [k2]; decide) (by rw [k2]; rfl) (by decide) ?_
      refine e_iload_n dX11_isSettable_40 rfl ?_
      refine e_iconst (v := (0 : Int32)) dX11_isSettable_41 (by decide) ?_
      refine e_sipush (v := (999 : Int32)) dX11_isSettable_42 (by decide) ?_
      replace H := ob H; obtain ⟨q9, c10, H⟩ := H
      refine s1 lmX11_106 lsX11_isIn msX11_isIn dX11_isSettable_45 (t_X11_isIn (d + 0) c10) rfl (Nat.le_of_ble_eq_true rfl) (Nat.le_refl _) ?_
      obtain rfl := Option.some.inj H
      exact z_bret rfl dX11_isSettable_48 rfl rfl
    · replace H := of_ k2 H
      by_cases k3 : p0 = (2 : Int32)
      · replace H := ot k3 H
        refine e_tableIn (off := 48) (tgt := 49) dX11_isSettable_1 (by rw [k3]; decide) (by rw [k3]; decide) (by rw [k3]; rfl) (by decide) ?_
        refine e_iload_n dX11_isSettable_49 rfl ?_
        refine e_iconst (v := (0 : Int32)) dX11_isSettable_50 (by decide) ?_
        refine e_sipush (v := (999 : Int32)) dX11_isSettable_51 (by decide) ?_
        replace H := ob H; obtain ⟨q7, c8, H⟩ := H
        refine s1 lmX11_106 lsX11_isIn msX11_isIn dX11_isSettable_54 (t_X11_isIn (d + 0) c8) rfl (Nat.le_of_ble_eq_true rfl) (Nat.le_refl _) ?_
        obtain rfl := Option.some.inj H
        exact z_bret rfl dX11_isSettable_57 rfl rfl
      · replace H := of_ k3 H
        by_cases k4 : p0 = (3 : Int32)
        · replace H := ot k4 H
          refine e_tableIn (off := 57) (tgt := 58) dX11_isSettable_1 (by rw [k4]; decide) (by rw [k4]; decide) (by rw [k4]; rfl) (by decide) ?_
          refine e_iload_n dX11_isSettable_58 rfl ?_
          replace H := ob H; obtain ⟨q5, c6, H⟩ := H
          refine s1 lmX11_186 lsX11_isBit msX11_isBit dX11_isSettable_59 (t_X11_isBit (d + 0) c6) rfl (Nat.le_of_ble_eq_true rfl) (Nat.le_refl _) ?_
          obtain rfl := Option.some.inj H
          exact z_bret rfl dX11_isSettable_62 rfl rfl
        · replace H := of_ k4 H
          refine e_tableOut (tgt := 63) dX11_isSettable_1 (by have q0 : p0.toInt ≠ 0 := i32_ne k1; have q1 : p0.toInt ≠ 1 := i32_ne k2; have q2 : p0.toInt ≠ 2 := i32_ne k3; have q3 : p0.toInt ≠ 3 := i32_ne k4; omega) (by decide) ?_
          refine e_iconst (v := (0 : Int32)) dX11_isSettable_63 (by decide) ?_
          obtain rfl := Option.some.inj H
          exact z_iret rfl rfl dX11_isSettable_64 rfl rfl
-- vd_changeableX11
theorem vrchangeable_X11 {G : GE} {D : Nat} {M : ByteArray × Nat × Option FieldType × Bool} {pc : Nat} {ls st : List Value} {r : Option Value} {h' : HS} {p0 : Nat} {p1 : Int32} {h : HS} {q : Int32} (c : f_V_changeable p0 p1 h = some q) (d : Nat) (hd : decode M.1 pc = .ok (.invokevirtual 130, 3)) (hw : wS st ≤ 8) (hdd : d + 0 + 1 ≤ D) (kk : En G D (RX11, M) (pc + 3) ls (.int q :: st) h r h') : En G D (RX11, M) pc ls (.int p1 :: .ref p0 :: st) h r h' := by
  unfold f_V_changeable at c
  replace c := oi c; obtain ⟨g, c⟩ | ⟨-, c⟩ := c
  · exact v1 g (by decide) rfl rfl lmX11_130 liX8_changeable lvX8_X8_changeable msX8_changeable hd (t_X8_changeable (d + 0) c) rfl hw (by omega) kk
  replace c := oi c; obtain ⟨g, c⟩ | ⟨-, c⟩ := c
  · exact e_callU (owner := RX8) g (by decide) rfl lmX11_130 lqX8_changeable liX8_changeable lvX4_X8_changeable liX8_changeable msX8_changeable.2.1 ⟨by decide, by decide, by show _ = some (1 : Nat); decide⟩ msX8_changeable hd hw (by omega) rfl (t_X8_changeable (d + 0) c) kk
  replace c := oi c; obtain ⟨g, c⟩ | ⟨-, c⟩ := c
  · exact e_callU (owner := RX8) g (by decide) rfl lmX11_130 lqX8_changeable liX8_changeable lvX10_X8_changeable liX8_changeable msX8_changeable.2.1 ⟨by decide, by decide, by show _ = some (1 : Nat); decide⟩ msX8_changeable hd hw (by omega) rfl (t_X8_changeable (d + 0) c) kk
  replace c := oi c; obtain ⟨g, c⟩ | ⟨-, c⟩ := c
  · exact e_callU (owner := RX8) g (by decide) rfl lmX11_130 lqX8_changeable liX8_changeable lvX7_X8_changeable liX8_changeable msX8_changeable.2.1 ⟨by decide, by decide, by show _ = some (1 : Nat); decide⟩ msX8_changeable hd hw (by omega) rfl (t_X8_changeable (d + 0) c) kk
  replace c := oi c; obtain ⟨g, c⟩ | ⟨-, c⟩ := c
  · exact e_callU (owner := RX8) g (by decide) rfl lmX11_130 lqX8_changeable liX8_changeable lvX0_X8_changeable liX8_changeable msX8_changeable.2.1 ⟨by decide, by decide, by show _ = some (1 : Nat); decide⟩ msX8_changeable hd hw (by omega) rfl (t_X8_changeable (d + 0) c) kk
  replace c := oi c; obtain ⟨g, c⟩ | ⟨-, c⟩ := c
  · exact e_callU (owner := RX8) g (by decide) rfl lmX11_130 lqX8_changeable liX8_changeable lvX1_X8_changeable liX8_changeable msX8_changeable.2.1 ⟨by decide, by decide, by show _ = some (1 : Nat); decide⟩ msX8_changeable hd hw (by omega) rfl (t_X8_changeable (d + 0) c) kk
  exact nz c
-- vd_changeX11
theorem vrchange_X11 {G : GE} {D : Nat} {M : ByteArray × Nat × Option FieldType × Bool} {pc : Nat} {ls st : List Value} {r : Option Value} {h' : HS} {p0 : Nat} {p1 : Int32} {p2 : Int32} {h : HS} {q : HS} (c : f_V_change p0 p1 p2 h = some q) (d : Nat) (hd : decode M.1 pc = .ok (.invokevirtual 136, 3)) (hw : wS st ≤ 8) (hdd : d + 0 + 1 ≤ D) (kk : En G D (RX11, M) (pc + 3) ls (st) q r h') : En G D (RX11, M) pc ls (.int p2 :: .int p1 :: .ref p0 :: st) h r h' := by
  unfold f_V_change at c
  replace c := oi c; obtain ⟨g, c⟩ | ⟨-, c⟩ := c
  · exact v0 g (by decide) rfl rfl lmX11_136 liX8_change lvX8_X8_change msX8_change hd (t_X8_change (d + 0) c) rfl hw (by omega) kk
  replace c := oi c; obtain ⟨g, c⟩ | ⟨-, c⟩ := c
  · exact e_callU (owner := RX8) g (by decide) rfl lmX11_136 lqX8_change liX8_change lvX4_X8_change liX8_change msX8_change.2.1 ⟨by decide, by decide, by show _ = some (2 : Nat); decide⟩ msX8_change hd hw (by omega) rfl (t_X8_change (d + 0) c) kk
  replace c := oi c; obtain ⟨g, c⟩ | ⟨-, c⟩ := c
  · exact e_callU (owner := RX8) g (by decide) rfl lmX11_136 lqX8_change liX8_change lvX10_X8_change liX8_change msX8_change.2.1 ⟨by decide, by decide, by show _ = some (2 : Nat); decide⟩ msX8_change hd hw (by omega) rfl (t_X8_change (d + 0) c) kk
  replace c := oi c; obtain ⟨g, c⟩ | ⟨-, c⟩ := c
  · exact e_callU (owner := RX8) g (by decide) rfl lmX11_136 lqX8_change liX8_change lvX7_X8_change liX8_change msX8_change.2.1 ⟨by decide, by decide, by show _ = some (2 : Nat); decide⟩ msX8_change hd hw (by omega) rfl (t_X8_change (d + 0) c) kk
  replace c := oi c; obtain ⟨g, c⟩ | ⟨-, c⟩ := c
  · exact e_callU (owner := RX8) g (by decide) rfl lmX11_136 lqX8_change liX8_change lvX0_X8_change liX8_change msX8_change.2.1 ⟨by decide, by decide, by show _ = some (2 : Nat); decide⟩ msX8_change hd hw (by omega) rfl (t_X8_change (d + 0) c) kk
  replace c := oi c; obtain ⟨g, c⟩ | ⟨-, c⟩ := c
  · exact e_callU (owner := RX8) g (by decide) rfl lmX11_136 lqX8_change liX8_change lvX1_X8_change liX8_change msX8_change.2.1 ⟨by decide, by decide, by show _ = some (2 : Nat); decide⟩ msX8_change hd hw (by omega) rfl (t_X8_change (d + 0) c) kk
  exact nz c
-- X11_set
def f_X11_set (p1 : Int32) (p2 : Int32) (p3 : Int32) (h : HS) : Option (Int32 × HS) := (Option.bind (f_X11_stallAt p1 h) (fun q1 => (om q1 (some ((-5 : Int32), h)) (fun b4 => (Option.bind (f_X11_isSettable p2 p3) (fun q7 => (if q7 = true then (Option.bind (f_V_changeable b4 p2 h) (fun q10 => (Option.bind (f_V_change b4 p2 p3 h) (fun q12 => (some (q10, q12)))))) else (some ((-5 : Int32), h)))))))))
set_option maxHeartbeats 4000000 in
set_option maxRecDepth 20000 in
theorem p_X11_set {p1 : Int32} {p2 : Int32} {p3 : Int32} {h : HS} {q : (Int32 × HS)} (H : f_X11_set p1 p2 p3 h = some q) : Pr h q.2 := by
  unfold f_X11_set at H
  replace H := ob H; obtain ⟨q1, c2, H⟩ := H
  replace H := oom H; obtain ⟨e3, H⟩ | ⟨b4, e3, H⟩ := H
  · obtain rfl := Option.some.inj H
    exact Pr.rf
  · replace H := ob H; obtain ⟨q7, c8, H⟩ := H
    replace H := oi H; obtain ⟨c9, H⟩ | ⟨c9, H⟩ := H
    · replace H := ob H; obtain ⟨q10, c11, H⟩ := H
      replace H := ob H; obtain ⟨q12, c13, H⟩ := H
      have e14 := p_V_change c13
      obtain rfl := Option.some.inj H
      exact e14
    · obtain rfl := Option.some.inj H
      exact Pr.rf
set_option maxHeartbeats 4000000 in
set_option maxRecDepth 20000 in
theorem t_X11_set {G : GE} (d : Nat) {p1 : Int32} {p2 : Int32} {p3 : Int32} {h : HS} {q : (Int32 × HS)} (hY : LY TX h) (H : f_X11_set p1 p2 p3 h = some q) : CE G (d + 4) yX11_set miX11_set [.ref 32, .int p1, .int p2, .int p3] h (some (.int q.1)) (q.2) := by
  unfold f_X11_set at H
  refine ce_of rfl (by decide) (fun q => by first | rfl | cases q) (Nat.le_of_ble_eq_true rfl) rfl ?_
  refine g_aload_n dX11_set_0 rfl rfl ?_
  refine e_iload_n dX11_set_1 rfl ?_
  replace H := ob H; obtain ⟨q1, c2, H⟩ := H
  replace H := oom H; obtain ⟨e3, H⟩ | ⟨b4, e3, H⟩ := H
  · refine v1 (hY.t 0 rfl) (by decide) rfl rfl lmX11_122 liX11_stallAt lvX11_X11_stallAt msX11_stallAt dX11_set_2 (ceN e3 (t_X11_stallAt (d + 0) hY c2)) rfl (Nat.le_of_ble_eq_true rfl) (Nat.le_refl _) ?_
    refine g_astore dX11_set_5 (Nat.le_of_ble_eq_true rfl) rfl rfl rfl ?_
    refine g_aload dX11_set_7 rfl rfl ?_
    refine e_ifnullN (tgt := 20) dX11_set_9 (by decide) ?_
    refine e_bipush (v := (-5 : Int32)) dX11_set_20 (by decide) ?_
    obtain rfl := Option.some.inj H
    exact z_iret rfl rfl dX11_set_22 rfl rfl
  · refine v1 (hY.t 0 rfl) (by decide) rfl rfl lmX11_122 liX11_stallAt lvX11_X11_stallAt msX11_stallAt dX11_set_2 (ceS e3 (t_X11_stallAt (d + 0) hY c2)) rfl (Nat.le_of_ble_eq_true rfl) (Nat.le_refl _) ?_
    refine g_astore dX11_set_5 (Nat.le_of_ble_eq_true rfl) rfl rfl rfl ?_
    refine g_aload dX11_set_7 rfl rfl ?_
    refine e_ifnull dX11_set_9 ?_
    refine e_iload_n dX11_set_12 rfl ?_
    refine e_iload_n dX11_set_13 rfl ?_
    replace H := ob H; obtain ⟨q7, c8, H⟩ := H
    refine s1 lmX11_126 lsX11_isSettable msX11_isSettable dX11_set_14 (t_X11_isSettable (d + 2) c8) rfl (Nat.le_of_ble_eq_true rfl) (Nat.le_refl _) ?_
    refine e_ifB_ne (tgt := 23) dX11_set_17 (by decide) (fun c9 => ?_) (fun c9 => ?_)
    · replace H := ot c9 H
      refine g_aload dX11_set_23 rfl rfl ?_
      refine e_iload_n dX11_set_25 rfl ?_
      replace H := ob H; obtain ⟨q10, c11, H⟩ := H
      refine vrchangeable_X11 c11 (d + 3) dX11_set_26 (Nat.le_of_ble_eq_true rfl) (Nat.le_refl _) ?_
      refine e_istore dX11_set_29 (Nat.le_of_ble_eq_true rfl) rfl rfl ?_
      refine g_aload dX11_set_31 rfl rfl ?_
      refine e_iload_n dX11_set_33 rfl ?_
      refine e_iload_n dX11_set_34 rfl ?_
      replace H := ob H; obtain ⟨q12, c13, H⟩ := H
      refine vrchange_X11 c13 (d + 3) dX11_set_35 (Nat.le_of_ble_eq_true rfl) (Nat.le_refl _) ?_
      have e14 := p_V_change c13
      have hY15 := hY.pr okX e14
      refine e_iload dX11_set_38 rfl ?_
      obtain rfl := Option.some.inj H
      exact z_iret rfl rfl dX11_set_40 rfl rfl
    · replace H := of_ (nb c9) H
      refine e_bipush (v := (-5 : Int32)) dX11_set_20 (by decide) ?_
      obtain rfl := Option.some.inj H
      exact z_iret rfl rfl dX11_set_22 rfl rfl
-- X11_tellValues
def f_X11_tellValues (p1 : Nat) (p2 : Int32) (h : HS) : Option HS := (if isSt (hT (sI h 50 (0 : Int32).toNatClampNeg p2) p1) = true then (bh (sI (sI (sI h 50 (0 : Int32).toNatClampNeg p2) 50 (1 : Int32).toNatClampNeg (hI (sI h 50 (0 : Int32).toNatClampNeg p2) p1 4)) 50 (2 : Int32).toNatClampNeg (hI (sI (sI h 50 (0 : Int32).toNatClampNeg p2) 50 (1 : Int32).toNatClampNeg (hI (sI h 50 (0 : Int32).toNatClampNeg p2) p1 4)) p1 5)) (fun h2 => (some (sI h2 50 (3 : Int32).toNatClampNeg (hI h2 p1 6))))) else none)
set_option maxHeartbeats 4000000 in
set_option maxRecDepth 20000 in
theorem p_X11_tellValues {p1 : Nat} {p2 : Int32} {h : HS} {q : HS} (H : f_X11_tellValues p1 p2 h = some q) : Pr h q := by
  unfold f_X11_tellValues at H
  replace H := og H; obtain ⟨g1, H⟩ := H
  replace H := obh H; obtain ⟨h2, e3, H⟩ := H
  obtain rfl := Option.some.inj H
  exact ((kP e3 (((Pr.rf.sI).sI).sI)).sI)
set_option maxHeartbeats 4000000 in
set_option maxRecDepth 20000 in
theorem t_X11_tellValues {G : GE} (d : Nat) {p1 : Nat} {p2 : Int32} {h : HS} {q : HS} (hY : LY TX h) (H : f_X11_tellValues p1 p2 h = some q) : CE G (d + 0) yX11_tellValues miX11_tellValues [.ref 32, .ref p1, .int p2] h (none) (q) := by
  unfold f_X11_tellValues at H
  refine ce_of rfl (by decide) (fun q => by first | rfl | cases q) (Nat.le_of_ble_eq_true rfl) rfl ?_
  refine g_aload_n dX11_tellValues_0 rfl rfl ?_
  refine e_getR (hY.t 0 rfl) flX11_73_12 dX11_tellValues_1 rfl (hY.r 11 rfl) ?_
  refine e_iconst (v := (0 : Int32)) dX11_tellValues_4 (by decide) ?_
  refine e_iload_n dX11_tellValues_5 rfl ?_
  refine e_iast (hY.t 18 rfl) (ixb_y (hY.n 18 rfl) (by decide)) dX11_tellValues_6 ?_
  refine g_aload_n dX11_tellValues_7 rfl rfl ?_
  refine e_getR ((hY.sI).t 0 rfl) flX11_73_12 dX11_tellValues_8 rfl ((hY.sI).r 11 rfl) ?_
  refine e_iconst (v := (1 : Int32)) dX11_tellValues_11 (by decide) ?_
  refine g_aload_n dX11_tellValues_12 rfl rfl ?_
  replace H := og H; obtain ⟨g1, H⟩ := H
  refine gmX11_151_isSt g1 dX11_tellValues_13 ?_
  refine e_iast ((hY.sI).t 18 rfl) (ixb_y ((hY.sI).n 18 rfl) (by decide)) dX11_tellValues_16 ?_
  refine g_aload_n dX11_tellValues_17 rfl rfl ?_
  refine e_getR (((hY.sI).sI).t 0 rfl) flX11_73_12 dX11_tellValues_18 rfl (((hY.sI).sI).r 11 rfl) ?_
  refine e_iconst (v := (2 : Int32)) dX11_tellValues_21 (by decide) ?_
  refine g_aload_n dX11_tellValues_22 rfl rfl ?_
  refine gmX11_154_isSt (kIb g1) dX11_tellValues_23 ?_
  refine e_iast (((hY.sI).sI).t 18 rfl) (ixb_y (((hY.sI).sI).n 18 rfl) (by decide)) dX11_tellValues_26 ?_
  replace H := obh H; obtain ⟨h2, e3, H⟩ := H
  refine e_hq e3 ?_
  have hY4 := kY e3 (((hY.sI).sI).sI)
  have f5 := kB e3 (kIb (kIb g1))
  refine g_aload_n dX11_tellValues_27 rfl rfl ?_
  refine e_getR (hY4.t 0 rfl) flX11_73_12 dX11_tellValues_28 rfl (hY4.r 11 rfl) ?_
  refine e_iconst (v := (3 : Int32)) dX11_tellValues_31 (by decide) ?_
  refine g_aload_n dX11_tellValues_32 rfl rfl ?_
  refine gmX11_157_isSt f5 dX11_tellValues_33 ?_
  refine e_iast (hY4.t 18 rfl) (ixb_y (hY4.n 18 rfl) (by decide)) dX11_tellValues_36 ?_
  obtain rfl := Option.some.inj H
  exact z_vret rfl dX11_tellValues_37 rfl rfl
-- X11_ruleSays
def f_X11_ruleSays (p1 : Int32) (p2 : Int32) (p3 : Int32) (h : HS) : Option (Int32 × HS) := (if hT h 35 = 1 then (Option.bind (f_Jx4a65c_size_8abf5 35 h) (fun q1 => (Option.bind (f_X11_isIn (hI h 32 3) (0 : Int32) (q1 - (1 : Int32))) (fun q4 => (if q4 = true then (Option.bind (f_Jx4a65c_get_915e3 35 (hI (sI (sI h 50 (4 : Int32).toNatClampNeg p2) 50 (5 : Int32).toNatClampNeg p3) 32 3) (sI (sI h 50 (4 : Int32).toNatClampNeg p2) 50 (5 : Int32).toNatClampNeg p3)) (fun q7 => (om q7 none (fun b10 => (if hT (sI (sI h 50 (4 : Int32).toNatClampNeg p2) 50 (5 : Int32).toNatClampNeg p3) b10 = 11 then (Option.bind (f_X9_comesTo b10 p1 50 (sI (sI h 50 (4 : Int32).toNatClampNeg p2) 50 (5 : Int32).toNatClampNeg p3)) (fun q12 => (some (q12.1, q12.2)))) else none))))) else (some ((0 : Int32), h))))))) else none)
set_option maxHeartbeats 4000000 in
set_option maxRecDepth 20000 in
theorem p_X11_ruleSays {p1 : Int32} {p2 : Int32} {p3 : Int32} {h : HS} {q : (Int32 × HS)} (H : f_X11_ruleSays p1 p2 p3 h = some q) : Pr h q.2 := by
  unfold f_X11_ruleSays at H
  replace H := og H; obtain ⟨g3, H⟩ := H
  replace H := ob H; obtain ⟨q1, c2, H⟩ := H
  replace H := ob H; obtain ⟨q4, c5, H⟩ := H
  replace H := oi H; obtain ⟨c6, H⟩ | ⟨c6, H⟩ := H
  · replace H := ob H; obtain ⟨q7, c8, H⟩ := H
    replace H := oom H; obtain ⟨e9, H⟩ | ⟨b10, e9, H⟩ := H
    · exact nz H
    · replace H := og H; obtain ⟨g11, H⟩ := H
      replace H := ob H; obtain ⟨q12, c13, H⟩ := H
      have e14 := p_X9_comesTo c13
      obtain rfl := Option.some.inj H
      exact (((Pr.rf.sI).sI).tr e14)
  · obtain rfl := Option.some.inj H
    exact Pr.rf
set_option maxHeartbeats 4000000 in
set_option maxRecDepth 20000 in
theorem t_X11_ruleSays {G : GE} (d : Nat) {p1 : Int32} {p2 : Int32} {p3 : Int32} {h : HS} {q : (Int32 × HS)} (hY : LY TX h) (H : f_X11_ruleSays p1 p2 p3 h = some q) : CE G (d + 3) yX11_ruleSays miX11_ruleSays [.ref 32, .int p1, .int p2, .int p3] h (some (.int q.1)) (q.2) := by
  unfold f_X11_ruleSays at H
  refine ce_of rfl (by decide) (fun q => by first | rfl | cases q) (Nat.le_of_ble_eq_true rfl) rfl ?_
  refine g_aload_n dX11_ruleSays_0 rfl rfl ?_
  refine e_getI (hY.t 0 rfl) flX11_22_12 dX11_ruleSays_1 rfl ?_
  refine e_iconst (v := (0 : Int32)) dX11_ruleSays_4 (by decide) ?_
  refine g_aload_n dX11_ruleSays_5 rfl rfl ?_
  refine e_getR (hY.t 0 rfl) flX11_19_12 dX11_ruleSays_6 rfl (hY.r 2 rfl) ?_
  replace H := og H; obtain ⟨g3, H⟩ := H
  replace H := ob H; obtain ⟨q1, c2, H⟩ := H
  refine v1 (hY.t 3 rfl) (by decide) rfl rfl lmX11_114 liJx4a65c_size_8abf5 lvJx4a65c_Jx4a65c_size_8abf5 msJx4a65c_size_8abf5 dX11_ruleSays_9 (t_Jx4a65c_size_8abf5 (d + 2) c2) rfl (Nat.le_of_ble_eq_true rfl) (Nat.le_refl _) ?_
  refine e_iconst (v := (1 : Int32)) dX11_ruleSays_12 (by decide) ?_
  refine e_isub dX11_ruleSays_13 ?_
  replace H := ob H; obtain ⟨q4, c5, H⟩ := H
  refine s1 lmX11_106 lsX11_isIn msX11_isIn dX11_ruleSays_14 (t_X11_isIn (d + 2) c5) rfl (Nat.le_of_ble_eq_true rfl) (Nat.le_refl _) ?_
  refine e_ifB_ne (tgt := 22) dX11_ruleSays_17 (by decide) (fun c6 => ?_) (fun c6 => ?_)
  · replace H := ot c6 H
    refine g_aload_n dX11_ruleSays_22 rfl rfl ?_
    refine e_getR (hY.t 0 rfl) flX11_73_12 dX11_ruleSays_23 rfl (hY.r 11 rfl) ?_
    refine e_iconst (v := (4 : Int32)) dX11_ruleSays_26 (by decide) ?_
    refine e_iload_n dX11_ruleSays_27 rfl ?_
    refine e_iast (hY.t 18 rfl) (ixb_y (hY.n 18 rfl) (by decide)) dX11_ruleSays_28 ?_
    refine g_aload_n dX11_ruleSays_29 rfl rfl ?_
    refine e_getR ((hY.sI).t 0 rfl) flX11_73_12 dX11_ruleSays_30 rfl ((hY.sI).r 11 rfl) ?_
    refine e_iconst (v := (5 : Int32)) dX11_ruleSays_33 (by decide) ?_
    refine e_iload_n dX11_ruleSays_34 rfl ?_
    refine e_iast ((hY.sI).t 18 rfl) (ixb_y ((hY.sI).n 18 rfl) (by decide)) dX11_ruleSays_35 ?_
    refine g_aload_n dX11_ruleSays_36 rfl rfl ?_
    refine e_getR (((hY.sI).sI).t 0 rfl) flX11_19_12 dX11_ruleSays_37 rfl (((hY.sI).sI).r 2 rfl) ?_
    refine g_aload_n dX11_ruleSays_40 rfl rfl ?_
    refine e_getI (((hY.sI).sI).t 0 rfl) flX11_22_12 dX11_ruleSays_41 rfl ?_
    replace H := ob H; obtain ⟨q7, c8, H⟩ := H
    replace H := oom H; obtain ⟨e9, H⟩ | ⟨b10, e9, H⟩ := H
    · refine v1 (((hY.sI).sI).t 3 rfl) (by decide) rfl rfl lmX11_276 liJx4a65c_get_915e3 lvJx4a65c_Jx4a65c_get_915e3 msJx4a65c_get_915e3 dX11_ruleSays_44 (ceN e9 (t_Jx4a65c_get_915e3 (d + 0) c8)) rfl (Nat.le_of_ble_eq_true rfl) (Nat.le_refl _) ?_
      exact nz H
    · refine v1 (((hY.sI).sI).t 3 rfl) (by decide) rfl rfl lmX11_276 liJx4a65c_get_915e3 lvJx4a65c_Jx4a65c_get_915e3 msJx4a65c_get_915e3 dX11_ruleSays_44 (ceS e9 (t_Jx4a65c_get_915e3 (d + 0) c8)) rfl (Nat.le_of_ble_eq_true rfl) (Nat.le_refl _) ?_
      replace H := og H; obtain ⟨g11, H⟩ := H
      refine e_castS (ci := 10) g11 (by decide) rfl lcX11_71 dX11_ruleSays_47 ?_
      refine e_iload_n dX11_ruleSays_50 rfl ?_
      refine g_aload_n dX11_ruleSays_51 rfl rfl ?_
      refine e_getR (((hY.sI).sI).t 0 rfl) flX11_73_12 dX11_ruleSays_52 rfl (((hY.sI).sI).r 11 rfl) ?_
      replace H := ob H; obtain ⟨q12, c13, H⟩ := H
      refine v1 g11 (by decide) rfl rfl lmX11_337 liX9_comesTo lvX9_X9_comesTo msX9_comesTo dX11_ruleSays_55 (t_X9_comesTo (d + 0) c13) rfl (Nat.le_of_ble_eq_true rfl) (Nat.le_refl _) ?_
      have e14 := p_X9_comesTo c13
      have hY15 := ((hY.sI).sI).pr okX e14
      have f16 := e14.k (kI (kI g3)) (by decide)
      have f17 := e14.k g11 (by decide)
      obtain rfl := Option.some.inj H
      exact z_iret rfl rfl dX11_ruleSays_58 rfl rfl
  · replace H := of_ (nb c6) H
    refine e_iconst (v := (0 : Int32)) dX11_ruleSays_20 (by decide) ?_
    obtain rfl := Option.some.inj H
    exact z_iret rfl rfl dX11_ruleSays_21 rfl rfl
-- X11_lookHours
def f_X11_lookHours (p1 : Nat) (h : HS) : Option (Int32 × HS) := (Option.bind (f_X11_tellValues p1 (0 : Int32) h) (fun q1 => (Option.bind (f_X11_ruleSays (2 : Int32) (0 : Int32) (0 : Int32) q1) (fun q5 => (some ((if (1 : Int32) < (if q5.1 < (99 : Int32) then q5.1 else (99 : Int32)) then (if q5.1 < (99 : Int32) then q5.1 else (99 : Int32)) else (1 : Int32)), q5.2))))))
set_option maxHeartbeats 4000000 in
set_option maxRecDepth 20000 in
theorem p_X11_lookHours {p1 : Nat} {h : HS} {q : (Int32 × HS)} (H : f_X11_lookHours p1 h = some q) : Pr h q.2 := by
  unfold f_X11_lookHours at H
  replace H := ob H; obtain ⟨q1, c2, H⟩ := H
  have e3 := p_X11_tellValues c2
  replace H := ob H; obtain ⟨q5, c6, H⟩ := H
  have e7 := p_X11_ruleSays c6
  obtain rfl := Option.some.inj H
  exact (e3.tr e7)
set_option maxHeartbeats 4000000 in
set_option maxRecDepth 20000 in
theorem t_X11_lookHours {G : GE} (d : Nat) {p1 : Nat} {h : HS} {q : (Int32 × HS)} (hY : LY TX h) (H : f_X11_lookHours p1 h = some q) : CE G (d + 4) yX11_lookHours miX11_lookHours [.ref 32, .ref p1] h (some (.int q.1)) (q.2) := by
  unfold f_X11_lookHours at H
  refine ce_of rfl (by decide) (fun q => by first | rfl | cases q) (Nat.le_of_ble_eq_true rfl) rfl ?_
  refine g_aload_n dX11_lookHours_0 rfl rfl ?_
  refine g_aload_n dX11_lookHours_1 rfl rfl ?_
  refine e_iconst (v := (0 : Int32)) dX11_lookHours_2 (by decide) ?_
  replace H := ob H; obtain ⟨q1, c2, H⟩ := H
  refine v0 (hY.t 0 rfl) (by decide) rfl rfl lmX11_296 liX11_tellValues lvX11_X11_tellValues msX11_tellValues dX11_lookHours_3 (t_X11_tellValues (d + 3) hY c2) rfl (Nat.le_of_ble_eq_true rfl) (Nat.le_refl _) ?_
  have e3 := p_X11_tellValues c2
  have hY4 := hY.pr okX e3
  refine e_iconst (v := (1 : Int32)) dX11_lookHours_6 (by decide) ?_
  refine e_bipush (v := (99 : Int32)) dX11_lookHours_7 (by decide) ?_
  refine g_aload_n dX11_lookHours_9 rfl rfl ?_
  refine e_iconst (v := (2 : Int32)) dX11_lookHours_10 (by decide) ?_
  refine e_iconst (v := (0 : Int32)) dX11_lookHours_11 (by decide) ?_
  refine e_iconst (v := (0 : Int32)) dX11_lookHours_12 (by decide) ?_
  replace H := ob H; obtain ⟨q5, c6, H⟩ := H
  refine v1 (hY4.t 0 rfl) (by decide) rfl rfl lmX11_299 liX11_ruleSays lvX11_X11_ruleSays msX11_ruleSays dX11_lookHours_13 (t_X11_ruleSays (d + 0) hY4 c6) rfl (Nat.le_of_ble_eq_true rfl) (Nat.le_refl _) ?_
  have e7 := p_X11_ruleSays c6
  have hY8 := hY4.pr okX e7
  refine e_mmin lmX11_341 lsJ9_min_7cf53 msJ9_min_7cf53.2.1 (Nat.le_of_ble_eq_true rfl) (by omega) dX11_lookHours_16 ?_
  refine e_mmax lmX11_346 lsJ9_max_7cf53 msJ9_max_7cf53.2.1 (Nat.le_of_ble_eq_true rfl) (by omega) dX11_lookHours_19 ?_
  obtain rfl := Option.some.inj H
  exact z_iret rfl rfl dX11_lookHours_22 rfl rfl
-- vd_gaffsX11
def f_V_gaffs (p0 : Nat) (h : HS) : Option Int32 := if hT h p0 = 10 then f_X8_gaffs p0 else if hT h p0 = 6 then f_X4_gaffs p0 else if hT h p0 = 12 then f_X10_gaffs p0 else if hT h p0 = 9 then f_X7_gaffs p0 h else if hT h p0 = 2 then f_X0_gaffs p0 else if hT h p0 = 3 then f_X1_gaffs p0 h else none
theorem vrgaffs_X11 {G : GE} {D : Nat} {M : ByteArray × Nat × Option FieldType × Bool} {pc : Nat} {ls st : List Value} {r : Option Value} {h' : HS} {p0 : Nat}  {h : HS} {q : Int32} (c : f_V_gaffs p0  h = some q) (d : Nat) (hd : decode M.1 pc = .ok (.invokevirtual 163, 3)) (hw : wS st ≤ 8) (hdd : d + 1 + 1 ≤ D) (kk : En G D (RX11, M) (pc + 3) ls (.int q :: st) h r h') : En G D (RX11, M) pc ls (.ref p0 :: st) h r h' := by
  unfold f_V_gaffs at c
  replace c := oi c; obtain ⟨g, c⟩ | ⟨-, c⟩ := c
  · exact v1 g (by decide) rfl rfl lmX11_163 liX8_gaffs lvX8_X8_gaffs msX8_gaffs hd (t_X8_gaffs (d + 1) c) rfl hw (by omega) kk
  replace c := oi c; obtain ⟨g, c⟩ | ⟨-, c⟩ := c
  · exact e_callU (owner := RX8) g (by decide) rfl lmX11_163 lqX8_gaffs liX8_gaffs lvX4_X4_gaffs_o liX4_gaffs msX8_gaffs.2.1 ⟨by decide, by decide, by show _ = some (0 : Nat); decide⟩ msX4_gaffs hd hw (by omega) rfl (t_X4_gaffs (d + 1) c) kk
  replace c := oi c; obtain ⟨g, c⟩ | ⟨-, c⟩ := c
  · exact e_callU (owner := RX8) g (by decide) rfl lmX11_163 lqX8_gaffs liX8_gaffs lvX10_X10_gaffs_o liX10_gaffs msX8_gaffs.2.1 ⟨by decide, by decide, by show _ = some (0 : Nat); decide⟩ msX10_gaffs hd hw (by omega) rfl (t_X10_gaffs (d + 1) c) kk
  replace c := oi c; obtain ⟨g, c⟩ | ⟨-, c⟩ := c
  · exact e_callU (owner := RX8) g (by decide) rfl lmX11_163 lqX8_gaffs liX8_gaffs lvX7_X7_gaffs_o liX7_gaffs msX8_gaffs.2.1 ⟨by decide, by decide, by show _ = some (0 : Nat); decide⟩ msX7_gaffs hd hw (by omega) rfl (t_X7_gaffs (d + 0) c) kk
  replace c := oi c; obtain ⟨g, c⟩ | ⟨-, c⟩ := c
  · exact e_callU (owner := RX8) g (by decide) rfl lmX11_163 lqX8_gaffs liX8_gaffs lvX0_X0_gaffs_o liX0_gaffs msX8_gaffs.2.1 ⟨by decide, by decide, by show _ = some (0 : Nat); decide⟩ msX0_gaffs hd hw (by omega) rfl (t_X0_gaffs (d + 1) c) kk
  replace c := oi c; obtain ⟨g, c⟩ | ⟨-, c⟩ := c
  · exact e_callU (owner := RX8) g (by decide) rfl lmX11_163 lqX8_gaffs liX8_gaffs lvX1_X1_gaffs_o liX1_gaffs msX8_gaffs.2.1 ⟨by decide, by decide, by show _ = some (0 : Nat); decide⟩ msX1_gaffs hd hw (by omega) rfl (t_X1_gaffs (d + 0) c) kk
  exact nz c
-- X11_told
def f_X11_told (p1 : Int32) (p2 : Int32) (h : HS) : Option (Int32 × HS) := (Option.bind (f_X11_stallAt p1 h) (fun q1 => (om q1 (some ((-5 : Int32), h)) (fun b4 => (if p2 = (0 : Int32) then (if isSt (hT h b4) = true then (some ((hI h b4 0), h)) else none) else (if p2 = (1 : Int32) then (if isSt (hT h b4) = true then (some ((((100 : Int32) * (hI h b4 1)) + (hI h b4 2)), h)) else none) else (if p2 = (2 : Int32) then (if isSt (hT h b4) = true then (some ((hI h b4 3), h)) else none) else (if p2 = (3 : Int32) then (if isSt (hT h b4) = true then (some ((hI h b4 4), h)) else none) else (if p2 = (4 : Int32) then (if isSt (hT h b4) = true then (some ((hI h b4 5), h)) else none) else (if p2 = (5 : Int32) then (if isSt (hT h b4) = true then (some ((hI h b4 6), h)) else none) else (if p2 = (6 : Int32) then (if isSt (hT h b4) = true then (some ((hI h b4 7), h)) else none) else (if p2 = (7 : Int32) then (Option.bind (f_V_gaffs b4 h) (fun q20 => (some (q20, h)))) else (if p2 = (8 : Int32) then (Option.bind (f_X11_lookHours b4 h) (fun q16 => (some (q16.1, q16.2)))) else (some ((-5 : Int32), h)))))))))))))))
set_option maxHeartbeats 4000000 in
set_option maxRecDepth 20000 in
theorem p_X11_told {p1 : Int32} {p2 : Int32} {h : HS} {q : (Int32 × HS)} (H : f_X11_told p1 p2 h = some q) : Pr h q.2 := by
  unfold f_X11_told at H
  replace H := ob H; obtain ⟨q1, c2, H⟩ := H
  replace H := oom H; obtain ⟨e3, H⟩ | ⟨b4, e3, H⟩ := H
  · obtain rfl := Option.some.inj H
    exact Pr.rf
  · replace H := oi H; obtain ⟨k7, H⟩ | ⟨k7, H⟩ := H
    · replace H := og H; obtain ⟨g28, H⟩ := H
      obtain rfl := Option.some.inj H
      exact Pr.rf
    · replace H := oi H; obtain ⟨k8, H⟩ | ⟨k8, H⟩ := H
      · replace H := og H; obtain ⟨g27, H⟩ := H
        obtain rfl := Option.some.inj H
        exact Pr.rf
      · replace H := oi H; obtain ⟨k9, H⟩ | ⟨k9, H⟩ := H
        · replace H := og H; obtain ⟨g26, H⟩ := H
          obtain rfl := Option.some.inj H
          exact Pr.rf
        · replace H := oi H; obtain ⟨k10, H⟩ | ⟨k10, H⟩ := H
          · replace H := og H; obtain ⟨g25, H⟩ := H
            obtain rfl := Option.some.inj H
            exact Pr.rf
          · replace H := oi H; obtain ⟨k11, H⟩ | ⟨k11, H⟩ := H
            · replace H := og H; obtain ⟨g24, H⟩ := H
              obtain rfl := Option.some.inj H
              exact Pr.rf
            · replace H := oi H; obtain ⟨k12, H⟩ | ⟨k12, H⟩ := H
              · replace H := og H; obtain ⟨g23, H⟩ := H
                obtain rfl := Option.some.inj H
                exact Pr.rf
              · replace H := oi H; obtain ⟨k13, H⟩ | ⟨k13, H⟩ := H
                · replace H := og H; obtain ⟨g22, H⟩ := H
                  obtain rfl := Option.some.inj H
                  exact Pr.rf
                · replace H := oi H; obtain ⟨k14, H⟩ | ⟨k14, H⟩ := H
                  · replace H := ob H; obtain ⟨q20, c21, H⟩ := H
                    obtain rfl := Option.some.inj H
                    exact Pr.rf
                  · replace H := oi H; obtain ⟨k15, H⟩ | ⟨k15, H⟩ := H
                    · replace H := ob H; obtain ⟨q16, c17, H⟩ := H
                      have e18 := p_X11_lookHours c17
                      obtain rfl := Option.some.inj H
                      exact e18
                    · obtain rfl := Option.some.inj H
                      exact Pr.rf
set_option maxHeartbeats 4000000 in
set_option maxRecDepth 20000 in
theorem t_X11_told {G : GE} (d : Nat) {p1 : Int32} {p2 : Int32} {h : HS} {q : (Int32 × HS)} (hY : LY TX h) (H : f_X11_told p1 p2 h = some q) : CE G (d + 5) yX11_told miX11_told [.ref 32, .int p1, .int p2] h (some (.int q.1)) (q.2) := by
  unfold f_X11_told at H
  refine ce_of rfl (by decide) (fun q => by first | rfl | cases q) (Nat.le_of_ble_eq_true rfl) rfl ?_
  refine g_aload_n dX11_told_0 rfl rfl ?_
  refine e_iload_n dX11_told_1 rfl ?_
  replace H := ob H; obtain ⟨q1, c2, H⟩ := H
  replace H := oom H; obtain ⟨e3, H⟩ | ⟨b4, e3, H⟩ := H
  · refine v1 (hY.t 0 rfl) (by decide) rfl rfl lmX11_122 liX11_stallAt lvX11_X11_stallAt msX11_stallAt dX11_told_2 (ceN e3 (t_X11_stallAt (d + 1) hY c2)) rfl (Nat.le_of_ble_eq_true rfl) (Nat.le_refl _) ?_
    refine g_astore_n dX11_told_5 (Nat.le_of_ble_eq_true rfl) rfl rfl rfl ?_
    refine g_aload_n dX11_told_6 rfl rfl ?_
    refine e_ifnonnullN dX11_told_7 ?_
    refine e_bipush (v := (-5 : Int32)) dX11_told_10 (by decide) ?_
    obtain rfl := Option.some.inj H
    exact z_iret rfl rfl dX11_told_12 rfl rfl
  · refine v1 (hY.t 0 rfl) (by decide) rfl rfl lmX11_122 liX11_stallAt lvX11_X11_stallAt msX11_stallAt dX11_told_2 (ceS e3 (t_X11_stallAt (d + 1) hY c2)) rfl (Nat.le_of_ble_eq_true rfl) (Nat.le_refl _) ?_
    refine g_astore_n dX11_told_5 (Nat.le_of_ble_eq_true rfl) rfl rfl rfl ?_
    refine g_aload_n dX11_told_6 rfl rfl ?_
    refine e_ifnonnull (tgt := 13) dX11_told_7 (by decide) ?_
    refine e_iload_n dX11_told_13 rfl ?_
    by_cases k7 : p2 = (0 : Int32)
    · replace H := ot k7 H
      refine e_tableIn (off := 50) (tgt := 64) dX11_told_14 (by rw [k7]; decide) (by rw [k7]; decide) (by rw [k7]; rfl) (by decide) ?_
      refine g_aload_n dX11_told_64 rfl rfl ?_
      replace H := og H; obtain ⟨g28, H⟩ := H
      refine gmX11_140_isSt g28 dX11_told_65 ?_
      obtain rfl := Option.some.inj H
      exact z_iret rfl rfl dX11_told_68 rfl rfl
    · replace H := of_ k7 H
      by_cases k8 : p2 = (1 : Int32)
      · replace H := ot k8 H
        refine e_tableIn (off := 55) (tgt := 69) dX11_told_14 (by rw [k8]; decide) (by rw [k8]; decide) (by rw [k8]; rfl) (by decide) ?_
        refine e_bipush (v := (100 : Int32)) dX11_told_69 (by decide) ?_
        refine g_aload_n dX11_told_71 rfl rfl ?_
        replace H := og H; obtain ⟨g27, H⟩ := H
        refine gmX11_143_isSt g27 dX11_told_72 ?_
        refine e_imul dX11_told_75 ?_
        refine g_aload_n dX11_told_76 rfl rfl ?_
        refine gmX11_146_isSt g27 dX11_told_77 ?_
        refine e_iadd dX11_told_80 ?_
        obtain rfl := Option.some.inj H
        exact z_iret rfl rfl dX11_told_81 rfl rfl
      · replace H := of_ k8 H
        by_cases k9 : p2 = (2 : Int32)
        · replace H := ot k9 H
          refine e_tableIn (off := 68) (tgt := 82) dX11_told_14 (by rw [k9]; decide) (by rw [k9]; decide) (by rw [k9]; rfl) (by decide) ?_
          refine g_aload_n dX11_told_82 rfl rfl ?_
          replace H := og H; obtain ⟨g26, H⟩ := H
          refine gmX11_149_isSt g26 dX11_told_83 ?_
          obtain rfl := Option.some.inj H
          exact z_iret rfl rfl dX11_told_86 rfl rfl
        · replace H := of_ k9 H
          by_cases k10 : p2 = (3 : Int32)
          · replace H := ot k10 H
            refine e_tableIn (off := 73) (tgt := 87) dX11_told_14 (by rw [k10]; decide) (by rw [k10]; decide) (by rw [k10]; rfl) (by decide) ?_
            refine g_aload_n dX11_told_87 rfl rfl ?_
            replace H := og H; obtain ⟨g25, H⟩ := H
            refine gmX11_151_isSt g25 dX11_told_88 ?_
            obtain rfl := Option.some.inj H
            exact z_iret rfl rfl dX11_told_91 rfl rfl
          · replace H := of_ k10 H
            by_cases k11 : p2 = (4 : Int32)
            · replace H := ot k11 H
              refine e_tableIn (off := 78) (tgt := 92) dX11_told_14 (by rw [k11]; decide) (by rw [k11]; decide) (by rw [k11]; rfl) (by decide) ?_
              refine g_aload_n dX11_told_92 rfl rfl ?_
              replace H := og H; obtain ⟨g24, H⟩ := H
              refine gmX11_154_isSt g24 dX11_told_93 ?_
              obtain rfl := Option.some.inj H
              exact z_iret rfl rfl dX11_told_96 rfl rfl
            · replace H := of_ k11 H
              by_cases k12 : p2 = (5 : Int32)
              · replace H := ot k12 H
                refine e_tableIn (off := 83) (tgt := 97) dX11_told_14 (by rw [k12]; decide) (by rw [k12]; decide) (by rw [k12]; rfl) (by decide) ?_
                refine g_aload_n dX11_told_97 rfl rfl ?_
                replace H := og H; obtain ⟨g23, H⟩ := H
                refine gmX11_157_isSt g23 dX11_told_98 ?_
                obtain rfl := Option.some.inj H
                exact z_iret rfl rfl dX11_told_101 rfl rfl
              · replace H := of_ k12 H
                by_cases k13 : p2 = (6 : Int32)
                · replace H := ot k13 H
                  refine e_tableIn (off := 88) (tgt := 102) dX11_told_14 (by rw [k13]; decide) (by rw [k13]; decide) (by rw [k13]; rfl) (by decide) ?_
                  refine g_aload_n dX11_told_102 rfl rfl ?_
                  replace H := og H; obtain ⟨g22, H⟩ := H
                  refine gmX11_160_isSt g22 dX11_told_103 ?_
                  obtain rfl := Option.some.inj H
                  exact z_iret rfl rfl dX11_told_106 rfl rfl
                · replace H := of_ k13 H
                  by_cases k14 : p2 = (7 : Int32)
                  · replace H := ot k14 H
                    refine e_tableIn (off := 93) (tgt := 107) dX11_told_14 (by rw [k14]; decide) (by rw [k14]; decide) (by rw [k14]; rfl) (by decide) ?_
                    refine g_aload_n dX11_told_107 rfl rfl ?_
                    replace H := ob H; obtain ⟨q20, c21, H⟩ := H
                    refine vrgaffs_X11 c21 (d + 3) dX11_told_108 (Nat.le_of_ble_eq_true rfl) (Nat.le_refl _) ?_
                    obtain rfl := Option.some.inj H
                    exact z_iret rfl rfl dX11_told_111 rfl rfl
                  · replace H := of_ k14 H
                    by_cases k15 : p2 = (8 : Int32)
                    · replace H := ot k15 H
                      refine e_tableIn (off := 98) (tgt := 112) dX11_told_14 (by rw [k15]; decide) (by rw [k15]; decide) (by rw [k15]; rfl) (by decide) ?_
                      refine g_aload_n dX11_told_112 rfl rfl ?_
                      refine g_aload_n dX11_told_113 rfl rfl ?_
                      replace H := ob H; obtain ⟨q16, c17, H⟩ := H
                      refine v1 (hY.t 0 rfl) (by decide) rfl rfl lmX11_166 liX11_lookHours lvX11_X11_lookHours msX11_lookHours dX11_told_114 (t_X11_lookHours (d + 0) hY c17) rfl (Nat.le_of_ble_eq_true rfl) (Nat.le_refl _) ?_
                      have e18 := p_X11_lookHours c17
                      have hY19 := hY.pr okX e18
                      obtain rfl := Option.some.inj H
                      exact z_iret rfl rfl dX11_told_117 rfl rfl
                    · replace H := of_ k15 H
                      refine e_tableOut (tgt := 118) dX11_told_14 (by have q0 : p2.toInt ≠ 0 := i32_ne k7; have q1 : p2.toInt ≠ 1 := i32_ne k8; have q2 : p2.toInt ≠ 2 := i32_ne k9; have q3 : p2.toInt ≠ 3 := i32_ne k10; have q4 : p2.toInt ≠ 4 := i32_ne k11; have q5 : p2.toInt ≠ 5 := i32_ne k12; have q6 : p2.toInt ≠ 6 := i32_ne k13; have q7 : p2.toInt ≠ 7 := i32_ne k14; have q8 : p2.toInt ≠ 8 := i32_ne k15; omega) (by decide) ?_
                      refine e_bipush (v := (-5 : Int32)) dX11_told_118 (by decide) ?_
                      obtain rfl := Option.some.inj H
                      exact z_iret rfl rfl dX11_told_120 rfl rfl
-- X11_asBit
def f_X11_asBit (p0 : Bool) : Option Int32 := (if p0 = true then (some (1 : Int32)) else (some (0 : Int32)))
set_option maxHeartbeats 4000000 in
set_option maxRecDepth 20000 in
theorem t_X11_asBit {G : GE} (d : Nat) {p0 : Bool} {h : HS} {q : Int32} (H : f_X11_asBit p0 = some q) : CE G (d + 0) yX11_asBit miX11_asBit [.int (b2i p0)] h (some (.int q)) (h) := by
  unfold f_X11_asBit at H
  refine ce_of rfl (by decide) (fun q => by first | rfl | cases q) (Nat.le_of_ble_eq_true rfl) rfl ?_
  refine e_iload_n dX11_asBit_0 rfl ?_
  refine e_ifB_eq (tgt := 8) dX11_asBit_1 (by decide) (fun c1 => ?_) (fun c1 => ?_)
  · replace H := of_ (nb c1) H
    refine e_iconst (v := (0 : Int32)) dX11_asBit_8 (by decide) ?_
    obtain rfl := Option.some.inj H
    exact z_iret rfl rfl dX11_asBit_9 rfl rfl
  · replace H := ot c1 H
    refine e_iconst (v := (1 : Int32)) dX11_asBit_4 (by decide) ?_
    refine e_goto (tgt := 9) dX11_asBit_5 (by decide) ?_
    obtain rfl := Option.some.inj H
    exact z_iret rfl rfl dX11_asBit_9 rfl rfl
-- vd_paysX11
theorem vrpays_X11 {G : GE} {D : Nat} {M : ByteArray × Nat × Option FieldType × Bool} {pc : Nat} {ls st : List Value} {r : Option Value} {h' : HS} {p0 : Nat} {p1 : Int32} {p2 : Int32} {p3 : Int32} {h : HS} {q : Bool} (c : f_V_pays p0 p1 p2 p3 h = some q) (d : Nat) (hd : decode M.1 pc = .ok (.invokevirtual 170, 3)) (hw : wS st ≤ 8) (hdd : d + 3 + 1 ≤ D) (kk : En G D (RX11, M) (pc + 3) ls (.int (b2i q) :: st) h r h') : En G D (RX11, M) pc ls (.int p3 :: .int p2 :: .int p1 :: .ref p0 :: st) h r h' := by
  unfold f_V_pays at c
  replace c := oi c; obtain ⟨g, c⟩ | ⟨-, c⟩ := c
  · exact v1 g (by decide) rfl rfl lmX11_170 liX8_pays lvX8_X8_pays msX8_pays hd (t_X8_pays (d + 2) c) rfl hw (by omega) kk
  replace c := oi c; obtain ⟨g, c⟩ | ⟨-, c⟩ := c
  · exact e_callU (owner := RX8) g (by decide) rfl lmX11_170 lqX8_pays liX8_pays lvX4_X4_pays_o liX4_pays msX8_pays.2.1 ⟨by decide, by decide, by show _ = some (3 : Nat); decide⟩ msX4_pays hd hw (by omega) rfl (t_X4_pays (d + 2) c) kk
  replace c := oi c; obtain ⟨g, c⟩ | ⟨-, c⟩ := c
  · exact e_callU (owner := RX8) g (by decide) rfl lmX11_170 lqX8_pays liX8_pays lvX10_X10_pays_o liX10_pays msX8_pays.2.1 ⟨by decide, by decide, by show _ = some (3 : Nat); decide⟩ msX10_pays hd hw (by omega) rfl (t_X10_pays (d + 1) c) kk
  replace c := oi c; obtain ⟨g, c⟩ | ⟨-, c⟩ := c
  · exact e_callU (owner := RX8) g (by decide) rfl lmX11_170 lqX8_pays liX8_pays lvX7_X7_pays_o liX7_pays msX8_pays.2.1 ⟨by decide, by decide, by show _ = some (3 : Nat); decide⟩ msX7_pays hd hw (by omega) rfl (t_X7_pays (d + 0) c) kk
  replace c := oi c; obtain ⟨g, c⟩ | ⟨-, c⟩ := c
  · exact e_callU (owner := RX8) g (by decide) rfl lmX11_170 lqX8_pays liX8_pays lvX0_X0_pays_o liX0_pays msX8_pays.2.1 ⟨by decide, by decide, by show _ = some (3 : Nat); decide⟩ msX0_pays hd hw (by omega) rfl (t_X0_pays (d + 1) c) kk
  replace c := oi c; obtain ⟨g, c⟩ | ⟨-, c⟩ := c
  · exact e_callU (owner := RX8) g (by decide) rfl lmX11_170 lqX8_pays liX8_pays lvX1_X1_pays_o liX1_pays msX8_pays.2.1 ⟨by decide, by decide, by show _ = some (3 : Nat); decide⟩ msX1_pays hd hw (by omega) rfl (t_X1_pays (d + 1) c) kk
  exact nz c
-- X11_wins
def f_X11_wins (p1 : Int32) (p2 : Int32) (p3 : Int32) (h : HS) : Option Int32 := (Option.bind (f_X11_stallAt p1 h) (fun q1 => (om q1 (some (-2 : Int32)) (fun b4 => (Option.bind (f_X11_isIn p2 (-40 : Int32) (40 : Int32)) (fun q7 => (if q7 = true then (Option.bind (f_X11_isIn p3 (-40 : Int32) (40 : Int32)) (fun q10 => (if q10 = true then (if isSt (hT h b4) = true then (Option.bind (f_V_pays b4 p2 p3 (hI h b4 7) h) (fun q14 => (Option.bind (f_X11_asBit q14) (fun q16 => (some q16))))) else none) else (some (-2 : Int32))))) else (some (-2 : Int32)))))))))
set_option maxHeartbeats 4000000 in
set_option maxRecDepth 20000 in
theorem t_X11_wins {G : GE} (d : Nat) {p1 : Int32} {p2 : Int32} {p3 : Int32} {h : HS} {q : Int32} (hY : LY TX h) (H : f_X11_wins p1 p2 p3 h = some q) : CE G (d + 4) yX11_wins miX11_wins [.ref 32, .int p1, .int p2, .int p3] h (some (.int q)) (h) := by
  unfold f_X11_wins at H
  refine ce_of rfl (by decide) (fun q => by first | rfl | cases q) (Nat.le_of_ble_eq_true rfl) rfl ?_
  refine g_aload_n dX11_wins_0 rfl rfl ?_
  refine e_iload_n dX11_wins_1 rfl ?_
  replace H := ob H; obtain ⟨q1, c2, H⟩ := H
  replace H := oom H; obtain ⟨e3, H⟩ | ⟨b4, e3, H⟩ := H
  · refine v1 (hY.t 0 rfl) (by decide) rfl rfl lmX11_122 liX11_stallAt lvX11_X11_stallAt msX11_stallAt dX11_wins_2 (ceN e3 (t_X11_stallAt (d + 0) hY c2)) rfl (Nat.le_of_ble_eq_true rfl) (Nat.le_refl _) ?_
    refine g_astore dX11_wins_5 (Nat.le_of_ble_eq_true rfl) rfl rfl rfl ?_
    refine g_aload dX11_wins_7 rfl rfl ?_
    refine e_ifnullN (tgt := 34) dX11_wins_9 (by decide) ?_
    refine e_bipush (v := (-2 : Int32)) dX11_wins_34 (by decide) ?_
    obtain rfl := Option.some.inj H
    exact z_iret rfl rfl dX11_wins_36 rfl rfl
  · refine v1 (hY.t 0 rfl) (by decide) rfl rfl lmX11_122 liX11_stallAt lvX11_X11_stallAt msX11_stallAt dX11_wins_2 (ceS e3 (t_X11_stallAt (d + 0) hY c2)) rfl (Nat.le_of_ble_eq_true rfl) (Nat.le_refl _) ?_
    refine g_astore dX11_wins_5 (Nat.le_of_ble_eq_true rfl) rfl rfl rfl ?_
    refine g_aload dX11_wins_7 rfl rfl ?_
    refine e_ifnull dX11_wins_9 ?_
    refine e_iload_n dX11_wins_12 rfl ?_
    refine e_bipush (v := (-40 : Int32)) dX11_wins_13 (by decide) ?_
    refine e_bipush (v := (40 : Int32)) dX11_wins_15 (by decide) ?_
    replace H := ob H; obtain ⟨q7, c8, H⟩ := H
    refine s1 lmX11_106 lsX11_isIn msX11_isIn dX11_wins_17 (t_X11_isIn (d + 3) c8) rfl (Nat.le_of_ble_eq_true rfl) (Nat.le_refl _) ?_
    refine e_ifB_eq (tgt := 34) dX11_wins_20 (by decide) (fun c9 => ?_) (fun c9 => ?_)
    · replace H := of_ (nb c9) H
      refine e_bipush (v := (-2 : Int32)) dX11_wins_34 (by decide) ?_
      obtain rfl := Option.some.inj H
      exact z_iret rfl rfl dX11_wins_36 rfl rfl
    · replace H := ot c9 H
      refine e_iload_n dX11_wins_23 rfl ?_
      refine e_bipush (v := (-40 : Int32)) dX11_wins_24 (by decide) ?_
      refine e_bipush (v := (40 : Int32)) dX11_wins_26 (by decide) ?_
      replace H := ob H; obtain ⟨q10, c11, H⟩ := H
      refine s1 lmX11_106 lsX11_isIn msX11_isIn dX11_wins_28 (t_X11_isIn (d + 3) c11) rfl (Nat.le_of_ble_eq_true rfl) (Nat.le_refl _) ?_
      refine e_ifB_ne (tgt := 37) dX11_wins_31 (by decide) (fun c12 => ?_) (fun c12 => ?_)
      · replace H := ot c12 H
        refine g_aload dX11_wins_37 rfl rfl ?_
        refine e_iload_n dX11_wins_39 rfl ?_
        refine e_iload_n dX11_wins_40 rfl ?_
        refine g_aload dX11_wins_41 rfl rfl ?_
        replace H := og H; obtain ⟨g13, H⟩ := H
        refine gmX11_160_isSt g13 dX11_wins_43 ?_
        replace H := ob H; obtain ⟨q14, c15, H⟩ := H
        refine vrpays_X11 c15 (d + 0) dX11_wins_46 (Nat.le_of_ble_eq_true rfl) (Nat.le_refl _) ?_
        replace H := ob H; obtain ⟨q16, c17, H⟩ := H
        refine s1 lmX11_173 lsX11_asBit msX11_asBit dX11_wins_49 (t_X11_asBit (d + 3) c17) rfl (Nat.le_of_ble_eq_true rfl) (Nat.le_refl _) ?_
        obtain rfl := Option.some.inj H
        exact z_iret rfl rfl dX11_wins_52 rfl rfl
      · replace H := of_ (nb c12) H
        refine e_bipush (v := (-2 : Int32)) dX11_wins_34 (by decide) ?_
        obtain rfl := Option.some.inj H
        exact z_iret rfl rfl dX11_wins_36 rfl rfl
-- X11_hand
def f_X11_hand (p1 : Int32) (p2 : Int32) (p3 : Int32) (h : HS) : Option (Int32 × HS) := (Option.bind (f_X11_isIn p1 (-5 : Int32) (5 : Int32)) (fun q1 => (if q1 = true then (Option.bind (f_X11_isIn p2 (-5 : Int32) (5 : Int32)) (fun q4 => (if q4 = true then (Option.bind (f_X11_isIn p3 (0 : Int32) (5 : Int32)) (fun q7 => (if q7 = true then (if hT h 34 = 1 then (Option.bind (f_Jx4a65c_size_8abf5 34 h) (fun q10 => (if q10 < (6 : Int32) then (if hT h (hN h) = 0 then (bh (hNew h 5 0 5) (fun h18 => (Option.bind (f_X3_init (hN h) p1 p2 p3 h18) (fun q23 => (Option.bind (f_Jx4a65c_add_9ea2d 34 (hN h) q23) (fun q29 => (Option.bind (f_Jx4a65c_size_8abf5 34 q29.2) (fun q35 => (some ((q35 - (1 : Int32)), q29.2)))))))))) else none) else (some ((-4 : Int32), h))))) else none) else (some ((-2 : Int32), h))))) else (some ((-2 : Int32), h))))) else (some ((-2 : Int32), h)))))
set_option maxHeartbeats 4000000 in
set_option maxRecDepth 20000 in
theorem p_X11_hand {p1 : Int32} {p2 : Int32} {p3 : Int32} {h : HS} {q : (Int32 × HS)} (H : f_X11_hand p1 p2 p3 h = some q) : Pr h q.2 := by
  unfold f_X11_hand at H
  replace H := ob H; obtain ⟨q1, c2, H⟩ := H
  replace H := oi H; obtain ⟨c3, H⟩ | ⟨c3, H⟩ := H
  · replace H := ob H; obtain ⟨q4, c5, H⟩ := H
    replace H := oi H; obtain ⟨c6, H⟩ | ⟨c6, H⟩ := H
    · replace H := ob H; obtain ⟨q7, c8, H⟩ := H
      replace H := oi H; obtain ⟨c9, H⟩ | ⟨c9, H⟩ := H
      · replace H := og H; obtain ⟨g12, H⟩ := H
        replace H := ob H; obtain ⟨q10, c11, H⟩ := H
        replace H := oi H; obtain ⟨c13, H⟩ | ⟨c13, H⟩ := H
        · replace H := og H; obtain ⟨g14, H⟩ := H
          have e15 := Pr.nw (h := h) (kd := 5) (ln := 0) (ns := 5) Pr.rf g14
          replace H := obh H; obtain ⟨h18, e19, H⟩ := H
          replace H := ob H; obtain ⟨q23, c24, H⟩ := H
          have e25 := p_X3_init c24
          replace H := ob H; obtain ⟨q29, c30, H⟩ := H
          have e31 := p_Jx4a65c_add_9ea2d c30
          replace H := ob H; obtain ⟨q35, c36, H⟩ := H
          obtain rfl := Option.some.inj H
          exact (((kP e19 e15).tr e25).tr e31)
        · obtain rfl := Option.some.inj H
          exact Pr.rf
      · obtain rfl := Option.some.inj H
        exact Pr.rf
    · obtain rfl := Option.some.inj H
      exact Pr.rf
  · obtain rfl := Option.some.inj H
    exact Pr.rf
set_option maxHeartbeats 4000000 in
set_option maxRecDepth 20000 in
theorem t_X11_hand {G : GE} (d : Nat) {p1 : Int32} {p2 : Int32} {p3 : Int32} {h : HS} {q : (Int32 × HS)} (hY : LY TX h) (H : f_X11_hand p1 p2 p3 h = some q) : CE G (d + 5) yX11_hand miX11_hand [.ref 32, .int p1, .int p2, .int p3] h (some (.int q.1)) (q.2) := by
  unfold f_X11_hand at H
  refine ce_of rfl (by decide) (fun q => by first | rfl | cases q) (Nat.le_of_ble_eq_true rfl) rfl ?_
  refine e_iload_n dX11_hand_0 rfl ?_
  refine e_bipush (v := (-5 : Int32)) dX11_hand_1 (by decide) ?_
  refine e_iconst (v := (5 : Int32)) dX11_hand_3 (by decide) ?_
  replace H := ob H; obtain ⟨q1, c2, H⟩ := H
  refine s1 lmX11_106 lsX11_isIn msX11_isIn dX11_hand_4 (t_X11_isIn (d + 4) c2) rfl (Nat.le_of_ble_eq_true rfl) (Nat.le_refl _) ?_
  refine e_ifB_eq (tgt := 29) dX11_hand_7 (by decide) (fun c3 => ?_) (fun c3 => ?_)
  · replace H := of_ (nb c3) H
    refine e_bipush (v := (-2 : Int32)) dX11_hand_29 (by decide) ?_
    obtain rfl := Option.some.inj H
    exact z_iret rfl rfl dX11_hand_31 rfl rfl
  · replace H := ot c3 H
    refine e_iload_n dX11_hand_10 rfl ?_
    refine e_bipush (v := (-5 : Int32)) dX11_hand_11 (by decide) ?_
    refine e_iconst (v := (5 : Int32)) dX11_hand_13 (by decide) ?_
    replace H := ob H; obtain ⟨q4, c5, H⟩ := H
    refine s1 lmX11_106 lsX11_isIn msX11_isIn dX11_hand_14 (t_X11_isIn (d + 4) c5) rfl (Nat.le_of_ble_eq_true rfl) (Nat.le_refl _) ?_
    refine e_ifB_eq (tgt := 29) dX11_hand_17 (by decide) (fun c6 => ?_) (fun c6 => ?_)
    · replace H := of_ (nb c6) H
      refine e_bipush (v := (-2 : Int32)) dX11_hand_29 (by decide) ?_
      obtain rfl := Option.some.inj H
      exact z_iret rfl rfl dX11_hand_31 rfl rfl
    · replace H := ot c6 H
      refine e_iload_n dX11_hand_20 rfl ?_
      refine e_iconst (v := (0 : Int32)) dX11_hand_21 (by decide) ?_
      refine e_iconst (v := (5 : Int32)) dX11_hand_22 (by decide) ?_
      replace H := ob H; obtain ⟨q7, c8, H⟩ := H
      refine s1 lmX11_106 lsX11_isIn msX11_isIn dX11_hand_23 (t_X11_isIn (d + 4) c8) rfl (Nat.le_of_ble_eq_true rfl) (Nat.le_refl _) ?_
      refine e_ifB_ne (tgt := 32) dX11_hand_26 (by decide) (fun c9 => ?_) (fun c9 => ?_)
      · replace H := ot c9 H
        refine g_aload_n dX11_hand_32 rfl rfl ?_
        refine e_getR (hY.t 0 rfl) flX11_16_12 dX11_hand_33 rfl (hY.r 1 rfl) ?_
        replace H := og H; obtain ⟨g12, H⟩ := H
        replace H := ob H; obtain ⟨q10, c11, H⟩ := H
        refine v1 (hY.t 2 rfl) (by decide) rfl rfl lmX11_114 liJx4a65c_size_8abf5 lvJx4a65c_Jx4a65c_size_8abf5 msJx4a65c_size_8abf5 dX11_hand_36 (t_Jx4a65c_size_8abf5 (d + 4) c11) rfl (Nat.le_of_ble_eq_true rfl) (Nat.le_refl _) ?_
        refine e_bipush (v := (6 : Int32)) dX11_hand_39 (by decide) ?_
        refine e_icmp_lt (tgt := 47) dX11_hand_41 (by decide) (fun c13 => ?_) (fun c13 => ?_)
        · replace H := ot c13 H
          refine g_aload_n dX11_hand_47 rfl rfl ?_
          refine e_getR (hY.t 0 rfl) flX11_16_12 dX11_hand_48 rfl (hY.r 1 rfl) ?_
          replace H := og H; obtain ⟨g14, H⟩ := H
          refine e_new (ci := 4) rfl (by decide) lcX11_177 lxX3 lnX3 dX11_hand_51 ?_
          have e15 := Pr.nw (h := h) (kd := 5) (ln := 0) (ns := 5) Pr.rf g14
          have hY16 := hY.pr okX e15
          have f17 := e15.k g12 (by decide)
          replace H := obh H; obtain ⟨h18, e19, H⟩ := H
          refine e_hq e19 ?_
          have hY20 := kY e19 hY16
          have f21 := kT e19 f17
          have f22 := kT e19 hT_new
          refine e_dup dX11_hand_54 rfl ?_
          refine e_iload_n dX11_hand_55 rfl ?_
          refine e_iload_n dX11_hand_56 rfl ?_
          refine e_iload_n dX11_hand_57 rfl ?_
          replace H := ob H; obtain ⟨q23, c24, H⟩ := H
          refine i0 rfl lmX11_179 liX3_init msX3_init rfl dX11_hand_58 (t_X3_init (d + 3) c24) rfl (Nat.le_of_ble_eq_true rfl) (Nat.le_refl _) ?_
          have e25 := p_X3_init c24
          have hY26 := hY20.pr okX e25
          have f27 := e25.k f21 (by decide)
          have f28 := e25.k f22 (by decide)
          replace H := ob H; obtain ⟨q29, c30, H⟩ := H
          refine v1 (hY26.t 2 rfl) (by decide) rfl rfl lmX11_102 liJx4a65c_add_9ea2d lvJx4a65c_Jx4a65c_add_9ea2d msJx4a65c_add_9ea2d dX11_hand_61 (t_Jx4a65c_add_9ea2d (d + 0) c30) rfl (Nat.le_of_ble_eq_true rfl) (Nat.le_refl _) ?_
          have e31 := p_Jx4a65c_add_9ea2d c30
          have hY32 := hY26.pr okX e31
          have f33 := e31.k f27 (by decide)
          have f34 := e31.k f28 (by decide)
          refine e_pop dX11_hand_64 rfl ?_
          refine g_aload_n dX11_hand_65 rfl rfl ?_
          refine e_getR (hY32.t 0 rfl) flX11_16_12 dX11_hand_66 rfl (hY32.r 1 rfl) ?_
          replace H := ob H; obtain ⟨q35, c36, H⟩ := H
          refine v1 (hY32.t 2 rfl) (by decide) rfl rfl lmX11_114 liJx4a65c_size_8abf5 lvJx4a65c_Jx4a65c_size_8abf5 msJx4a65c_size_8abf5 dX11_hand_69 (t_Jx4a65c_size_8abf5 (d + 4) c36) rfl (Nat.le_of_ble_eq_true rfl) (Nat.le_refl _) ?_
          refine e_iconst (v := (1 : Int32)) dX11_hand_72 (by decide) ?_
          refine e_isub dX11_hand_73 ?_
          obtain rfl := Option.some.inj H
          exact z_iret rfl rfl dX11_hand_74 rfl rfl
        · replace H := of_ c13 H
          refine e_bipush (v := (-4 : Int32)) dX11_hand_44 (by decide) ?_
          obtain rfl := Option.some.inj H
          exact z_iret rfl rfl dX11_hand_46 rfl rfl
      · replace H := of_ (nb c9) H
        refine e_bipush (v := (-2 : Int32)) dX11_hand_29 (by decide) ?_
        obtain rfl := Option.some.inj H
        exact z_iret rfl rfl dX11_hand_31 rfl rfl
-- X11_handAt
def f_X11_handAt (p1 : Int32) (h : HS) : Option (Option Nat) := (if hT h 34 = 1 then (Option.bind (f_Jx4a65c_size_8abf5 34 h) (fun q1 => (Option.bind (f_X11_isIn p1 (0 : Int32) (q1 - (1 : Int32))) (fun q4 => (if q4 = true then (Option.bind (f_Jx4a65c_get_915e3 34 p1 h) (fun q7 => (om q7 none (fun b10 => (if hT h b10 = 5 then (some (some b10)) else none))))) else (some none)))))) else none)
set_option maxHeartbeats 4000000 in
set_option maxRecDepth 20000 in
theorem t_X11_handAt {G : GE} (d : Nat) {p1 : Int32} {h : HS} {q : (Option Nat)} (hY : LY TX h) (H : f_X11_handAt p1 h = some q) : CE G (d + 3) yX11_handAt miX11_handAt [.ref 32, .int p1] h (some (va_rf q)) (h) := by
  unfold f_X11_handAt at H
  refine ce_of rfl (by decide) (fun q => by first | rfl | cases q) (Nat.le_of_ble_eq_true rfl) rfl ?_
  refine e_iload_n dX11_handAt_0 rfl ?_
  refine e_iconst (v := (0 : Int32)) dX11_handAt_1 (by decide) ?_
  refine g_aload_n dX11_handAt_2 rfl rfl ?_
  refine e_getR (hY.t 0 rfl) flX11_16_12 dX11_handAt_3 rfl (hY.r 1 rfl) ?_
  replace H := og H; obtain ⟨g3, H⟩ := H
  replace H := ob H; obtain ⟨q1, c2, H⟩ := H
  refine v1 (hY.t 2 rfl) (by decide) rfl rfl lmX11_114 liJx4a65c_size_8abf5 lvJx4a65c_Jx4a65c_size_8abf5 msJx4a65c_size_8abf5 dX11_handAt_6 (t_Jx4a65c_size_8abf5 (d + 2) c2) rfl (Nat.le_of_ble_eq_true rfl) (Nat.le_refl _) ?_
  refine e_iconst (v := (1 : Int32)) dX11_handAt_9 (by decide) ?_
  refine e_isub dX11_handAt_10 ?_
  replace H := ob H; obtain ⟨q4, c5, H⟩ := H
  refine s1 lmX11_106 lsX11_isIn msX11_isIn dX11_handAt_11 (t_X11_isIn (d + 2) c5) rfl (Nat.le_of_ble_eq_true rfl) (Nat.le_refl _) ?_
  refine e_ifB_eq (tgt := 31) dX11_handAt_14 (by decide) (fun c6 => ?_) (fun c6 => ?_)
  · replace H := of_ (nb c6) H
    refine e_null dX11_handAt_31 ?_
    obtain rfl := Option.some.inj H
    exact z_aret rfl (by first | exact Or.inl ⟨_, rfl⟩ | exact Or.inr ⟨_, rfl⟩) (by first | exact Or.inl rfl | exact Or.inr ⟨_, rfl⟩) dX11_handAt_32 rfl rfl
  · replace H := ot c6 H
    refine g_aload_n dX11_handAt_17 rfl rfl ?_
    refine e_getR (hY.t 0 rfl) flX11_16_12 dX11_handAt_18 rfl (hY.r 1 rfl) ?_
    refine e_iload_n dX11_handAt_21 rfl ?_
    replace H := ob H; obtain ⟨q7, c8, H⟩ := H
    replace H := oom H; obtain ⟨e9, H⟩ | ⟨b10, e9, H⟩ := H
    · refine v1 (hY.t 2 rfl) (by decide) rfl rfl lmX11_276 liJx4a65c_get_915e3 lvJx4a65c_Jx4a65c_get_915e3 msJx4a65c_get_915e3 dX11_handAt_22 (ceN e9 (t_Jx4a65c_get_915e3 (d + 0) c8)) rfl (Nat.le_of_ble_eq_true rfl) (Nat.le_refl _) ?_
      exact nz H
    · refine v1 (hY.t 2 rfl) (by decide) rfl rfl lmX11_276 liJx4a65c_get_915e3 lvJx4a65c_Jx4a65c_get_915e3 msJx4a65c_get_915e3 dX11_handAt_22 (ceS e9 (t_Jx4a65c_get_915e3 (d + 0) c8)) rfl (Nat.le_of_ble_eq_true rfl) (Nat.le_refl _) ?_
      replace H := og H; obtain ⟨g11, H⟩ := H
      refine e_castS (ci := 4) g11 (by decide) rfl lcX11_177 dX11_handAt_25 ?_
      refine e_goto (tgt := 32) dX11_handAt_28 (by decide) ?_
      obtain rfl := Option.some.inj H
      exact z_aret rfl (by first | exact Or.inl ⟨_, rfl⟩ | exact Or.inr ⟨_, rfl⟩) (by first | exact Or.inl rfl | exact Or.inr ⟨_, rfl⟩) dX11_handAt_32 rfl rfl
-- X11_commonDivisor
def l_X11_commonDivisor_9  : Nat → Int64 → Int64 → Int32 → Option Int64
  | 0, _, _, _ => none
  | n + 1, x4, x6, x8 => (if (100 : Int32) ≤ x8 then (some x4) else (if x6 = (0 : Int64) then (some x4) else (if ¬ x6 = 0 then (l_X11_commonDivisor_9  n x6 (x4 - x4 / x6 * x6) (x8 + (1 : Int32))) else none)))
set_option maxHeartbeats 4000000 in
set_option maxRecDepth 20000 in
theorem w_X11_commonDivisor_9 {G : GE} (d : Nat)  {h : HS} {r : Option Value} {h' : HS}  : ∀ (n : Nat) {x4 : Int64} {x6 : Int64} {x8 : Int32} {q : Int64}, l_X11_commonDivisor_9  n x4 x6 x8 = some q → En G (d + 0) miX11_commonDivisor 44 [dum, dum, dum, dum, .long q, dum, dum, dum, dum, dum, dum] [] h r h' → En G (d + 0) miX11_commonDivisor 9 [dum, dum, dum, dum, .long x4, dum, .long x6, dum, .int x8, dum, dum] [] h r h' := by
  intro n
  induction n with
  | zero => intro x4 x6 x8 q H kE; exact nz H
  | succ n ih =>
    intro x4 x6 x8 q H kE
    unfold l_X11_commonDivisor_9 at H
    refine e_iload dX11_commonDivisor_9 rfl ?_
    refine e_bipush (v := (100 : Int32)) dX11_commonDivisor_11 (by decide) ?_
    refine e_icmp_ge (tgt := 44) dX11_commonDivisor_13 (by decide) (fun c4 => ?_) (fun c4 => ?_)
    · replace H := ot c4 H
      obtain rfl := Option.some.inj H
      exact e_wk (lk1 (lk1 (lk1 (lk1 (lk1 (lk1 (lk0 (lk1 (lk0 (lk1 (lk1 lkn))))))))))) kE
    · replace H := of_ c4 H
      refine e_lload dX11_commonDivisor_16 rfl ?_
      refine e_lconst (v := (0 : Int64)) dX11_commonDivisor_18 (by decide) ?_
      refine e_lc_eq (tgt := 44) dX11_commonDivisor_19 dX11_commonDivisor_20 (by decide) (fun c5 => ?_) (fun c5 => ?_)
      · replace H := ot c5 H
        obtain rfl := Option.some.inj H
        exact e_wk (lk1 (lk1 (lk1 (lk1 (lk1 (lk1 (lk0 (lk1 (lk0 (lk1 (lk1 lkn))))))))))) kE
      · replace H := of_ c5 H
        refine e_lload dX11_commonDivisor_23 rfl ?_
        refine e_lload dX11_commonDivisor_25 rfl ?_
        replace H := og H; obtain ⟨g6, H⟩ := H
        refine e_lrem dX11_commonDivisor_27 g6 ?_
        refine e_lstore dX11_commonDivisor_28 (Nat.le_of_ble_eq_true rfl) rfl rfl ?_
        refine e_lload dX11_commonDivisor_30 rfl ?_
        refine e_lstore dX11_commonDivisor_32 (Nat.le_of_ble_eq_true rfl) rfl rfl ?_
        refine e_lload dX11_commonDivisor_34 rfl ?_
        refine e_lstore dX11_commonDivisor_36 (Nat.le_of_ble_eq_true rfl) rfl rfl ?_
        refine e_iinc dX11_commonDivisor_38 rfl (ii_ (by decide : Int32.ofInt (1) = (1 : Int32))) (Nat.le_of_ble_eq_true rfl) rfl rfl ?_
        refine e_goto (tgt := 9) dX11_commonDivisor_41 (by decide) ?_
        exact e_wk (lk1 (lk1 (lk1 (lk1 (lk1 (lk1 (lk1 (lk1 (lk1 (lk0 (lk1 lkn))))))))))) (ih H kE)
def f_X11_commonDivisor (p0 : Int64) (p1 : Int64) : Option Int64 := (Option.bind (l_X11_commonDivisor_9  1000 p0 p1 (0 : Int32)) (fun q7 => (some q7)))
set_option maxHeartbeats 4000000 in
set_option maxRecDepth 20000 in
theorem t_X11_commonDivisor {G : GE} (d : Nat) {p0 : Int64} {p1 : Int64} {h : HS} {q : Int64} (H : f_X11_commonDivisor p0 p1 = some q) : CE G (d + 0) yX11_commonDivisor miX11_commonDivisor [.long p0, .long p1] h (some (.long q)) (h) := by
  unfold f_X11_commonDivisor at H
  refine ce_of rfl (by decide) (fun q => by first | rfl | cases q) (Nat.le_of_ble_eq_true rfl) rfl ?_
  refine e_lload_n dX11_commonDivisor_0 rfl ?_
  refine e_lstore dX11_commonDivisor_1 (Nat.le_of_ble_eq_true rfl) rfl rfl ?_
  refine e_lload_n dX11_commonDivisor_3 rfl ?_
  refine e_lstore dX11_commonDivisor_4 (Nat.le_of_ble_eq_true rfl) rfl rfl ?_
  refine e_iconst (v := (0 : Int32)) dX11_commonDivisor_6 (by decide) ?_
  refine e_istore dX11_commonDivisor_7 (Nat.le_of_ble_eq_true rfl) rfl rfl ?_
  replace H := ob H; obtain ⟨q7, c8, H⟩ := H
  refine e_wk (lk0 (lk1 (lk0 (lk1 (lk1 (lk1 (lk1 (lk1 (lk1 (lk1 (lk1 lkn))))))))))) (w_X11_commonDivisor_9 d 1000 c8 ?_)
  refine e_lload dX11_commonDivisor_44 rfl ?_
  obtain rfl := Option.some.inj H
  exact z_lret rfl dX11_commonDivisor_46 rfl rfl
-- X11_quotient
def f_X11_quotient (p0 : Int64) (p1 : Int64) : Option Int64 := (if p1 = (0 : Int64) then (some (0 : Int64)) else (if ¬ p1 = 0 then (some (p0 / p1)) else none))
set_option maxHeartbeats 4000000 in
set_option maxRecDepth 20000 in
theorem t_X11_quotient {G : GE} (d : Nat) {p0 : Int64} {p1 : Int64} {h : HS} {q : Int64} (H : f_X11_quotient p0 p1 = some q) : CE G (d + 0) yX11_quotient miX11_quotient [.long p0, .long p1] h (some (.long q)) (h) := by
  unfold f_X11_quotient at H
  refine ce_of rfl (by decide) (fun q => by first | rfl | cases q) (Nat.le_of_ble_eq_true rfl) rfl ?_
  refine e_lload_n dX11_quotient_0 rfl ?_
  refine e_lconst (v := (0 : Int64)) dX11_quotient_1 (by decide) ?_
  refine e_lc_ne (tgt := 10) dX11_quotient_2 dX11_quotient_3 (by decide) (fun c1 => ?_) (fun c1 => ?_)
  · replace H := of_ c1 H
    refine e_lload_n dX11_quotient_10 rfl ?_
    refine e_lload_n dX11_quotient_11 rfl ?_
    replace H := og H; obtain ⟨g2, H⟩ := H
    refine e_ldiv dX11_quotient_12 g2 ?_
    obtain rfl := Option.some.inj H
    exact z_lret rfl dX11_quotient_13 rfl rfl
  · replace H := ot c1 H
    refine e_lconst (v := (0 : Int64)) dX11_quotient_6 (by decide) ?_
    refine e_goto (tgt := 13) dX11_quotient_7 (by decide) ?_
    obtain rfl := Option.some.inj H
    exact z_lret rfl dX11_quotient_13 rfl rfl
-- X11_lowest
def f_X11_lowest (p0 : Int64) (p1 : Int64) (p2 : Int32) : Option Int64 := (Option.bind (f_X11_commonDivisor (if 0 < p0 then p0 else -p0) p1) (fun q1 => (Option.bind (if p2 = 0 then (some p0) else (some p1)) (fun q4 => (Option.bind (f_X11_quotient q4 q1) (fun q7 => (some q7)))))))
set_option maxHeartbeats 4000000 in
set_option maxRecDepth 20000 in
theorem t_X11_lowest {G : GE} (d : Nat) {p0 : Int64} {p1 : Int64} {p2 : Int32} {h : HS} {q : Int64} (H : f_X11_lowest p0 p1 p2 = some q) : CE G (d + 1) yX11_lowest miX11_lowest [.long p0, .long p1, .int p2] h (some (.long q)) (h) := by
  unfold f_X11_lowest at H
  refine ce_of rfl (by decide) (fun q => by first | rfl | cases q) (Nat.le_of_ble_eq_true rfl) rfl ?_
  refine e_lload_n dX11_lowest_0 rfl ?_
  refine e_mabs lmX11_435 lsJ9_abs_067f4 msJ9_abs_067f4.2.1 (Nat.le_of_ble_eq_true rfl) (by omega) dX11_lowest_1 ?_
  refine e_lload_n dX11_lowest_4 rfl ?_
  replace H := ob H; obtain ⟨q1, c2, H⟩ := H
  refine s1 lmX11_438 lsX11_commonDivisor msX11_commonDivisor dX11_lowest_5 (t_X11_commonDivisor (d + 0) c2) rfl (Nat.le_of_ble_eq_true rfl) (Nat.le_refl _) ?_
  refine e_lstore dX11_lowest_8 (Nat.le_of_ble_eq_true rfl) rfl rfl ?_
  refine e_iload dX11_lowest_10 rfl ?_
  replace H := ob H; obtain ⟨q4, c6, H⟩ := H
  have k5 : En G (d + 1) miX11_lowest 20 [dum, dum, dum, dum, dum, .long q1, dum] [.long q4] h (some (.long q)) (h) := by
    refine e_lload dX11_lowest_20 rfl ?_
    replace H := ob H; obtain ⟨q7, c8, H⟩ := H
    refine s1 lmX11_267 lsX11_quotient msX11_quotient dX11_lowest_22 (t_X11_quotient (d + 0) c8) rfl (Nat.le_of_ble_eq_true rfl) (Nat.le_refl _) ?_
    obtain rfl := Option.some.inj H
    exact z_lret rfl dX11_lowest_25 rfl rfl
  replace H := c6
  refine e_if_ne (tgt := 19) dX11_lowest_12 (by decide) (fun c3 => ?_) (fun c3 => ?_)
  · replace H := of_ c3 H
    refine e_lload_n dX11_lowest_19 rfl ?_
    obtain rfl := Option.some.inj H
    exact e_wk (lk0 (lk1 (lk0 (lk1 (lk0 (lk1 (lk1 lkn))))))) k5
  · replace H := ot c3 H
    refine e_lload_n dX11_lowest_15 rfl ?_
    refine e_goto (tgt := 20) dX11_lowest_16 (by decide) ?_
    obtain rfl := Option.some.inj H
    exact e_wk (lk0 (lk1 (lk0 (lk1 (lk0 (lk1 (lk1 lkn))))))) k5
-- X11_odds
def f_X11_odds (p1 : Int32) (p2 : Int32) (p3 : Int32) (p4 : Int32) (h : HS) : Option (Int64 × HS) := (Option.bind (f_X11_stallAt p1 h) (fun q1 => (om q1 (Option.bind (f_X11_handAt p2 h) (fun q5 => (om q5 (some ((-4611686018427387904 : Int64), h)) (fun b8 => (some ((-4611686018427387904 : Int64), h)))))) (fun b4 => (Option.bind (f_X11_handAt p2 h) (fun q11 => (om q11 (some ((-4611686018427387904 : Int64), h)) (fun b14 => (Option.bind (f_X11_isPlace p3) (fun q19 => (if q19 = true then (Option.bind (f_X11_isBit p4) (fun q22 => (if q22 = true then (if isSt (hT h b4) = true then (Option.bind (f_X2_fill b4 (hI h b4 7) h) (fun q26 => (Option.bind (f_X2_winning b14 p3 q26) (fun q31 => (if hT q26 b14 = 5 then (Option.bind (f_X11_lowest q31.toInt64 (hI q26 b14 4).toInt64 p4) (fun q34 => (some (q34, q26)))) else none))))) else none) else (some ((-4611686018427387904 : Int64), h))))) else (some ((-4611686018427387904 : Int64), h)))))))))))))
set_option maxHeartbeats 4000000 in
set_option maxRecDepth 20000 in
theorem p_X11_odds {p1 : Int32} {p2 : Int32} {p3 : Int32} {p4 : Int32} {h : HS} {q : (Int64 × HS)} (H : f_X11_odds p1 p2 p3 p4 h = some q) : Pr h q.2 := by
  unfold f_X11_odds at H
  replace H := ob H; obtain ⟨q1, c2, H⟩ := H
  replace H := oom H; obtain ⟨e3, H⟩ | ⟨b4, e3, H⟩ := H
  · replace H := ob H; obtain ⟨q5, c6, H⟩ := H
    replace H := oom H; obtain ⟨e7, H⟩ | ⟨b8, e7, H⟩ := H
    · obtain rfl := Option.some.inj H
      exact Pr.rf
    · obtain rfl := Option.some.inj H
      exact Pr.rf
  · replace H := ob H; obtain ⟨q11, c12, H⟩ := H
    replace H := oom H; obtain ⟨e13, H⟩ | ⟨b14, e13, H⟩ := H
    · obtain rfl := Option.some.inj H
      exact Pr.rf
    · replace H := ob H; obtain ⟨q19, c20, H⟩ := H
      replace H := oi H; obtain ⟨c21, H⟩ | ⟨c21, H⟩ := H
      · replace H := ob H; obtain ⟨q22, c23, H⟩ := H
        replace H := oi H; obtain ⟨c24, H⟩ | ⟨c24, H⟩ := H
        · replace H := og H; obtain ⟨g25, H⟩ := H
          replace H := ob H; obtain ⟨q26, c27, H⟩ := H
          have e28 := p_X2_fill c27
          replace H := ob H; obtain ⟨q31, c32, H⟩ := H
          replace H := og H; obtain ⟨g33, H⟩ := H
          replace H := ob H; obtain ⟨q34, c35, H⟩ := H
          obtain rfl := Option.some.inj H
          exact e28
        · obtain rfl := Option.some.inj H
          exact Pr.rf
      · obtain rfl := Option.some.inj H
        exact Pr.rf
set_option maxHeartbeats 4000000 in
set_option maxRecDepth 20000 in
theorem t_X11_odds {G : GE} (d : Nat) {p1 : Int32} {p2 : Int32} {p3 : Int32} {p4 : Int32} {h : HS} {q : (Int64 × HS)} (hY : LY TX h) (H : f_X11_odds p1 p2 p3 p4 h = some q) : CE G (d + 5) yX11_odds miX11_odds [.ref 32, .int p1, .int p2, .int p3, .int p4] h (some (.long q.1)) (q.2) := by
  unfold f_X11_odds at H
  refine ce_of rfl (by decide) (fun q => by first | rfl | cases q) (Nat.le_of_ble_eq_true rfl) rfl ?_
  refine g_aload_n dX11_odds_0 rfl rfl ?_
  refine e_iload_n dX11_odds_1 rfl ?_
  replace H := ob H; obtain ⟨q1, c2, H⟩ := H
  replace H := oom H; obtain ⟨e3, H⟩ | ⟨b4, e3, H⟩ := H
  · refine v1 (hY.t 0 rfl) (by decide) rfl rfl lmX11_122 liX11_stallAt lvX11_X11_stallAt msX11_stallAt dX11_odds_2 (ceN e3 (t_X11_stallAt (d + 1) hY c2)) rfl (Nat.le_of_ble_eq_true rfl) (Nat.le_refl _) ?_
    refine g_astore dX11_odds_5 (Nat.le_of_ble_eq_true rfl) rfl rfl rfl ?_
    refine g_aload_n dX11_odds_7 rfl rfl ?_
    refine e_iload_n dX11_odds_8 rfl ?_
    replace H := ob H; obtain ⟨q5, c6, H⟩ := H
    replace H := oom H; obtain ⟨e7, H⟩ | ⟨b8, e7, H⟩ := H
    · refine v1 (hY.t 0 rfl) (by decide) rfl rfl lmX11_182 liX11_handAt lvX11_X11_handAt msX11_handAt dX11_odds_9 (ceN e7 (t_X11_handAt (d + 1) hY c6)) rfl (Nat.le_of_ble_eq_true rfl) (Nat.le_refl _) ?_
      refine g_astore dX11_odds_12 (Nat.le_of_ble_eq_true rfl) rfl rfl rfl ?_
      refine g_aload dX11_odds_14 rfl rfl ?_
      refine e_ifnullN (tgt := 39) dX11_odds_16 (by decide) ?_
      refine e_ldc2 (v := (-4611686018427387904 : Int64)) lkX11_189 dX11_odds_39 ?_
      obtain rfl := Option.some.inj H
      exact z_lret rfl dX11_odds_42 rfl rfl
    · refine v1 (hY.t 0 rfl) (by decide) rfl rfl lmX11_182 liX11_handAt lvX11_X11_handAt msX11_handAt dX11_odds_9 (ceS e7 (t_X11_handAt (d + 1) hY c6)) rfl (Nat.le_of_ble_eq_true rfl) (Nat.le_refl _) ?_
      refine g_astore dX11_odds_12 (Nat.le_of_ble_eq_true rfl) rfl rfl rfl ?_
      refine g_aload dX11_odds_14 rfl rfl ?_
      refine e_ifnullN (tgt := 39) dX11_odds_16 (by decide) ?_
      refine e_ldc2 (v := (-4611686018427387904 : Int64)) lkX11_189 dX11_odds_39 ?_
      obtain rfl := Option.some.inj H
      exact z_lret rfl dX11_odds_42 rfl rfl
  · refine v1 (hY.t 0 rfl) (by decide) rfl rfl lmX11_122 liX11_stallAt lvX11_X11_stallAt msX11_stallAt dX11_odds_2 (ceS e3 (t_X11_stallAt (d + 1) hY c2)) rfl (Nat.le_of_ble_eq_true rfl) (Nat.le_refl _) ?_
    refine g_astore dX11_odds_5 (Nat.le_of_ble_eq_true rfl) rfl rfl rfl ?_
    refine g_aload_n dX11_odds_7 rfl rfl ?_
    refine e_iload_n dX11_odds_8 rfl ?_
    replace H := ob H; obtain ⟨q11, c12, H⟩ := H
    replace H := oom H; obtain ⟨e13, H⟩ | ⟨b14, e13, H⟩ := H
    · refine v1 (hY.t 0 rfl) (by decide) rfl rfl lmX11_182 liX11_handAt lvX11_X11_handAt msX11_handAt dX11_odds_9 (ceN e13 (t_X11_handAt (d + 1) hY c12)) rfl (Nat.le_of_ble_eq_true rfl) (Nat.le_refl _) ?_
      refine g_astore dX11_odds_12 (Nat.le_of_ble_eq_true rfl) rfl rfl rfl ?_
      refine g_aload dX11_odds_14 rfl rfl ?_
      refine e_ifnull dX11_odds_16 ?_
      refine g_aload dX11_odds_19 rfl rfl ?_
      refine e_ifnullN (tgt := 39) dX11_odds_21 (by decide) ?_
      refine e_ldc2 (v := (-4611686018427387904 : Int64)) lkX11_189 dX11_odds_39 ?_
      obtain rfl := Option.some.inj H
      exact z_lret rfl dX11_odds_42 rfl rfl
    · refine v1 (hY.t 0 rfl) (by decide) rfl rfl lmX11_182 liX11_handAt lvX11_X11_handAt msX11_handAt dX11_odds_9 (ceS e13 (t_X11_handAt (d + 1) hY c12)) rfl (Nat.le_of_ble_eq_true rfl) (Nat.le_refl _) ?_
      refine g_astore dX11_odds_12 (Nat.le_of_ble_eq_true rfl) rfl rfl rfl ?_
      refine g_aload dX11_odds_14 rfl rfl ?_
      refine e_ifnull dX11_odds_16 ?_
      refine g_aload dX11_odds_19 rfl rfl ?_
      refine e_ifnull dX11_odds_21 ?_
      refine e_iload_n dX11_odds_24 rfl ?_
      replace H := ob H; obtain ⟨q19, c20, H⟩ := H
      refine s1 lmX11_110 lsX11_isPlace msX11_isPlace dX11_odds_25 (t_X11_isPlace (d + 4) c20) rfl (Nat.le_of_ble_eq_true rfl) (Nat.le_refl _) ?_
      refine e_ifB_eq (tgt := 39) dX11_odds_28 (by decide) (fun c21 => ?_) (fun c21 => ?_)
      · replace H := of_ (nb c21) H
        refine e_ldc2 (v := (-4611686018427387904 : Int64)) lkX11_189 dX11_odds_39 ?_
        obtain rfl := Option.some.inj H
        exact z_lret rfl dX11_odds_42 rfl rfl
      · replace H := ot c21 H
        refine e_iload dX11_odds_31 rfl ?_
        replace H := ob H; obtain ⟨q22, c23, H⟩ := H
        refine s1 lmX11_186 lsX11_isBit msX11_isBit dX11_odds_33 (t_X11_isBit (d + 4) c23) rfl (Nat.le_of_ble_eq_true rfl) (Nat.le_refl _) ?_
        refine e_ifB_ne (tgt := 43) dX11_odds_36 (by decide) (fun c24 => ?_) (fun c24 => ?_)
        · replace H := ot c24 H
          refine g_aload_n dX11_odds_43 rfl rfl ?_
          refine e_getR (hY.t 0 rfl) flX11_67_12 dX11_odds_44 rfl (hY.r 10 rfl) ?_
          refine g_aload dX11_odds_47 rfl rfl ?_
          refine g_aload dX11_odds_49 rfl rfl ?_
          replace H := og H; obtain ⟨g25, H⟩ := H
          refine gmX11_160_isSt g25 dX11_odds_51 ?_
          replace H := ob H; obtain ⟨q26, c27, H⟩ := H
          refine v0 (hY.t 16 rfl) (by decide) rfl rfl lmX11_191 liX2_fill lvX2_X2_fill msX2_fill dX11_odds_54 (t_X2_fill (d + 0) hY c27) rfl (Nat.le_of_ble_eq_true rfl) (Nat.le_refl _) ?_
          have e28 := p_X2_fill c27
          have hY29 := hY.pr okX e28
          have f30 := e28.b g25 rfl
          refine g_aload_n dX11_odds_57 rfl rfl ?_
          refine e_getR (hY29.t 0 rfl) flX11_67_12 dX11_odds_58 rfl (hY29.r 10 rfl) ?_
          refine g_aload dX11_odds_61 rfl rfl ?_
          refine e_iload_n dX11_odds_63 rfl ?_
          replace H := ob H; obtain ⟨q31, c32, H⟩ := H
          refine v1 (hY29.t 16 rfl) (by decide) rfl rfl lmX11_195 liX2_winning lvX2_X2_winning msX2_winning dX11_odds_64 (t_X2_winning (d + 2) hY29 c32) rfl (Nat.le_of_ble_eq_true rfl) (Nat.le_refl _) ?_
          refine e_i2l dX11_odds_67 ?_
          refine g_aload dX11_odds_68 rfl rfl ?_
          replace H := og H; obtain ⟨g33, H⟩ := H
          refine e_getI g33 flX11_199_4 dX11_odds_70 rfl ?_
          refine e_i2l dX11_odds_73 ?_
          refine e_iload dX11_odds_74 rfl ?_
          replace H := ob H; obtain ⟨q34, c35, H⟩ := H
          refine s1 lmX11_202 lsX11_lowest msX11_lowest dX11_odds_76 (t_X11_lowest (d + 3) c35) rfl (Nat.le_of_ble_eq_true rfl) (Nat.le_refl _) ?_
          obtain rfl := Option.some.inj H
          exact z_lret rfl dX11_odds_79 rfl rfl
        · replace H := of_ (nb c24) H
          refine e_ldc2 (v := (-4611686018427387904 : Int64)) lkX11_189 dX11_odds_39 ?_
          obtain rfl := Option.some.inj H
          exact z_lret rfl dX11_odds_42 rfl rfl
-- X11_best
def f_X11_best (p1 : Int32) (p2 : Int32) (p3 : Int32) (h : HS) : Option (Int64 × HS) := (Option.bind (f_X11_stallAt p1 h) (fun q1 => (om q1 (Option.bind (f_X11_handAt p2 h) (fun q5 => (om q5 (some ((-4611686018427387904 : Int64), h)) (fun b8 => (some ((-4611686018427387904 : Int64), h)))))) (fun b4 => (Option.bind (f_X11_handAt p2 h) (fun q11 => (om q11 (some ((-4611686018427387904 : Int64), h)) (fun b14 => (Option.bind (f_X11_isIn p3 (0 : Int32) (2 : Int32)) (fun q19 => (if q19 = true then (if isSt (hT h b4) = true then (Option.bind (f_X2_fill b4 (hI h b4 7) h) (fun q23 => (Option.bind (f_X2_bestAim b14 q23) (fun q28 => (if p3 = 0 then (some (q28.toInt64, q23)) else (Option.bind (f_X2_winning b14 q28 q23) (fun q31 => (if hT q23 b14 = 5 then (Option.bind (f_X11_lowest q31.toInt64 (hI q23 b14 4).toInt64 (p3 - (1 : Int32))) (fun q34 => (some (q34, q23)))) else none)))))))) else none) else (some ((-4611686018427387904 : Int64), h)))))))))))))
set_option maxHeartbeats 4000000 in
set_option maxRecDepth 20000 in
theorem p_X11_best {p1 : Int32} {p2 : Int32} {p3 : Int32} {h : HS} {q : (Int64 × HS)} (H : f_X11_best p1 p2 p3 h = some q) : Pr h q.2 := by
  unfold f_X11_best at H
  replace H := ob H; obtain ⟨q1, c2, H⟩ := H
  replace H := oom H; obtain ⟨e3, H⟩ | ⟨b4, e3, H⟩ := H
  · replace H := ob H; obtain ⟨q5, c6, H⟩ := H
    replace H := oom H; obtain ⟨e7, H⟩ | ⟨b8, e7, H⟩ := H
    · obtain rfl := Option.some.inj H
      exact Pr.rf
    · obtain rfl := Option.some.inj H
      exact Pr.rf
  · replace H := ob H; obtain ⟨q11, c12, H⟩ := H
    replace H := oom H; obtain ⟨e13, H⟩ | ⟨b14, e13, H⟩ := H
    · obtain rfl := Option.some.inj H
      exact Pr.rf
    · replace H := ob H; obtain ⟨q19, c20, H⟩ := H
      replace H := oi H; obtain ⟨c21, H⟩ | ⟨c21, H⟩ := H
      · replace H := og H; obtain ⟨g22, H⟩ := H
        replace H := ob H; obtain ⟨q23, c24, H⟩ := H
        have e25 := p_X2_fill c24
        replace H := ob H; obtain ⟨q28, c29, H⟩ := H
        replace H := oi H; obtain ⟨c30, H⟩ | ⟨c30, H⟩ := H
        · obtain rfl := Option.some.inj H
          exact e25
        · replace H := ob H; obtain ⟨q31, c32, H⟩ := H
          replace H := og H; obtain ⟨g33, H⟩ := H
          replace H := ob H; obtain ⟨q34, c35, H⟩ := H
          obtain rfl := Option.some.inj H
          exact e25
      · obtain rfl := Option.some.inj H
        exact Pr.rf
set_option maxHeartbeats 4000000 in
set_option maxRecDepth 20000 in
theorem t_X11_best {G : GE} (d : Nat) {p1 : Int32} {p2 : Int32} {p3 : Int32} {h : HS} {q : (Int64 × HS)} (hY : LY TX h) (H : f_X11_best p1 p2 p3 h = some q) : CE G (d + 5) yX11_best miX11_best [.ref 32, .int p1, .int p2, .int p3] h (some (.long q.1)) (q.2) := by
  unfold f_X11_best at H
  refine ce_of rfl (by decide) (fun q => by first | rfl | cases q) (Nat.le_of_ble_eq_true rfl) rfl ?_
  refine g_aload_n dX11_best_0 rfl rfl ?_
  refine e_iload_n dX11_best_1 rfl ?_
  replace H := ob H; obtain ⟨q1, c2, H⟩ := H
  replace H := oom H; obtain ⟨e3, H⟩ | ⟨b4, e3, H⟩ := H
  · refine v1 (hY.t 0 rfl) (by decide) rfl rfl lmX11_122 liX11_stallAt lvX11_X11_stallAt msX11_stallAt dX11_best_2 (ceN e3 (t_X11_stallAt (d + 1) hY c2)) rfl (Nat.le_of_ble_eq_true rfl) (Nat.le_refl _) ?_
    refine g_astore dX11_best_5 (Nat.le_of_ble_eq_true rfl) rfl rfl rfl ?_
    refine g_aload_n dX11_best_7 rfl rfl ?_
    refine e_iload_n dX11_best_8 rfl ?_
    replace H := ob H; obtain ⟨q5, c6, H⟩ := H
    replace H := oom H; obtain ⟨e7, H⟩ | ⟨b8, e7, H⟩ := H
    · refine v1 (hY.t 0 rfl) (by decide) rfl rfl lmX11_182 liX11_handAt lvX11_X11_handAt msX11_handAt dX11_best_9 (ceN e7 (t_X11_handAt (d + 1) hY c6)) rfl (Nat.le_of_ble_eq_true rfl) (Nat.le_refl _) ?_
      refine g_astore dX11_best_12 (Nat.le_of_ble_eq_true rfl) rfl rfl rfl ?_
      refine g_aload dX11_best_14 rfl rfl ?_
      refine e_ifnullN (tgt := 33) dX11_best_16 (by decide) ?_
      refine e_ldc2 (v := (-4611686018427387904 : Int64)) lkX11_189 dX11_best_33 ?_
      obtain rfl := Option.some.inj H
      exact z_lret rfl dX11_best_36 rfl rfl
    · refine v1 (hY.t 0 rfl) (by decide) rfl rfl lmX11_182 liX11_handAt lvX11_X11_handAt msX11_handAt dX11_best_9 (ceS e7 (t_X11_handAt (d + 1) hY c6)) rfl (Nat.le_of_ble_eq_true rfl) (Nat.le_refl _) ?_
      refine g_astore dX11_best_12 (Nat.le_of_ble_eq_true rfl) rfl rfl rfl ?_
      refine g_aload dX11_best_14 rfl rfl ?_
      refine e_ifnullN (tgt := 33) dX11_best_16 (by decide) ?_
      refine e_ldc2 (v := (-4611686018427387904 : Int64)) lkX11_189 dX11_best_33 ?_
      obtain rfl := Option.some.inj H
      exact z_lret rfl dX11_best_36 rfl rfl
  · refine v1 (hY.t 0 rfl) (by decide) rfl rfl lmX11_122 liX11_stallAt lvX11_X11_stallAt msX11_stallAt dX11_best_2 (ceS e3 (t_X11_stallAt (d + 1) hY c2)) rfl (Nat.le_of_ble_eq_true rfl) (Nat.le_refl _) ?_
    refine g_astore dX11_best_5 (Nat.le_of_ble_eq_true rfl) rfl rfl rfl ?_
    refine g_aload_n dX11_best_7 rfl rfl ?_
    refine e_iload_n dX11_best_8 rfl ?_
    replace H := ob H; obtain ⟨q11, c12, H⟩ := H
    replace H := oom H; obtain ⟨e13, H⟩ | ⟨b14, e13, H⟩ := H
    · refine v1 (hY.t 0 rfl) (by decide) rfl rfl lmX11_182 liX11_handAt lvX11_X11_handAt msX11_handAt dX11_best_9 (ceN e13 (t_X11_handAt (d + 1) hY c12)) rfl (Nat.le_of_ble_eq_true rfl) (Nat.le_refl _) ?_
      refine g_astore dX11_best_12 (Nat.le_of_ble_eq_true rfl) rfl rfl rfl ?_
      refine g_aload dX11_best_14 rfl rfl ?_
      refine e_ifnull dX11_best_16 ?_
      refine g_aload dX11_best_19 rfl rfl ?_
      refine e_ifnullN (tgt := 33) dX11_best_21 (by decide) ?_
      refine e_ldc2 (v := (-4611686018427387904 : Int64)) lkX11_189 dX11_best_33 ?_
      obtain rfl := Option.some.inj H
      exact z_lret rfl dX11_best_36 rfl rfl
    · refine v1 (hY.t 0 rfl) (by decide) rfl rfl lmX11_182 liX11_handAt lvX11_X11_handAt msX11_handAt dX11_best_9 (ceS e13 (t_X11_handAt (d + 1) hY c12)) rfl (Nat.le_of_ble_eq_true rfl) (Nat.le_refl _) ?_
      refine g_astore dX11_best_12 (Nat.le_of_ble_eq_true rfl) rfl rfl rfl ?_
      refine g_aload dX11_best_14 rfl rfl ?_
      refine e_ifnull dX11_best_16 ?_
      refine g_aload dX11_best_19 rfl rfl ?_
      refine e_ifnull dX11_best_21 ?_
      refine e_iload_n dX11_best_24 rfl ?_
      refine e_iconst (v := (0 : Int32)) dX11_best_25 (by decide) ?_
      refine e_iconst (v := (2 : Int32)) dX11_best_26 (by decide) ?_
      replace H := ob H; obtain ⟨q19, c20, H⟩ := H
      refine s1 lmX11_106 lsX11_isIn msX11_isIn dX11_best_27 (t_X11_isIn (d + 4) c20) rfl (Nat.le_of_ble_eq_true rfl) (Nat.le_refl _) ?_
      refine e_ifB_ne (tgt := 37) dX11_best_30 (by decide) (fun c21 => ?_) (fun c21 => ?_)
      · replace H := ot c21 H
        refine g_aload_n dX11_best_37 rfl rfl ?_
        refine e_getR (hY.t 0 rfl) flX11_67_12 dX11_best_38 rfl (hY.r 10 rfl) ?_
        refine g_aload dX11_best_41 rfl rfl ?_
        refine g_aload dX11_best_43 rfl rfl ?_
        replace H := og H; obtain ⟨g22, H⟩ := H
        refine gmX11_160_isSt g22 dX11_best_45 ?_
        replace H := ob H; obtain ⟨q23, c24, H⟩ := H
        refine v0 (hY.t 16 rfl) (by decide) rfl rfl lmX11_191 liX2_fill lvX2_X2_fill msX2_fill dX11_best_48 (t_X2_fill (d + 0) hY c24) rfl (Nat.le_of_ble_eq_true rfl) (Nat.le_refl _) ?_
        have e25 := p_X2_fill c24
        have hY26 := hY.pr okX e25
        have f27 := e25.b g22 rfl
        refine g_aload_n dX11_best_51 rfl rfl ?_
        refine e_getR (hY26.t 0 rfl) flX11_67_12 dX11_best_52 rfl (hY26.r 10 rfl) ?_
        refine g_aload dX11_best_55 rfl rfl ?_
        replace H := ob H; obtain ⟨q28, c29, H⟩ := H
        refine v1 (hY26.t 16 rfl) (by decide) rfl rfl lmX11_206 liX2_bestAim lvX2_X2_bestAim msX2_bestAim dX11_best_57 (t_X2_bestAim (d + 1) hY26 c29) rfl (Nat.le_of_ble_eq_true rfl) (Nat.le_refl _) ?_
        refine e_istore dX11_best_60 (Nat.le_of_ble_eq_true rfl) rfl rfl ?_
        refine e_iload_n dX11_best_62 rfl ?_
        refine e_if_ne (tgt := 70) dX11_best_63 (by decide) (fun c30 => ?_) (fun c30 => ?_)
        · replace H := of_ c30 H
          refine g_aload_n dX11_best_70 rfl rfl ?_
          refine e_getR (hY26.t 0 rfl) flX11_67_12 dX11_best_71 rfl (hY26.r 10 rfl) ?_
          refine g_aload dX11_best_74 rfl rfl ?_
          refine e_iload dX11_best_76 rfl ?_
          replace H := ob H; obtain ⟨q31, c32, H⟩ := H
          refine v1 (hY26.t 16 rfl) (by decide) rfl rfl lmX11_195 liX2_winning lvX2_X2_winning msX2_winning dX11_best_78 (t_X2_winning (d + 2) hY26 c32) rfl (Nat.le_of_ble_eq_true rfl) (Nat.le_refl _) ?_
          refine e_i2l dX11_best_81 ?_
          refine g_aload dX11_best_82 rfl rfl ?_
          replace H := og H; obtain ⟨g33, H⟩ := H
          refine e_getI g33 flX11_199_4 dX11_best_84 rfl ?_
          refine e_i2l dX11_best_87 ?_
          refine e_iload_n dX11_best_88 rfl ?_
          refine e_iconst (v := (1 : Int32)) dX11_best_89 (by decide) ?_
          refine e_isub dX11_best_90 ?_
          replace H := ob H; obtain ⟨q34, c35, H⟩ := H
          refine s1 lmX11_202 lsX11_lowest msX11_lowest dX11_best_91 (t_X11_lowest (d + 3) c35) rfl (Nat.le_of_ble_eq_true rfl) (Nat.le_refl _) ?_
          obtain rfl := Option.some.inj H
          exact z_lret rfl dX11_best_94 rfl rfl
        · replace H := ot c30 H
          refine e_iload dX11_best_66 rfl ?_
          refine e_i2l dX11_best_68 ?_
          obtain rfl := Option.some.inj H
          exact z_lret rfl dX11_best_69 rfl rfl
      · replace H := of_ (nb c21) H
        refine e_ldc2 (v := (-4611686018427387904 : Int64)) lkX11_189 dX11_best_33 ?_
        obtain rfl := Option.some.inj H
        exact z_lret rfl dX11_best_36 rfl rfl
-- X11_isSeed
def f_X11_isSeed (p0 : Int32) : Option Bool := (Option.bind (f_X11_isIn p0 (0 : Int32) ((99999 : Int32))) (fun q1 => (some q1)))
set_option maxHeartbeats 4000000 in
set_option maxRecDepth 20000 in
theorem t_X11_isSeed {G : GE} (d : Nat) {p0 : Int32} {h : HS} {q : Bool} (H : f_X11_isSeed p0 = some q) : CE G (d + 1) yX11_isSeed miX11_isSeed [.int p0] h (some (.int (b2i q))) (h) := by
  unfold f_X11_isSeed at H
  refine ce_of rfl (by decide) (fun q => by first | rfl | cases q) (Nat.le_of_ble_eq_true rfl) rfl ?_
  refine e_iload_n dX11_isSeed_0 rfl ?_
  refine e_iconst (v := (0 : Int32)) dX11_isSeed_1 (by decide) ?_
  refine e_ldcw (v := ((99999 : Int32))) lkX11_434 dX11_isSeed_2 ?_
  replace H := ob H; obtain ⟨q1, c2, H⟩ := H
  refine s1 lmX11_106 lsX11_isIn msX11_isIn dX11_isSeed_5 (t_X11_isIn (d + 0) c2) rfl (Nat.le_of_ble_eq_true rfl) (Nat.le_refl _) ?_
  obtain rfl := Option.some.inj H
  exact z_bret rfl dX11_isSeed_8 rfl rfl
-- X11_firstLot
def f_X11_firstLot (p0 : Int32) : Option Int64 := (some (((p0.toInt64 + (1 : Int64)) * (48271 : Int64)) - ((p0.toInt64 + (1 : Int64)) * (48271 : Int64)) / (2147483647 : Int64) * (2147483647 : Int64)))
set_option maxHeartbeats 4000000 in
set_option maxRecDepth 20000 in
theorem t_X11_firstLot {G : GE} (d : Nat) {p0 : Int32} {h : HS} {q : Int64} (H : f_X11_firstLot p0 = some q) : CE G (d + 0) yX11_firstLot miX11_firstLot [.int p0] h (some (.long q)) (h) := by
  unfold f_X11_firstLot at H
  refine ce_of rfl (by decide) (fun q => by first | rfl | cases q) (Nat.le_of_ble_eq_true rfl) rfl ?_
  refine e_iload_n dX11_firstLot_0 rfl ?_
  refine e_i2l dX11_firstLot_1 ?_
  refine e_lconst (v := (1 : Int64)) dX11_firstLot_2 (by decide) ?_
  refine e_ladd dX11_firstLot_3 ?_
  refine e_ldc2 (v := (48271 : Int64)) lkX11_253 dX11_firstLot_4 ?_
  refine e_lmul dX11_firstLot_7 ?_
  refine e_ldc2 (v := (2147483647 : Int64)) lkX11_255 dX11_firstLot_8 ?_
  refine e_lrem dX11_firstLot_11 (by decide) ?_
  obtain rfl := Option.some.inj H
  exact z_lret rfl dX11_firstLot_12 rfl rfl
-- X11_remainder
def f_X11_remainder (p0 : Int64) (p1 : Int64) : Option Int64 := (if p1 = (0 : Int64) then (some (0 : Int64)) else (if ¬ p1 = 0 then (some (p0 - p0 / p1 * p1)) else none))
set_option maxHeartbeats 4000000 in
set_option maxRecDepth 20000 in
theorem t_X11_remainder {G : GE} (d : Nat) {p0 : Int64} {p1 : Int64} {h : HS} {q : Int64} (H : f_X11_remainder p0 p1 = some q) : CE G (d + 0) yX11_remainder miX11_remainder [.long p0, .long p1] h (some (.long q)) (h) := by
  unfold f_X11_remainder at H
  refine ce_of rfl (by decide) (fun q => by first | rfl | cases q) (Nat.le_of_ble_eq_true rfl) rfl ?_
  refine e_lload_n dX11_remainder_0 rfl ?_
  refine e_lconst (v := (0 : Int64)) dX11_remainder_1 (by decide) ?_
  refine e_lc_ne (tgt := 10) dX11_remainder_2 dX11_remainder_3 (by decide) (fun c1 => ?_) (fun c1 => ?_)
  · replace H := of_ c1 H
    refine e_lload_n dX11_remainder_10 rfl ?_
    refine e_lload_n dX11_remainder_11 rfl ?_
    replace H := og H; obtain ⟨g2, H⟩ := H
    refine e_lrem dX11_remainder_12 g2 ?_
    obtain rfl := Option.some.inj H
    exact z_lret rfl dX11_remainder_13 rfl rfl
  · replace H := ot c1 H
    refine e_lconst (v := (0 : Int64)) dX11_remainder_6 (by decide) ?_
    refine e_goto (tgt := 13) dX11_remainder_7 (by decide) ?_
    obtain rfl := Option.some.inj H
    exact z_lret rfl dX11_remainder_13 rfl rfl
-- X11_lands
def f_X11_lands (p0 : Nat) (p1 : Nat) (p2 : Int32) (p3 : Int64) (h : HS) : Option Bool := (if hT h p1 = 5 then (Option.bind (f_X11_remainder p3 (hI h p1 3).toInt64) (fun q2 => (Option.bind (f_X11_quotient p3 (hI h p1 3).toInt64) (fun q4 => (Option.bind (f_X11_remainder q4 (hI h p1 3).toInt64) (fun q6 => (if isSt (hT h p0) = true then (Option.bind (f_V_pays p0 ((((p2 / (100 : Int32)) + (hI h p1 0)) + (q2 - (hI h p1 2).toInt64).toInt32) - (hI h p0 1)) ((((p2 - p2 / (100 : Int32) * (100 : Int32)) + (hI h p1 1)) + (q6 - (hI h p1 2).toInt64).toInt32) - (hI h p0 2)) (hI h p0 7) h) (fun q9 => (some q9))) else none))))))) else none)
set_option maxHeartbeats 4000000 in
set_option maxRecDepth 20000 in
theorem t_X11_lands {G : GE} (d : Nat) {p0 : Nat} {p1 : Nat} {p2 : Int32} {p3 : Int64} {h : HS} {q : Bool} (H : f_X11_lands p0 p1 p2 p3 h = some q) : CE G (d + 4) yX11_lands miX11_lands [.ref p0, .ref p1, .int p2, .long p3] h (some (.int (b2i q))) (h) := by
  unfold f_X11_lands at H
  refine ce_of rfl (by decide) (fun q => by first | rfl | cases q) (Nat.le_of_ble_eq_true rfl) rfl ?_
  refine e_lload_n dX11_lands_0 rfl ?_
  refine g_aload_n dX11_lands_1 rfl rfl ?_
  replace H := og H; obtain ⟨g1, H⟩ := H
  refine e_getI g1 flX11_257_4 dX11_lands_2 rfl ?_
  refine e_i2l dX11_lands_5 ?_
  replace H := ob H; obtain ⟨q2, c3, H⟩ := H
  refine s1 lmX11_260 lsX11_remainder msX11_remainder dX11_lands_6 (t_X11_remainder (d + 3) c3) rfl (Nat.le_of_ble_eq_true rfl) (Nat.le_refl _) ?_
  refine g_aload_n dX11_lands_9 rfl rfl ?_
  refine e_getI g1 flX11_264_4 dX11_lands_10 rfl ?_
  refine e_i2l dX11_lands_13 ?_
  refine e_lsub dX11_lands_14 ?_
  refine e_lstore dX11_lands_15 (Nat.le_of_ble_eq_true rfl) rfl rfl ?_
  refine e_lload_n dX11_lands_17 rfl ?_
  refine g_aload_n dX11_lands_18 rfl rfl ?_
  refine e_getI g1 flX11_257_4 dX11_lands_19 rfl ?_
  refine e_i2l dX11_lands_22 ?_
  replace H := ob H; obtain ⟨q4, c5, H⟩ := H
  refine s1 lmX11_267 lsX11_quotient msX11_quotient dX11_lands_23 (t_X11_quotient (d + 3) c5) rfl (Nat.le_of_ble_eq_true rfl) (Nat.le_refl _) ?_
  refine g_aload_n dX11_lands_26 rfl rfl ?_
  refine e_getI g1 flX11_257_4 dX11_lands_27 rfl ?_
  refine e_i2l dX11_lands_30 ?_
  replace H := ob H; obtain ⟨q6, c7, H⟩ := H
  refine s1 lmX11_260 lsX11_remainder msX11_remainder dX11_lands_31 (t_X11_remainder (d + 3) c7) rfl (Nat.le_of_ble_eq_true rfl) (Nat.le_refl _) ?_
  refine g_aload_n dX11_lands_34 rfl rfl ?_
  refine e_getI g1 flX11_264_4 dX11_lands_35 rfl ?_
  refine e_i2l dX11_lands_38 ?_
  refine e_lsub dX11_lands_39 ?_
  refine e_lstore dX11_lands_40 (Nat.le_of_ble_eq_true rfl) rfl rfl ?_
  refine e_iload_n dX11_lands_42 rfl ?_
  refine e_bipush (v := (100 : Int32)) dX11_lands_43 (by decide) ?_
  refine e_idiv dX11_lands_45 (by decide) ?_
  refine g_aload_n dX11_lands_46 rfl rfl ?_
  refine e_getI g1 flX11_270_4 dX11_lands_47 rfl ?_
  refine e_iadd dX11_lands_50 ?_
  refine e_lload dX11_lands_51 rfl ?_
  refine e_l2i dX11_lands_53 ?_
  refine e_iadd dX11_lands_54 ?_
  refine g_aload_n dX11_lands_55 rfl rfl ?_
  replace H := og H; obtain ⟨g8, H⟩ := H
  refine gmX11_143_isSt g8 dX11_lands_56 ?_
  refine e_isub dX11_lands_59 ?_
  refine e_istore dX11_lands_60 (Nat.le_of_ble_eq_true rfl) rfl rfl ?_
  refine e_iload_n dX11_lands_62 rfl ?_
  refine e_bipush (v := (100 : Int32)) dX11_lands_63 (by decide) ?_
  refine e_irem dX11_lands_65 (by decide) ?_
  refine g_aload_n dX11_lands_66 rfl rfl ?_
  refine e_getI g1 flX11_273_4 dX11_lands_67 rfl ?_
  refine e_iadd dX11_lands_70 ?_
  refine e_lload dX11_lands_71 rfl ?_
  refine e_l2i dX11_lands_73 ?_
  refine e_iadd dX11_lands_74 ?_
  refine g_aload_n dX11_lands_75 rfl rfl ?_
  refine gmX11_146_isSt g8 dX11_lands_76 ?_
  refine e_isub dX11_lands_79 ?_
  refine e_istore dX11_lands_80 (Nat.le_of_ble_eq_true rfl) rfl rfl ?_
  refine g_aload_n dX11_lands_82 rfl rfl ?_
  refine e_iload dX11_lands_83 rfl ?_
  refine e_iload dX11_lands_85 rfl ?_
  refine g_aload_n dX11_lands_87 rfl rfl ?_
  refine gmX11_160_isSt g8 dX11_lands_88 ?_
  replace H := ob H; obtain ⟨q9, c10, H⟩ := H
  refine vrpays_X11 c10 (d + 0) dX11_lands_91 (Nat.le_of_ble_eq_true rfl) (Nat.le_refl _) ?_
  obtain rfl := Option.some.inj H
  exact z_bret rfl dX11_lands_94 rfl rfl
-- X11_keepTry
def f_X11_keepTry (p1 : Int32) (p2 : Int32) (p3 : Int32) (p4 : Int32) (h : HS) : Option HS := (Option.bind (f_X11_stallAt p1 h) (fun q1 => (om q1 (some h) (fun b4 => (Option.bind (f_X11_isIn ((hI h 32 5) * (5 : Int32)) (0 : Int32) ((300 : Int32) - (5 : Int32))) (fun q7 => (if q7 = true then (if ixb (((hI h 32 5) * (5 : Int32)) + (0 : Int32)) 300 = true then (if ixb (((hI h 32 5) * (5 : Int32)) + (1 : Int32)) 300 = true then (if ixb (((hI h 32 5) * (5 : Int32)) + (2 : Int32)) 300 = true then (bh (sI (sI (sI h 36 (((hI h 32 5) * (5 : Int32)) + (0 : Int32)).toNatClampNeg p1) 36 (((hI h 32 5) * (5 : Int32)) + (1 : Int32)).toNatClampNeg p2) 36 (((hI h 32 5) * (5 : Int32)) + (2 : Int32)).toNatClampNeg p3) (fun h13 => (if ixb (((hI h 32 5) * (5 : Int32)) + (3 : Int32)) 300 = true then (if isSt (hT (sI h13 36 (((hI h 32 5) * (5 : Int32)) + (3 : Int32)).toNatClampNeg p4) b4) = true then (if ixb (((hI h 32 5) * (5 : Int32)) + (4 : Int32)) 300 = true then (bh (sI (sI h13 36 (((hI h 32 5) * (5 : Int32)) + (3 : Int32)).toNatClampNeg p4) 36 (((hI h 32 5) * (5 : Int32)) + (4 : Int32)).toNatClampNeg (hI (sI h13 36 (((hI h 32 5) * (5 : Int32)) + (3 : Int32)).toNatClampNeg p4) b4 7)) (fun h19 => (some (sI h19 32 5 ((hI h19 32 5) + (1 : Int32)))))) else none) else none) else none))) else none) else none) else none) else (some h))))))))
set_option maxHeartbeats 4000000 in
set_option maxRecDepth 20000 in
theorem p_X11_keepTry {p1 : Int32} {p2 : Int32} {p3 : Int32} {p4 : Int32} {h : HS} {q : HS} (H : f_X11_keepTry p1 p2 p3 p4 h = some q) : Pr h q := by
  unfold f_X11_keepTry at H
  replace H := ob H; obtain ⟨q1, c2, H⟩ := H
  replace H := oom H; obtain ⟨e3, H⟩ | ⟨b4, e3, H⟩ := H
  · obtain rfl := Option.some.inj H
    exact Pr.rf
  · replace H := ob H; obtain ⟨q7, c8, H⟩ := H
    replace H := oi H; obtain ⟨c9, H⟩ | ⟨c9, H⟩ := H
    · replace H := og H; obtain ⟨g10, H⟩ := H
      replace H := og H; obtain ⟨g11, H⟩ := H
      replace H := og H; obtain ⟨g12, H⟩ := H
      replace H := obh H; obtain ⟨h13, e14, H⟩ := H
      replace H := og H; obtain ⟨g16, H⟩ := H
      replace H := og H; obtain ⟨g17, H⟩ := H
      replace H := og H; obtain ⟨g18, H⟩ := H
      replace H := obh H; obtain ⟨h19, e20, H⟩ := H
      obtain rfl := Option.some.inj H
      exact ((kP e20 (((kP e14 (((Pr.rf.sI).sI).sI)).sI).sI)).sI)
    · obtain rfl := Option.some.inj H
      exact Pr.rf
set_option maxHeartbeats 4000000 in
set_option maxRecDepth 20000 in
theorem t_X11_keepTry {G : GE} (d : Nat) {p1 : Int32} {p2 : Int32} {p3 : Int32} {p4 : Int32} {h : HS} {q : HS} (hY : LY TX h) (H : f_X11_keepTry p1 p2 p3 p4 h = some q) : CE G (d + 4) yX11_keepTry miX11_keepTry [.ref 32, .int p1, .int p2, .int p3, .int p4] h (none) (q) := by
  unfold f_X11_keepTry at H
  refine ce_of rfl (by decide) (fun q => by first | rfl | cases q) (Nat.le_of_ble_eq_true rfl) rfl ?_
  refine g_aload_n dX11_keepTry_0 rfl rfl ?_
  refine e_iload_n dX11_keepTry_1 rfl ?_
  replace H := ob H; obtain ⟨q1, c2, H⟩ := H
  replace H := oom H; obtain ⟨e3, H⟩ | ⟨b4, e3, H⟩ := H
  · refine v1 (hY.t 0 rfl) (by decide) rfl rfl lmX11_122 liX11_stallAt lvX11_X11_stallAt msX11_stallAt dX11_keepTry_2 (ceN e3 (t_X11_stallAt (d + 0) hY c2)) rfl (Nat.le_of_ble_eq_true rfl) (Nat.le_refl _) ?_
    refine g_astore dX11_keepTry_5 (Nat.le_of_ble_eq_true rfl) rfl rfl rfl ?_
    refine g_aload_n dX11_keepTry_7 rfl rfl ?_
    refine e_getI (hY.t 0 rfl) flX11_30_12 dX11_keepTry_8 rfl ?_
    refine e_iconst (v := (5 : Int32)) dX11_keepTry_11 (by decide) ?_
    refine e_imul dX11_keepTry_12 ?_
    refine e_istore dX11_keepTry_13 (Nat.le_of_ble_eq_true rfl) rfl rfl ?_
    refine g_aload dX11_keepTry_15 rfl rfl ?_
    refine e_ifnullN (tgt := 36) dX11_keepTry_17 (by decide) ?_
    obtain rfl := Option.some.inj H
    exact z_vret rfl dX11_keepTry_36 rfl rfl
  · refine v1 (hY.t 0 rfl) (by decide) rfl rfl lmX11_122 liX11_stallAt lvX11_X11_stallAt msX11_stallAt dX11_keepTry_2 (ceS e3 (t_X11_stallAt (d + 0) hY c2)) rfl (Nat.le_of_ble_eq_true rfl) (Nat.le_refl _) ?_
    refine g_astore dX11_keepTry_5 (Nat.le_of_ble_eq_true rfl) rfl rfl rfl ?_
    refine g_aload_n dX11_keepTry_7 rfl rfl ?_
    refine e_getI (hY.t 0 rfl) flX11_30_12 dX11_keepTry_8 rfl ?_
    refine e_iconst (v := (5 : Int32)) dX11_keepTry_11 (by decide) ?_
    refine e_imul dX11_keepTry_12 ?_
    refine e_istore dX11_keepTry_13 (Nat.le_of_ble_eq_true rfl) rfl rfl ?_
    refine g_aload dX11_keepTry_15 rfl rfl ?_
    refine e_ifnull dX11_keepTry_17 ?_
    refine e_iload dX11_keepTry_20 rfl ?_
    refine e_iconst (v := (0 : Int32)) dX11_keepTry_22 (by decide) ?_
    refine g_aload_n dX11_keepTry_23 rfl rfl ?_
    refine e_getR (hY.t 0 rfl) flX11_26_12 dX11_keepTry_24 rfl (hY.r 3 rfl) ?_
    refine e_alen (hY.t 4 rfl) (by decide) dX11_keepTry_27 ?_
    refine e_ci (y := (300 : Int32)) (by rw [(hY.n 4 rfl)]; rfl) ?_
    refine e_iconst (v := (5 : Int32)) dX11_keepTry_28 (by decide) ?_
    refine e_isub dX11_keepTry_29 ?_
    replace H := ob H; obtain ⟨q7, c8, H⟩ := H
    refine s1 lmX11_106 lsX11_isIn msX11_isIn dX11_keepTry_30 (t_X11_isIn (d + 3) c8) rfl (Nat.le_of_ble_eq_true rfl) (Nat.le_refl _) ?_
    refine e_ifB_ne (tgt := 37) dX11_keepTry_33 (by decide) (fun c9 => ?_) (fun c9 => ?_)
    · replace H := ot c9 H
      refine g_aload_n dX11_keepTry_37 rfl rfl ?_
      refine e_getR (hY.t 0 rfl) flX11_26_12 dX11_keepTry_38 rfl (hY.r 3 rfl) ?_
      refine e_iload dX11_keepTry_41 rfl ?_
      refine e_iconst (v := (0 : Int32)) dX11_keepTry_43 (by decide) ?_
      refine e_iadd dX11_keepTry_44 ?_
      refine e_iload_n dX11_keepTry_45 rfl ?_
      replace H := og H; obtain ⟨g10, H⟩ := H
      refine e_iast (hY.t 4 rfl) (ixb_y (hY.n 4 rfl) g10) dX11_keepTry_46 ?_
      refine g_aload_n dX11_keepTry_47 rfl rfl ?_
      refine e_getR ((hY.sI).t 0 rfl) flX11_26_12 dX11_keepTry_48 rfl ((hY.sI).r 3 rfl) ?_
      refine e_iload dX11_keepTry_51 rfl ?_
      refine e_iconst (v := (1 : Int32)) dX11_keepTry_53 (by decide) ?_
      refine e_iadd dX11_keepTry_54 ?_
      refine e_iload_n dX11_keepTry_55 rfl ?_
      replace H := og H; obtain ⟨g11, H⟩ := H
      refine e_iast ((hY.sI).t 4 rfl) (ixb_y ((hY.sI).n 4 rfl) g11) dX11_keepTry_56 ?_
      refine g_aload_n dX11_keepTry_57 rfl rfl ?_
      refine e_getR (((hY.sI).sI).t 0 rfl) flX11_26_12 dX11_keepTry_58 rfl (((hY.sI).sI).r 3 rfl) ?_
      refine e_iload dX11_keepTry_61 rfl ?_
      refine e_iconst (v := (2 : Int32)) dX11_keepTry_63 (by decide) ?_
      refine e_iadd dX11_keepTry_64 ?_
      refine e_iload_n dX11_keepTry_65 rfl ?_
      replace H := og H; obtain ⟨g12, H⟩ := H
      refine e_iast (((hY.sI).sI).t 4 rfl) (ixb_y (((hY.sI).sI).n 4 rfl) g12) dX11_keepTry_66 ?_
      replace H := obh H; obtain ⟨h13, e14, H⟩ := H
      refine e_hq e14 ?_
      have hY15 := kY e14 (((hY.sI).sI).sI)
      refine g_aload_n dX11_keepTry_67 rfl rfl ?_
      refine e_getR (hY15.t 0 rfl) flX11_26_12 dX11_keepTry_68 rfl (hY15.r 3 rfl) ?_
      refine e_iload dX11_keepTry_71 rfl ?_
      refine e_iconst (v := (3 : Int32)) dX11_keepTry_73 (by decide) ?_
      refine e_iadd dX11_keepTry_74 ?_
      refine e_iload dX11_keepTry_75 rfl ?_
      replace H := og H; obtain ⟨g16, H⟩ := H
      refine e_iast (hY15.t 4 rfl) (ixb_y (hY15.n 4 rfl) g16) dX11_keepTry_77 ?_
      refine g_aload_n dX11_keepTry_78 rfl rfl ?_
      refine e_getR ((hY15.sI).t 0 rfl) flX11_26_12 dX11_keepTry_79 rfl ((hY15.sI).r 3 rfl) ?_
      refine e_iload dX11_keepTry_82 rfl ?_
      refine e_iconst (v := (4 : Int32)) dX11_keepTry_84 (by decide) ?_
      refine e_iadd dX11_keepTry_85 ?_
      refine g_aload dX11_keepTry_86 rfl rfl ?_
      replace H := og H; obtain ⟨g17, H⟩ := H
      refine gmX11_160_isSt g17 dX11_keepTry_88 ?_
      replace H := og H; obtain ⟨g18, H⟩ := H
      refine e_iast ((hY15.sI).t 4 rfl) (ixb_y ((hY15.sI).n 4 rfl) g18) dX11_keepTry_91 ?_
      replace H := obh H; obtain ⟨h19, e20, H⟩ := H
      refine e_hq e20 ?_
      have hY21 := kY e20 ((hY15.sI).sI)
      have f22 := kB e20 (kIb g17)
      refine g_aload_n dX11_keepTry_92 rfl rfl ?_
      refine e_dup dX11_keepTry_93 rfl ?_
      refine e_getI (hY21.t 0 rfl) flX11_30_12 dX11_keepTry_94 rfl ?_
      refine e_iconst (v := (1 : Int32)) dX11_keepTry_97 (by decide) ?_
      refine e_iadd dX11_keepTry_98 ?_
      refine e_putI (hY21.t 0 rfl) fpX11_30_12 rfl dX11_keepTry_99 ?_
      obtain rfl := Option.some.inj H
      exact z_vret rfl dX11_keepTry_102 rfl rfl
    · replace H := of_ (nb c9) H
      obtain rfl := Option.some.inj H
      exact z_vret rfl dX11_keepTry_36 rfl rfl
