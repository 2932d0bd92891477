-- X12_tried
def f_X12_tried (p1 : Int32) (p2 : Int32) (p3 : Int32) (p4 : Int32) (h : HS) : Option (Int32 × HS) := (Option.bind (f_X12_isStall p1 h) (fun q1 => (if q1 = true then (Option.bind (f_X12_isHand p2 h) (fun q4 => (if q4 = true then (Option.bind (f_X12_isPlace p3) (fun q7 => (if q7 = true then (Option.bind (f_X12_in p4.toInt64 (0 : Int64) (99999 : Int64)) (fun q10 => (if q10 = true then (if (hI h 60 25) = (60 : Int32) then (some ((-4 : Int32), h)) else (Option.bind (f_X12_lotOf (p4.toInt64 + (1 : Int64))) (fun q14 => (Option.bind (f_X12_wonBy p1 p2 p3 q14 h) (fun q16 => (Option.bind (f_X12_keeps p1 p2 p3 q16 h) (fun q18 => (if ixb q18.1 60 = true then (some ((hI q18.2 77 q18.1.toNatClampNeg), q18.2)) else none)))))))) else (some ((-2 : Int32), h))))) else (some ((-2 : Int32), h))))) else (some ((-2 : Int32), h))))) else (some ((-2 : Int32), h)))))
set_option maxHeartbeats 4000000 in
set_option maxRecDepth 20000 in
theorem p_X12_tried {p1 : Int32} {p2 : Int32} {p3 : Int32} {p4 : Int32} {h : HS} {q : (Int32 × HS)} (H : f_X12_tried p1 p2 p3 p4 h = some q) : Pr h q.2 := by
  unfold f_X12_tried at H
  replace H := ob H; obtain ⟨q1, c2, H⟩ := H
  replace H := oi H; obtain ⟨c3, H⟩ | ⟨c3, H⟩ := H
  · replace H := ob H; obtain ⟨q4, c5, H⟩ := H
    replace H := oi H; obtain ⟨c6, H⟩ | ⟨c6, H⟩ := H
    · replace H := ob H; obtain ⟨q7, c8, H⟩ := H
      replace H := oi H; obtain ⟨c9, H⟩ | ⟨c9, H⟩ := H
      · replace H := ob H; obtain ⟨q10, c11, H⟩ := H
        replace H := oi H; obtain ⟨c12, H⟩ | ⟨c12, H⟩ := H
        · replace H := oi H; obtain ⟨c13, H⟩ | ⟨c13, H⟩ := H
          · obtain rfl := Option.some.inj H
            exact Pr.rf
          · replace H := ob H; obtain ⟨q14, c15, H⟩ := H
            replace H := ob H; obtain ⟨q16, c17, H⟩ := H
            replace H := ob H; obtain ⟨q18, c19, H⟩ := H
            have e20 := p_X12_keeps c19
            replace H := og H; obtain ⟨g22, H⟩ := H
            obtain rfl := Option.some.inj H
            exact e20
        · obtain rfl := Option.some.inj H
          exact Pr.rf
      · obtain rfl := Option.some.inj H
        exact Pr.rf
    · obtain rfl := Option.some.inj H
      exact Pr.rf
  · obtain rfl := Option.some.inj H
    exact Pr.rf
set_option maxHeartbeats 4000000 in
set_option maxRecDepth 20000 in
theorem t_X12_tried {G : GE} (d : Nat) {p1 : Int32} {p2 : Int32} {p3 : Int32} {p4 : Int32} {h : HS} {q : (Int32 × HS)} (hY : LY TM h) (H : f_X12_tried p1 p2 p3 p4 h = some q) : CE G (d + 4) yX12_tried miX12_tried [.ref 60, .int p1, .int p2, .int p3, .int p4] h (some (.int q.1)) (q.2) := by
  unfold f_X12_tried at H
  refine ce_of rfl (by decide) (fun q => by first | rfl | cases q) (Nat.le_of_ble_eq_true rfl) rfl ?_
  refine g_aload_n dX12_tried_0 rfl rfl ?_
  refine e_iload_n dX12_tried_1 rfl ?_
  replace H := ob H; obtain ⟨q1, c2, H⟩ := H
  refine v1 (hY.t 0 rfl) (by decide) rfl rfl lmX12_142 liX12_isStall lvX12_X12_isStall msX12_isStall dX12_tried_2 (t_X12_isStall (d + 2) hY c2) rfl (Nat.le_of_ble_eq_true rfl) (Nat.le_refl _) ?_
  refine e_ifB_eq (tgt := 36) dX12_tried_5 (by decide) (fun c3 => ?_) (fun c3 => ?_)
  · replace H := of_ (nb c3) H
    refine e_bipush (v := (-2 : Int32)) dX12_tried_36 (by decide) ?_
    obtain rfl := Option.some.inj H
    exact z_iret rfl rfl dX12_tried_38 rfl rfl
  · replace H := ot c3 H
    refine g_aload_n dX12_tried_8 rfl rfl ?_
    refine e_iload_n dX12_tried_9 rfl ?_
    replace H := ob H; obtain ⟨q4, c5, H⟩ := H
    refine v1 (hY.t 0 rfl) (by decide) rfl rfl lmX12_187 liX12_isHand lvX12_X12_isHand msX12_isHand dX12_tried_10 (t_X12_isHand (d + 2) hY c5) rfl (Nat.le_of_ble_eq_true rfl) (Nat.le_refl _) ?_
    refine e_ifB_eq (tgt := 36) dX12_tried_13 (by decide) (fun c6 => ?_) (fun c6 => ?_)
    · replace H := of_ (nb c6) H
      refine e_bipush (v := (-2 : Int32)) dX12_tried_36 (by decide) ?_
      obtain rfl := Option.some.inj H
      exact z_iret rfl rfl dX12_tried_38 rfl rfl
    · replace H := ot c6 H
      refine e_iload_n dX12_tried_16 rfl ?_
      replace H := ob H; obtain ⟨q7, c8, H⟩ := H
      refine s1 lmX12_134 lsX12_isPlace msX12_isPlace dX12_tried_17 (t_X12_isPlace (d + 3) c8) rfl (Nat.le_of_ble_eq_true rfl) (Nat.le_refl _) ?_
      refine e_ifB_eq (tgt := 36) dX12_tried_20 (by decide) (fun c9 => ?_) (fun c9 => ?_)
      · replace H := of_ (nb c9) H
        refine e_bipush (v := (-2 : Int32)) dX12_tried_36 (by decide) ?_
        obtain rfl := Option.some.inj H
        exact z_iret rfl rfl dX12_tried_38 rfl rfl
      · replace H := ot c9 H
        refine e_iload dX12_tried_23 rfl ?_
        refine e_i2l dX12_tried_25 ?_
        refine e_lconst (v := (0 : Int64)) dX12_tried_26 (by decide) ?_
        refine e_ldc2 (v := (99999 : Int64)) lkX12_226 dX12_tried_27 ?_
        replace H := ob H; obtain ⟨q10, c11, H⟩ := H
        refine s1 lmX12_125 lsX12_in msX12_in dX12_tried_30 (t_X12_in (d + 3) c11) rfl (Nat.le_of_ble_eq_true rfl) (Nat.le_refl _) ?_
        refine e_ifB_ne (tgt := 39) dX12_tried_33 (by decide) (fun c12 => ?_) (fun c12 => ?_)
        · replace H := ot c12 H
          refine g_aload_n dX12_tried_39 rfl rfl ?_
          refine e_getI (hY.t 0 rfl) flX12_223_13 dX12_tried_40 rfl ?_
          refine e_bipush (v := (60 : Int32)) dX12_tried_43 (by decide) ?_
          refine e_icmp_ne (tgt := 51) dX12_tried_45 (by decide) (fun c13 => ?_) (fun c13 => ?_)
          · replace H := of_ c13 H
            refine g_aload_n dX12_tried_51 rfl rfl ?_
            refine e_getR (hY.t 0 rfl) flX12_62_13 dX12_tried_52 rfl (hY.r 16 rfl) ?_
            refine g_aload_n dX12_tried_55 rfl rfl ?_
            refine e_iload_n dX12_tried_56 rfl ?_
            refine e_iload_n dX12_tried_57 rfl ?_
            refine e_iload_n dX12_tried_58 rfl ?_
            refine g_aload_n dX12_tried_59 rfl rfl ?_
            refine e_iload_n dX12_tried_60 rfl ?_
            refine e_iload_n dX12_tried_61 rfl ?_
            refine e_iload_n dX12_tried_62 rfl ?_
            refine e_iload dX12_tried_63 rfl ?_
            refine e_i2l dX12_tried_65 ?_
            refine e_lconst (v := (1 : Int64)) dX12_tried_66 (by decide) ?_
            refine e_ladd dX12_tried_67 ?_
            replace H := ob H; obtain ⟨q14, c15, H⟩ := H
            refine s1w lmX12_228 lsX12_lotOf msX12_lotOf (by decide) dX12_tried_68 (t_X12_lotOf (d + 3) c15) rfl (Nat.le_of_ble_eq_true rfl) (Nat.le_refl _) ?_
            replace H := ob H; obtain ⟨q16, c17, H⟩ := H
            refine v1 (hY.t 0 rfl) (by decide) rfl rfl lmX12_232 liX12_wonBy lvX12_X12_wonBy msX12_wonBy dX12_tried_71 (t_X12_wonBy (d + 0) hY c17) rfl (Nat.le_of_ble_eq_true rfl) (Nat.le_refl _) ?_
            replace H := ob H; obtain ⟨q18, c19, H⟩ := H
            refine v1 (hY.t 0 rfl) (by decide) rfl rfl lmX12_236 liX12_keeps lvX12_X12_keeps msX12_keeps dX12_tried_74 (t_X12_keeps (d + 3) hY c19) rfl (Nat.le_of_ble_eq_true rfl) (Nat.le_refl _) ?_
            have e20 := p_X12_keeps c19
            have hY21 := hY.pr okM e20
            replace H := og H; obtain ⟨g22, H⟩ := H
            refine e_iald (hY21.t 17 rfl) (ixb_y (hY21.n 17 rfl) g22) dX12_tried_77 ?_
            obtain rfl := Option.some.inj H
            exact z_iret rfl rfl dX12_tried_78 rfl rfl
          · replace H := ot c13 H
            refine e_bipush (v := (-4 : Int32)) dX12_tried_48 (by decide) ?_
            obtain rfl := Option.some.inj H
            exact z_iret rfl rfl dX12_tried_50 rfl rfl
        · replace H := of_ (nb c12) H
          refine e_bipush (v := (-2 : Int32)) dX12_tried_36 (by decide) ?_
          obtain rfl := Option.some.inj H
          exact z_iret rfl rfl dX12_tried_38 rfl rfl
-- X12_shown
def f_X12_shown (p1 : Int32) (p2 : Int32) (p3 : Int32) (p4 : Int32) (h : HS) : Option (Int32 × HS) := (Option.bind (f_X12_isStall p1 h) (fun q1 => (if q1 = true then (Option.bind (f_X12_isHand p2 h) (fun q4 => (if q4 = true then (Option.bind (f_X12_isPlace p3) (fun q7 => (if q7 = true then (Option.bind (f_X12_in p4.toInt64 (0 : Int64) (1 : Int64)) (fun q10 => (if q10 = true then (if (hI h 60 25) = (60 : Int32) then (some ((-4 : Int32), h)) else (Option.bind (f_X12_keeps p1 p2 p3 p4 h) (fun q14 => (some (q14.1, q14.2))))) else (some ((-2 : Int32), h))))) else (some ((-2 : Int32), h))))) else (some ((-2 : Int32), h))))) else (some ((-2 : Int32), h)))))
set_option maxHeartbeats 4000000 in
set_option maxRecDepth 20000 in
theorem p_X12_shown {p1 : Int32} {p2 : Int32} {p3 : Int32} {p4 : Int32} {h : HS} {q : (Int32 × HS)} (H : f_X12_shown p1 p2 p3 p4 h = some q) : Pr h q.2 := by
  unfold f_X12_shown at H
  replace H := ob H; obtain ⟨q1, c2, H⟩ := H
  replace H := oi H; obtain ⟨c3, H⟩ | ⟨c3, H⟩ := H
  · replace H := ob H; obtain ⟨q4, c5, H⟩ := H
    replace H := oi H; obtain ⟨c6, H⟩ | ⟨c6, H⟩ := H
    · replace H := ob H; obtain ⟨q7, c8, H⟩ := H
      replace H := oi H; obtain ⟨c9, H⟩ | ⟨c9, H⟩ := H
      · replace H := ob H; obtain ⟨q10, c11, H⟩ := H
        replace H := oi H; obtain ⟨c12, H⟩ | ⟨c12, H⟩ := H
        · replace H := oi H; obtain ⟨c13, H⟩ | ⟨c13, H⟩ := H
          · obtain rfl := Option.some.inj H
            exact Pr.rf
          · replace H := ob H; obtain ⟨q14, c15, H⟩ := H
            have e16 := p_X12_keeps c15
            obtain rfl := Option.some.inj H
            exact e16
        · obtain rfl := Option.some.inj H
          exact Pr.rf
      · obtain rfl := Option.some.inj H
        exact Pr.rf
    · obtain rfl := Option.some.inj H
      exact Pr.rf
  · obtain rfl := Option.some.inj H
    exact Pr.rf
set_option maxHeartbeats 4000000 in
set_option maxRecDepth 20000 in
theorem t_X12_shown {G : GE} (d : Nat) {p1 : Int32} {p2 : Int32} {p3 : Int32} {p4 : Int32} {h : HS} {q : (Int32 × HS)} (hY : LY TM h) (H : f_X12_shown p1 p2 p3 p4 h = some q) : CE G (d + 2) yX12_shown miX12_shown [.ref 60, .int p1, .int p2, .int p3, .int p4] h (some (.int q.1)) (q.2) := by
  unfold f_X12_shown at H
  refine ce_of rfl (by decide) (fun q => by first | rfl | cases q) (Nat.le_of_ble_eq_true rfl) rfl ?_
  refine g_aload_n dX12_shown_0 rfl rfl ?_
  refine e_iload_n dX12_shown_1 rfl ?_
  replace H := ob H; obtain ⟨q1, c2, H⟩ := H
  refine v1 (hY.t 0 rfl) (by decide) rfl rfl lmX12_142 liX12_isStall lvX12_X12_isStall msX12_isStall dX12_shown_2 (t_X12_isStall (d + 0) hY c2) rfl (Nat.le_of_ble_eq_true rfl) (Nat.le_refl _) ?_
  refine e_ifB_eq (tgt := 34) dX12_shown_5 (by decide) (fun c3 => ?_) (fun c3 => ?_)
  · replace H := of_ (nb c3) H
    refine e_bipush (v := (-2 : Int32)) dX12_shown_34 (by decide) ?_
    obtain rfl := Option.some.inj H
    exact z_iret rfl rfl dX12_shown_36 rfl rfl
  · replace H := ot c3 H
    refine g_aload_n dX12_shown_8 rfl rfl ?_
    refine e_iload_n dX12_shown_9 rfl ?_
    replace H := ob H; obtain ⟨q4, c5, H⟩ := H
    refine v1 (hY.t 0 rfl) (by decide) rfl rfl lmX12_187 liX12_isHand lvX12_X12_isHand msX12_isHand dX12_shown_10 (t_X12_isHand (d + 0) hY c5) rfl (Nat.le_of_ble_eq_true rfl) (Nat.le_refl _) ?_
    refine e_ifB_eq (tgt := 34) dX12_shown_13 (by decide) (fun c6 => ?_) (fun c6 => ?_)
    · replace H := of_ (nb c6) H
      refine e_bipush (v := (-2 : Int32)) dX12_shown_34 (by decide) ?_
      obtain rfl := Option.some.inj H
      exact z_iret rfl rfl dX12_shown_36 rfl rfl
    · replace H := ot c6 H
      refine e_iload_n dX12_shown_16 rfl ?_
      replace H := ob H; obtain ⟨q7, c8, H⟩ := H
      refine s1 lmX12_134 lsX12_isPlace msX12_isPlace dX12_shown_17 (t_X12_isPlace (d + 1) c8) rfl (Nat.le_of_ble_eq_true rfl) (Nat.le_refl _) ?_
      refine e_ifB_eq (tgt := 34) dX12_shown_20 (by decide) (fun c9 => ?_) (fun c9 => ?_)
      · replace H := of_ (nb c9) H
        refine e_bipush (v := (-2 : Int32)) dX12_shown_34 (by decide) ?_
        obtain rfl := Option.some.inj H
        exact z_iret rfl rfl dX12_shown_36 rfl rfl
      · replace H := ot c9 H
        refine e_iload dX12_shown_23 rfl ?_
        refine e_i2l dX12_shown_25 ?_
        refine e_lconst (v := (0 : Int64)) dX12_shown_26 (by decide) ?_
        refine e_lconst (v := (1 : Int64)) dX12_shown_27 (by decide) ?_
        replace H := ob H; obtain ⟨q10, c11, H⟩ := H
        refine s1 lmX12_125 lsX12_in msX12_in dX12_shown_28 (t_X12_in (d + 1) c11) rfl (Nat.le_of_ble_eq_true rfl) (Nat.le_refl _) ?_
        refine e_ifB_ne (tgt := 37) dX12_shown_31 (by decide) (fun c12 => ?_) (fun c12 => ?_)
        · replace H := ot c12 H
          refine g_aload_n dX12_shown_37 rfl rfl ?_
          refine e_getI (hY.t 0 rfl) flX12_223_13 dX12_shown_38 rfl ?_
          refine e_bipush (v := (60 : Int32)) dX12_shown_41 (by decide) ?_
          refine e_icmp_ne (tgt := 51) dX12_shown_43 (by decide) (fun c13 => ?_) (fun c13 => ?_)
          · replace H := of_ c13 H
            refine g_aload_n dX12_shown_51 rfl rfl ?_
            refine e_iload_n dX12_shown_52 rfl ?_
            refine e_iload_n dX12_shown_53 rfl ?_
            refine e_iload_n dX12_shown_54 rfl ?_
            refine e_iload dX12_shown_55 rfl ?_
            replace H := ob H; obtain ⟨q14, c15, H⟩ := H
            refine v1 (hY.t 0 rfl) (by decide) rfl rfl lmX12_236 liX12_keeps lvX12_X12_keeps msX12_keeps dX12_shown_57 (t_X12_keeps (d + 1) hY c15) rfl (Nat.le_of_ble_eq_true rfl) (Nat.le_refl _) ?_
            have e16 := p_X12_keeps c15
            have hY17 := hY.pr okM e16
            obtain rfl := Option.some.inj H
            exact z_iret rfl rfl dX12_shown_60 rfl rfl
          · replace H := ot c13 H
            refine e_bipush (v := (-4 : Int32)) dX12_shown_46 (by decide) ?_
            refine e_goto (tgt := 60) dX12_shown_48 (by decide) ?_
            obtain rfl := Option.some.inj H
            exact z_iret rfl rfl dX12_shown_60 rfl rfl
        · replace H := of_ (nb c12) H
          refine e_bipush (v := (-2 : Int32)) dX12_shown_34 (by decide) ?_
          obtain rfl := Option.some.inj H
          exact z_iret rfl rfl dX12_shown_36 rfl rfl
-- X12_tryTold
def f_X12_tryTold (p1 : Int32) (p2 : Int32) (h : HS) : Option Int32 := (Option.bind (f_X12_in p1.toInt64 (0 : Int64) ((hI h 60 25) - (1 : Int32)).toInt64) (fun q1 => (if q1 = true then (if p2 = (0 : Int32) then (if ixb p1 60 = true then (some (hI h 74 p1.toNatClampNeg)) else none) else (if p2 = (1 : Int32) then (if ixb p1 60 = true then (some (hI h 75 p1.toNatClampNeg)) else none) else (if p2 = (2 : Int32) then (if ixb p1 60 = true then (some (hI h 76 p1.toNatClampNeg)) else none) else (if p2 = (3 : Int32) then (if ixb p1 60 = true then (some (hI h 77 p1.toNatClampNeg)) else none) else (if p2 = (4 : Int32) then (if ixb p1 60 = true then (some (hI h 78 p1.toNatClampNeg)) else none) else (some (-1 : Int32))))))) else (some (-1 : Int32)))))
set_option maxHeartbeats 4000000 in
set_option maxRecDepth 20000 in
theorem t_X12_tryTold {G : GE} (d : Nat) {p1 : Int32} {p2 : Int32} {h : HS} {q : Int32} (hY : LY TM h) (H : f_X12_tryTold p1 p2 h = some q) : CE G (d + 1) yX12_tryTold miX12_tryTold [.ref 60, .int p1, .int p2] h (some (.int q)) (h) := by
  unfold f_X12_tryTold at H
  refine ce_of rfl (by decide) (fun q => by first | rfl | cases q) (Nat.le_of_ble_eq_true rfl) rfl ?_
  refine e_iload_n dX12_tryTold_0 rfl ?_
  refine e_i2l dX12_tryTold_1 ?_
  refine e_lconst (v := (0 : Int64)) dX12_tryTold_2 (by decide) ?_
  refine g_aload_n dX12_tryTold_3 rfl rfl ?_
  refine e_getI (hY.t 0 rfl) flX12_223_13 dX12_tryTold_4 rfl ?_
  refine e_iconst (v := (1 : Int32)) dX12_tryTold_7 (by decide) ?_
  refine e_isub dX12_tryTold_8 ?_
  refine e_i2l dX12_tryTold_9 ?_
  replace H := ob H; obtain ⟨q1, c2, H⟩ := H
  refine s1 lmX12_125 lsX12_in msX12_in dX12_tryTold_10 (t_X12_in (d + 0) c2) rfl (Nat.le_of_ble_eq_true rfl) (Nat.le_refl _) ?_
  refine e_ifB_ne (tgt := 18) dX12_tryTold_13 (by decide) (fun c3 => ?_) (fun c3 => ?_)
  · replace H := ot c3 H
    refine e_iload_n dX12_tryTold_18 rfl ?_
    by_cases k4 : p2 = (0 : Int32)
    · replace H := ot k4 H
      refine e_tableIn (off := 33) (tgt := 52) dX12_tryTold_19 (by rw [k4]; decide) (by rw [k4]; decide) (by rw [k4]; rfl) (by decide) ?_
      refine g_aload_n dX12_tryTold_52 rfl rfl ?_
      refine e_getR (hY.t 0 rfl) flX12_53_13 dX12_tryTold_53 rfl (hY.r 13 rfl) ?_
      refine e_iload_n dX12_tryTold_56 rfl ?_
      replace H := og H; obtain ⟨g13, H⟩ := H
      refine e_iald (hY.t 14 rfl) (ixb_y (hY.n 14 rfl) g13) dX12_tryTold_57 ?_
      obtain rfl := Option.some.inj H
      exact z_iret rfl rfl dX12_tryTold_58 rfl rfl
    · replace H := of_ k4 H
      by_cases k5 : p2 = (1 : Int32)
      · replace H := ot k5 H
        refine e_tableIn (off := 40) (tgt := 59) dX12_tryTold_19 (by rw [k5]; decide) (by rw [k5]; decide) (by rw [k5]; rfl) (by decide) ?_
        refine g_aload_n dX12_tryTold_59 rfl rfl ?_
        refine e_getR (hY.t 0 rfl) flX12_56_13 dX12_tryTold_60 rfl (hY.r 14 rfl) ?_
        refine e_iload_n dX12_tryTold_63 rfl ?_
        replace H := og H; obtain ⟨g12, H⟩ := H
        refine e_iald (hY.t 15 rfl) (ixb_y (hY.n 15 rfl) g12) dX12_tryTold_64 ?_
        obtain rfl := Option.some.inj H
        exact z_iret rfl rfl dX12_tryTold_65 rfl rfl
      · replace H := of_ k5 H
        by_cases k6 : p2 = (2 : Int32)
        · replace H := ot k6 H
          refine e_tableIn (off := 47) (tgt := 66) dX12_tryTold_19 (by rw [k6]; decide) (by rw [k6]; decide) (by rw [k6]; rfl) (by decide) ?_
          refine g_aload_n dX12_tryTold_66 rfl rfl ?_
          refine e_getR (hY.t 0 rfl) flX12_59_13 dX12_tryTold_67 rfl (hY.r 15 rfl) ?_
          refine e_iload_n dX12_tryTold_70 rfl ?_
          replace H := og H; obtain ⟨g11, H⟩ := H
          refine e_iald (hY.t 16 rfl) (ixb_y (hY.n 16 rfl) g11) dX12_tryTold_71 ?_
          obtain rfl := Option.some.inj H
          exact z_iret rfl rfl dX12_tryTold_72 rfl rfl
        · replace H := of_ k6 H
          by_cases k7 : p2 = (3 : Int32)
          · replace H := ot k7 H
            refine e_tableIn (off := 54) (tgt := 73) dX12_tryTold_19 (by rw [k7]; decide) (by rw [k7]; decide) (by rw [k7]; rfl) (by decide) ?_
            refine g_aload_n dX12_tryTold_73 rfl rfl ?_
            refine e_getR (hY.t 0 rfl) flX12_62_13 dX12_tryTold_74 rfl (hY.r 16 rfl) ?_
            refine e_iload_n dX12_tryTold_77 rfl ?_
            replace H := og H; obtain ⟨g10, H⟩ := H
            refine e_iald (hY.t 17 rfl) (ixb_y (hY.n 17 rfl) g10) dX12_tryTold_78 ?_
            obtain rfl := Option.some.inj H
            exact z_iret rfl rfl dX12_tryTold_79 rfl rfl
          · replace H := of_ k7 H
            by_cases k8 : p2 = (4 : Int32)
            · replace H := ot k8 H
              refine e_tableIn (off := 61) (tgt := 80) dX12_tryTold_19 (by rw [k8]; decide) (by rw [k8]; decide) (by rw [k8]; rfl) (by decide) ?_
              refine g_aload_n dX12_tryTold_80 rfl rfl ?_
              refine e_getR (hY.t 0 rfl) flX12_65_13 dX12_tryTold_81 rfl (hY.r 17 rfl) ?_
              refine e_iload_n dX12_tryTold_84 rfl ?_
              replace H := og H; obtain ⟨g9, H⟩ := H
              refine e_iald (hY.t 18 rfl) (ixb_y (hY.n 18 rfl) g9) dX12_tryTold_85 ?_
              obtain rfl := Option.some.inj H
              exact z_iret rfl rfl dX12_tryTold_86 rfl rfl
            · replace H := of_ k8 H
              refine e_tableOut (tgt := 87) dX12_tryTold_19 (by have q0 : p2.toInt ≠ 0 := i32_ne k4; have q1 : p2.toInt ≠ 1 := i32_ne k5; have q2 : p2.toInt ≠ 2 := i32_ne k6; have q3 : p2.toInt ≠ 3 := i32_ne k7; have q4 : p2.toInt ≠ 4 := i32_ne k8; omega) (by decide) ?_
              refine e_iconst (v := (-1 : Int32)) dX12_tryTold_87 (by decide) ?_
              obtain rfl := Option.some.inj H
              exact z_iret rfl rfl dX12_tryTold_88 rfl rfl
  · replace H := of_ (nb c3) H
    refine e_iconst (v := (-1 : Int32)) dX12_tryTold_16 (by decide) ?_
    obtain rfl := Option.some.inj H
    exact z_iret rfl rfl dX12_tryTold_17 rfl rfl
-- X12_setAll
def l_X12_setAll_45 (y1 : Int32) (y3 : Int32) (h : HS)  : Nat → Int64 → Int32 → Int32 → Option Int64
  | 0, _, _, _ => none
  | n + 1, x4, x6, x7 => (if x7 < 0 then (some x4) else (if x6 ≤ 0 then (some x4) else (if ixb x7 60 = true then (if (hI h 74 x7.toNatClampNeg) = y1 then (if ixb y1 8 = true then (if ixb y1 8 = true then (if ixb y1 8 = true then (if ixb x7 60 = true then (if ixb x7 60 = true then (Option.bind (f_X12_winsOf (hI h 64 y1.toNatClampNeg) (hI h 65 y1.toNatClampNeg) (hI h 66 y1.toNatClampNeg) ((1 : Int32) - y3) (hI h 75 x7.toNatClampNeg) (hI h 76 x7.toNatClampNeg) h) (fun q35 => (if ixb x7 60 = true then (if (hI h 77 x7.toNatClampNeg) = (1 : Int32) then (l_X12_setAll_45 y1 y3 h n (x4 * q35.toInt64) (x6 + (-1 : Int32)) (x7 + (-1 : Int32))) else (if ixb x7 60 = true then (Option.bind (f_X12_allOf (hI h 75 x7.toNatClampNeg) h) (fun q40 => (l_X12_setAll_45 y1 y3 h n (x4 * (q40 - q35).toInt64) (x6 + (-1 : Int32)) (x7 + (-1 : Int32))))) else none)) else none))) else none) else none) else none) else none) else none) else (l_X12_setAll_45 y1 y3 h n x4 x6 (x7 + (-1 : Int32)))) else none)))
set_option maxHeartbeats 4000000 in
set_option maxRecDepth 20000 in
theorem w_X12_setAll_45 {G : GE} (d : Nat) {y1 : Int32} {y3 : Int32} {h : HS} {r : Option Value} {h' : HS} (hYTM : LY TM h) : ∀ (n : Nat) {x4 : Int64} {x6 : Int32} {x7 : Int32} {q : Int64}, l_X12_setAll_45 y1 y3 h n x4 x6 x7 = some q → En G (d + 4) miX12_setAll 156 [dum, dum, dum, dum, .long q, dum, dum, dum, dum] [] h r h' → En G (d + 4) miX12_setAll 45 [.ref 60, .int y1, dum, .int y3, .long x4, dum, .int x6, .int x7, dum] [] h r h' := by
  intro n
  induction n with
  | zero => intro x4 x6 x7 q H kE; exact nz H
  | succ n ih =>
    intro x4 x6 x7 q H kE
    unfold l_X12_setAll_45 at H
    refine e_iload dX12_setAll_45 rfl ?_
    refine e_if_lt (tgt := 156) dX12_setAll_47 (by decide) (fun c26 => ?_) (fun c26 => ?_)
    · replace H := ot c26 H
      obtain rfl := Option.some.inj H
      exact e_wk (lk0 (lk0 (lk1 (lk0 (lk1 (lk1 (lk0 (lk0 (lk1 lkn))))))))) kE
    · replace H := of_ c26 H
      refine e_iload dX12_setAll_50 rfl ?_
      refine e_if_le (tgt := 156) dX12_setAll_52 (by decide) (fun c27 => ?_) (fun c27 => ?_)
      · replace H := ot c27 H
        obtain rfl := Option.some.inj H
        exact e_wk (lk0 (lk0 (lk1 (lk0 (lk1 (lk1 (lk0 (lk0 (lk1 lkn))))))))) kE
      · replace H := of_ c27 H
        refine g_aload_n dX12_setAll_55 rfl rfl ?_
        refine e_getR (hYTM.t 0 rfl) flX12_53_13 dX12_setAll_56 rfl (hYTM.r 13 rfl) ?_
        refine e_iload dX12_setAll_59 rfl ?_
        replace H := og H; obtain ⟨g28, H⟩ := H
        refine e_iald (hYTM.t 14 rfl) (ixb_y (hYTM.n 14 rfl) g28) dX12_setAll_61 ?_
        refine e_iload_n dX12_setAll_62 rfl ?_
        refine e_icmp_eq (tgt := 69) dX12_setAll_63 (by decide) (fun c29 => ?_) (fun c29 => ?_)
        · replace H := ot c29 H
          refine g_aload_n dX12_setAll_69 rfl rfl ?_
          refine g_aload_n dX12_setAll_70 rfl rfl ?_
          refine e_getR (hYTM.t 0 rfl) flX12_23_13 dX12_setAll_71 rfl (hYTM.r 3 rfl) ?_
          refine e_iload_n dX12_setAll_74 rfl ?_
          replace H := og H; obtain ⟨g30, H⟩ := H
          refine e_iald (hYTM.t 4 rfl) (ixb_y (hYTM.n 4 rfl) g30) dX12_setAll_75 ?_
          refine g_aload_n dX12_setAll_76 rfl rfl ?_
          refine e_getR (hYTM.t 0 rfl) flX12_26_13 dX12_setAll_77 rfl (hYTM.r 4 rfl) ?_
          refine e_iload_n dX12_setAll_80 rfl ?_
          replace H := og H; obtain ⟨g31, H⟩ := H
          refine e_iald (hYTM.t 5 rfl) (ixb_y (hYTM.n 5 rfl) g31) dX12_setAll_81 ?_
          refine g_aload_n dX12_setAll_82 rfl rfl ?_
          refine e_getR (hYTM.t 0 rfl) flX12_29_13 dX12_setAll_83 rfl (hYTM.r 5 rfl) ?_
          refine e_iload_n dX12_setAll_86 rfl ?_
          replace H := og H; obtain ⟨g32, H⟩ := H
          refine e_iald (hYTM.t 6 rfl) (ixb_y (hYTM.n 6 rfl) g32) dX12_setAll_87 ?_
          refine e_iconst (v := (1 : Int32)) dX12_setAll_88 (by decide) ?_
          refine e_iload_n dX12_setAll_89 rfl ?_
          refine e_isub dX12_setAll_90 ?_
          refine g_aload_n dX12_setAll_91 rfl rfl ?_
          refine e_getR (hYTM.t 0 rfl) flX12_56_13 dX12_setAll_92 rfl (hYTM.r 14 rfl) ?_
          refine e_iload dX12_setAll_95 rfl ?_
          replace H := og H; obtain ⟨g33, H⟩ := H
          refine e_iald (hYTM.t 15 rfl) (ixb_y (hYTM.n 15 rfl) g33) dX12_setAll_97 ?_
          refine g_aload_n dX12_setAll_98 rfl rfl ?_
          refine e_getR (hYTM.t 0 rfl) flX12_59_13 dX12_setAll_99 rfl (hYTM.r 15 rfl) ?_
          refine e_iload dX12_setAll_102 rfl ?_
          replace H := og H; obtain ⟨g34, H⟩ := H
          refine e_iald (hYTM.t 16 rfl) (ixb_y (hYTM.n 16 rfl) g34) dX12_setAll_104 ?_
          replace H := ob H; obtain ⟨q35, c36, H⟩ := H
          refine v1 (hYTM.t 0 rfl) (by decide) rfl rfl lmX12_180 liX12_winsOf lvX12_X12_winsOf msX12_winsOf dX12_setAll_105 (t_X12_winsOf (d + 0) hYTM c36) rfl (Nat.le_of_ble_eq_true rfl) (Nat.le_refl _) ?_
          refine e_istore dX12_setAll_108 (Nat.le_of_ble_eq_true rfl) rfl rfl ?_
          refine e_lload dX12_setAll_110 rfl ?_
          refine g_aload_n dX12_setAll_112 rfl rfl ?_
          refine e_getR (hYTM.t 0 rfl) flX12_62_13 dX12_setAll_113 rfl (hYTM.r 16 rfl) ?_
          refine e_iload dX12_setAll_116 rfl ?_
          replace H := og H; obtain ⟨g37, H⟩ := H
          refine e_iald (hYTM.t 17 rfl) (ixb_y (hYTM.n 17 rfl) g37) dX12_setAll_118 ?_
          refine e_iconst (v := (1 : Int32)) dX12_setAll_119 (by decide) ?_
          refine e_icmp_ne (tgt := 129) dX12_setAll_120 (by decide) (fun c38 => ?_) (fun c38 => ?_)
          · replace H := of_ c38 H
            refine g_aload_n dX12_setAll_129 rfl rfl ?_
            refine g_aload_n dX12_setAll_130 rfl rfl ?_
            refine e_getR (hYTM.t 0 rfl) flX12_56_13 dX12_setAll_131 rfl (hYTM.r 14 rfl) ?_
            refine e_iload dX12_setAll_134 rfl ?_
            replace H := og H; obtain ⟨g39, H⟩ := H
            refine e_iald (hYTM.t 15 rfl) (ixb_y (hYTM.n 15 rfl) g39) dX12_setAll_136 ?_
            replace H := ob H; obtain ⟨q40, c41, H⟩ := H
            refine v1 (hYTM.t 0 rfl) (by decide) rfl rfl lmX12_197 liX12_allOf lvX12_X12_allOf msX12_allOf dX12_setAll_137 (t_X12_allOf (d + 3) hYTM c41) rfl (Nat.le_of_ble_eq_true rfl) (Nat.le_refl _) ?_
            refine e_iload dX12_setAll_140 rfl ?_
            refine e_isub dX12_setAll_142 ?_
            refine e_i2l dX12_setAll_143 ?_
            refine e_lmul dX12_setAll_144 ?_
            refine e_lstore dX12_setAll_145 (Nat.le_of_ble_eq_true rfl) rfl rfl ?_
            refine e_iinc dX12_setAll_147 rfl (ii_ (by decide : Int32.ofInt (-1) = (-1 : Int32))) (Nat.le_of_ble_eq_true rfl) rfl rfl ?_
            refine e_iinc dX12_setAll_150 rfl (ii_ (by decide : Int32.ofInt (-1) = (-1 : Int32))) (Nat.le_of_ble_eq_true rfl) rfl rfl ?_
            refine e_goto (tgt := 45) dX12_setAll_153 (by decide) ?_
            exact e_wk (lk1 (lk1 (lk1 (lk1 (lk1 (lk1 (lk1 (lk1 (lk0 lkn))))))))) (ih H kE)
          · replace H := ot c38 H
            refine e_iload dX12_setAll_123 rfl ?_
            refine e_i2l dX12_setAll_125 ?_
            refine e_goto (tgt := 144) dX12_setAll_126 (by decide) ?_
            refine e_lmul dX12_setAll_144 ?_
            refine e_lstore dX12_setAll_145 (Nat.le_of_ble_eq_true rfl) rfl rfl ?_
            refine e_iinc dX12_setAll_147 rfl (ii_ (by decide : Int32.ofInt (-1) = (-1 : Int32))) (Nat.le_of_ble_eq_true rfl) rfl rfl ?_
            refine e_iinc dX12_setAll_150 rfl (ii_ (by decide : Int32.ofInt (-1) = (-1 : Int32))) (Nat.le_of_ble_eq_true rfl) rfl rfl ?_
            refine e_goto (tgt := 45) dX12_setAll_153 (by decide) ?_
            exact e_wk (lk1 (lk1 (lk1 (lk1 (lk1 (lk1 (lk1 (lk1 (lk0 lkn))))))))) (ih H kE)
        · replace H := of_ c29 H
          refine e_goto (tgt := 150) dX12_setAll_66 (by decide) ?_
          refine e_iinc dX12_setAll_150 rfl (ii_ (by decide : Int32.ofInt (-1) = (-1 : Int32))) (Nat.le_of_ble_eq_true rfl) rfl rfl ?_
          refine e_goto (tgt := 45) dX12_setAll_153 (by decide) ?_
          exact e_wk (lk1 (lk1 (lk1 (lk1 (lk1 (lk1 (lk1 (lk1 (lk1 lkn))))))))) (ih H kE)
def f_X12_setAll (p1 : Int32) (p2 : Int32) (p3 : Int32) (h : HS) : Option Int64 := (Option.bind (f_X12_isStall p1 h) (fun q1 => (if q1 = true then (Option.bind (f_X12_in p2.toInt64 (1 : Int64) (8 : Int64)) (fun q4 => (if q4 = true then (Option.bind (f_X12_isPart p3) (fun q7 => (if q7 = true then (Option.bind (l_X12_setAll_45 p1 p3 h 1000 (1 : Int64) p2 ((hI h 60 25) - (1 : Int32))) (fun q42 => (some q42))) else (some (-4611686018427387904 : Int64))))) else (some (-4611686018427387904 : Int64))))) else (some (-4611686018427387904 : Int64)))))
set_option maxHeartbeats 4000000 in
set_option maxRecDepth 20000 in
theorem t_X12_setAll {G : GE} (d : Nat) {p1 : Int32} {p2 : Int32} {p3 : Int32} {h : HS} {q : Int64} (hY : LY TM h) (H : f_X12_setAll p1 p2 p3 h = some q) : CE G (d + 4) yX12_setAll miX12_setAll [.ref 60, .int p1, .int p2, .int p3] h (some (.long q)) (h) := by
  unfold f_X12_setAll at H
  refine ce_of rfl (by decide) (fun q => by first | rfl | cases q) (Nat.le_of_ble_eq_true rfl) rfl ?_
  refine g_aload_n dX12_setAll_0 rfl rfl ?_
  refine e_iload_n dX12_setAll_1 rfl ?_
  replace H := ob H; obtain ⟨q1, c2, H⟩ := H
  refine v1 (hY.t 0 rfl) (by decide) rfl rfl lmX12_142 liX12_isStall lvX12_X12_isStall msX12_isStall dX12_setAll_2 (t_X12_isStall (d + 2) hY c2) rfl (Nat.le_of_ble_eq_true rfl) (Nat.le_refl _) ?_
  refine e_ifB_eq (tgt := 27) dX12_setAll_5 (by decide) (fun c3 => ?_) (fun c3 => ?_)
  · replace H := of_ (nb c3) H
    refine e_ldc2 (v := (-4611686018427387904 : Int64)) lkX12_204 dX12_setAll_27 ?_
    obtain rfl := Option.some.inj H
    exact z_lret rfl dX12_setAll_30 rfl rfl
  · replace H := ot c3 H
    refine e_iload_n dX12_setAll_8 rfl ?_
    refine e_i2l dX12_setAll_9 ?_
    refine e_lconst (v := (1 : Int64)) dX12_setAll_10 (by decide) ?_
    refine e_ldc2 (v := (8 : Int64)) lkX12_240 dX12_setAll_11 ?_
    replace H := ob H; obtain ⟨q4, c5, H⟩ := H
    refine s1 lmX12_125 lsX12_in msX12_in dX12_setAll_14 (t_X12_in (d + 3) c5) rfl (Nat.le_of_ble_eq_true rfl) (Nat.le_refl _) ?_
    refine e_ifB_eq (tgt := 27) dX12_setAll_17 (by decide) (fun c6 => ?_) (fun c6 => ?_)
    · replace H := of_ (nb c6) H
      refine e_ldc2 (v := (-4611686018427387904 : Int64)) lkX12_204 dX12_setAll_27 ?_
      obtain rfl := Option.some.inj H
      exact z_lret rfl dX12_setAll_30 rfl rfl
    · replace H := ot c6 H
      refine e_iload_n dX12_setAll_20 rfl ?_
      replace H := ob H; obtain ⟨q7, c8, H⟩ := H
      refine s1 lmX12_190 lsX12_isPart msX12_isPart dX12_setAll_21 (t_X12_isPart (d + 2) c8) rfl (Nat.le_of_ble_eq_true rfl) (Nat.le_refl _) ?_
      refine e_ifB_ne (tgt := 31) dX12_setAll_24 (by decide) (fun c9 => ?_) (fun c9 => ?_)
      · replace H := ot c9 H
        refine e_lconst (v := (1 : Int64)) dX12_setAll_31 (by decide) ?_
        refine e_lstore dX12_setAll_32 (Nat.le_of_ble_eq_true rfl) rfl rfl ?_
        refine e_iload_n dX12_setAll_34 rfl ?_
        refine e_istore dX12_setAll_35 (Nat.le_of_ble_eq_true rfl) rfl rfl ?_
        refine g_aload_n dX12_setAll_37 rfl rfl ?_
        refine e_getI (hY.t 0 rfl) flX12_223_13 dX12_setAll_38 rfl ?_
        refine e_iconst (v := (1 : Int32)) dX12_setAll_41 (by decide) ?_
        refine e_isub dX12_setAll_42 ?_
        refine e_istore dX12_setAll_43 (Nat.le_of_ble_eq_true rfl) rfl rfl ?_
        replace H := ob H; obtain ⟨q42, c43, H⟩ := H
        refine e_wk (lk1 (lk1 (lk0 (lk1 (lk1 (lk1 (lk1 (lk1 (lk1 lkn))))))))) (w_X12_setAll_45 d hY 1000 c43 ?_)
        refine e_lload dX12_setAll_156 rfl ?_
        obtain rfl := Option.some.inj H
        exact z_lret rfl dX12_setAll_158 rfl rfl
      · replace H := of_ (nb c9) H
        refine e_ldc2 (v := (-4611686018427387904 : Int64)) lkX12_204 dX12_setAll_27 ?_
        obtain rfl := Option.some.inj H
        exact z_lret rfl dX12_setAll_30 rfl rfl
-- X12_worth
def f_X12_worth (p1 : Int32) (p2 : Int32) (p3 : Int32) (p4 : Int32) (p5 : Int32) (h : HS) : Option Int64 := (Option.bind (f_X12_isStall p1 h) (fun q1 => (if q1 = true then (Option.bind (f_X12_isHand p2 h) (fun q4 => (if q4 = true then (Option.bind (f_X12_isPlace p3) (fun q7 => (if q7 = true then (Option.bind (f_X12_in p4.toInt64 (0 : Int64) (1 : Int64)) (fun q10 => (if q10 = true then (Option.bind (f_X12_isPart p5) (fun q13 => (if q13 = true then (Option.bind (f_X12_winsAt p1 p2 p3 h) (fun q16 => (Option.bind (if p4 = 0 then (if ixb p1 8 = true then (some (hI h 68 p1.toNatClampNeg)) else none) else (if ixb p1 8 = true then (some (hI h 69 p1.toNatClampNeg)) else none)) (fun q19 => (if ixb p1 8 = true then (Option.bind (f_X12_allOf p2 h) (fun q25 => (Option.bind (f_X12_allOf p2 h) (fun q27 => (Option.bind (f_X12_lowest ((q16.toInt64 * q19.toInt64) - ((hI h 67 p1.toNatClampNeg).toInt64 * q25.toInt64)) q27.toInt64 p5) (fun q29 => (some q29))))))) else none))))) else (some (-4611686018427387904 : Int64))))) else (some (-4611686018427387904 : Int64))))) else (some (-4611686018427387904 : Int64))))) else (some (-4611686018427387904 : Int64))))) else (some (-4611686018427387904 : Int64)))))
set_option maxHeartbeats 4000000 in
set_option maxRecDepth 20000 in
theorem t_X12_worth {G : GE} (d : Nat) {p1 : Int32} {p2 : Int32} {p3 : Int32} {p4 : Int32} {p5 : Int32} {h : HS} {q : Int64} (hY : LY TM h) (H : f_X12_worth p1 p2 p3 p4 p5 h = some q) : CE G (d + 5) yX12_worth miX12_worth [.ref 60, .int p1, .int p2, .int p3, .int p4, .int p5] h (some (.long q)) (h) := by
  unfold f_X12_worth at H
  refine ce_of rfl (by decide) (fun q => by first | rfl | cases q) (Nat.le_of_ble_eq_true rfl) rfl ?_
  refine g_aload_n dX12_worth_0 rfl rfl ?_
  refine e_iload_n dX12_worth_1 rfl ?_
  replace H := ob H; obtain ⟨q1, c2, H⟩ := H
  refine v1 (hY.t 0 rfl) (by decide) rfl rfl lmX12_142 liX12_isStall lvX12_X12_isStall msX12_isStall dX12_worth_2 (t_X12_isStall (d + 3) hY c2) rfl (Nat.le_of_ble_eq_true rfl) (Nat.le_refl _) ?_
  refine e_ifB_eq (tgt := 42) dX12_worth_5 (by decide) (fun c3 => ?_) (fun c3 => ?_)
  · replace H := of_ (nb c3) H
    refine e_ldc2 (v := (-4611686018427387904 : Int64)) lkX12_204 dX12_worth_42 ?_
    obtain rfl := Option.some.inj H
    exact z_lret rfl dX12_worth_45 rfl rfl
  · replace H := ot c3 H
    refine g_aload_n dX12_worth_8 rfl rfl ?_
    refine e_iload_n dX12_worth_9 rfl ?_
    replace H := ob H; obtain ⟨q4, c5, H⟩ := H
    refine v1 (hY.t 0 rfl) (by decide) rfl rfl lmX12_187 liX12_isHand lvX12_X12_isHand msX12_isHand dX12_worth_10 (t_X12_isHand (d + 3) hY c5) rfl (Nat.le_of_ble_eq_true rfl) (Nat.le_refl _) ?_
    refine e_ifB_eq (tgt := 42) dX12_worth_13 (by decide) (fun c6 => ?_) (fun c6 => ?_)
    · replace H := of_ (nb c6) H
      refine e_ldc2 (v := (-4611686018427387904 : Int64)) lkX12_204 dX12_worth_42 ?_
      obtain rfl := Option.some.inj H
      exact z_lret rfl dX12_worth_45 rfl rfl
    · replace H := ot c6 H
      refine e_iload_n dX12_worth_16 rfl ?_
      replace H := ob H; obtain ⟨q7, c8, H⟩ := H
      refine s1 lmX12_134 lsX12_isPlace msX12_isPlace dX12_worth_17 (t_X12_isPlace (d + 4) c8) rfl (Nat.le_of_ble_eq_true rfl) (Nat.le_refl _) ?_
      refine e_ifB_eq (tgt := 42) dX12_worth_20 (by decide) (fun c9 => ?_) (fun c9 => ?_)
      · replace H := of_ (nb c9) H
        refine e_ldc2 (v := (-4611686018427387904 : Int64)) lkX12_204 dX12_worth_42 ?_
        obtain rfl := Option.some.inj H
        exact z_lret rfl dX12_worth_45 rfl rfl
      · replace H := ot c9 H
        refine e_iload dX12_worth_23 rfl ?_
        refine e_i2l dX12_worth_25 ?_
        refine e_lconst (v := (0 : Int64)) dX12_worth_26 (by decide) ?_
        refine e_lconst (v := (1 : Int64)) dX12_worth_27 (by decide) ?_
        replace H := ob H; obtain ⟨q10, c11, H⟩ := H
        refine s1 lmX12_125 lsX12_in msX12_in dX12_worth_28 (t_X12_in (d + 4) c11) rfl (Nat.le_of_ble_eq_true rfl) (Nat.le_refl _) ?_
        refine e_ifB_eq (tgt := 42) dX12_worth_31 (by decide) (fun c12 => ?_) (fun c12 => ?_)
        · replace H := of_ (nb c12) H
          refine e_ldc2 (v := (-4611686018427387904 : Int64)) lkX12_204 dX12_worth_42 ?_
          obtain rfl := Option.some.inj H
          exact z_lret rfl dX12_worth_45 rfl rfl
        · replace H := ot c12 H
          refine e_iload dX12_worth_34 rfl ?_
          replace H := ob H; obtain ⟨q13, c14, H⟩ := H
          refine s1 lmX12_190 lsX12_isPart msX12_isPart dX12_worth_36 (t_X12_isPart (d + 3) c14) rfl (Nat.le_of_ble_eq_true rfl) (Nat.le_refl _) ?_
          refine e_ifB_ne (tgt := 46) dX12_worth_39 (by decide) (fun c15 => ?_) (fun c15 => ?_)
          · replace H := ot c15 H
            refine g_aload_n dX12_worth_46 rfl rfl ?_
            refine e_iload_n dX12_worth_47 rfl ?_
            refine e_iload_n dX12_worth_48 rfl ?_
            refine e_iload_n dX12_worth_49 rfl ?_
            replace H := ob H; obtain ⟨q16, c17, H⟩ := H
            refine v1 (hY.t 0 rfl) (by decide) rfl rfl lmX12_193 liX12_winsAt lvX12_X12_winsAt msX12_winsAt dX12_worth_50 (t_X12_winsAt (d + 0) hY c17) rfl (Nat.le_of_ble_eq_true rfl) (Nat.le_refl _) ?_
            refine e_i2l dX12_worth_53 ?_
            refine e_lstore dX12_worth_54 (Nat.le_of_ble_eq_true rfl) rfl rfl ?_
            refine e_lload dX12_worth_56 rfl ?_
            refine e_iload dX12_worth_58 rfl ?_
            replace H := ob H; obtain ⟨q19, c23, H⟩ := H
            have k20 : En G (d + 5) miX12_worth 78 [.ref 60, .int p1, .int p2, dum, dum, .int p5, dum, dum] [.int q19, .long q16.toInt64] h (some (.long q)) (h) := by
              refine e_i2l dX12_worth_78 ?_
              refine e_lmul dX12_worth_79 ?_
              refine g_aload_n dX12_worth_80 rfl rfl ?_
              refine e_getR (hY.t 0 rfl) flX12_32_13 dX12_worth_81 rfl (hY.r 6 rfl) ?_
              refine e_iload_n dX12_worth_84 rfl ?_
              replace H := og H; obtain ⟨g24, H⟩ := H
              refine e_iald (hY.t 7 rfl) (ixb_y (hY.n 7 rfl) g24) dX12_worth_85 ?_
              refine e_i2l dX12_worth_86 ?_
              refine g_aload_n dX12_worth_87 rfl rfl ?_
              refine e_iload_n dX12_worth_88 rfl ?_
              replace H := ob H; obtain ⟨q25, c26, H⟩ := H
              refine v1 (hY.t 0 rfl) (by decide) rfl rfl lmX12_197 liX12_allOf lvX12_X12_allOf msX12_allOf dX12_worth_89 (t_X12_allOf (d + 4) hY c26) rfl (Nat.le_of_ble_eq_true rfl) (Nat.le_refl _) ?_
              refine e_i2l dX12_worth_92 ?_
              refine e_lmul dX12_worth_93 ?_
              refine e_lsub dX12_worth_94 ?_
              refine g_aload_n dX12_worth_95 rfl rfl ?_
              refine e_iload_n dX12_worth_96 rfl ?_
              replace H := ob H; obtain ⟨q27, c28, H⟩ := H
              refine v1 (hY.t 0 rfl) (by decide) rfl rfl lmX12_197 liX12_allOf lvX12_X12_allOf msX12_allOf dX12_worth_97 (t_X12_allOf (d + 4) hY c28) rfl (Nat.le_of_ble_eq_true rfl) (Nat.le_refl _) ?_
              refine e_i2l dX12_worth_100 ?_
              refine e_iload dX12_worth_101 rfl ?_
              replace H := ob H; obtain ⟨q29, c30, H⟩ := H
              refine s1 lmX12_200 lsX12_lowest msX12_lowest dX12_worth_103 (t_X12_lowest (d + 3) c30) rfl (Nat.le_of_ble_eq_true rfl) (Nat.le_refl _) ?_
              obtain rfl := Option.some.inj H
              exact z_lret rfl dX12_worth_106 rfl rfl
            replace H := c23
            refine e_if_ne (tgt := 72) dX12_worth_60 (by decide) (fun c18 => ?_) (fun c18 => ?_)
            · replace H := of_ c18 H
              refine g_aload_n dX12_worth_72 rfl rfl ?_
              refine e_getR (hY.t 0 rfl) flX12_38_13 dX12_worth_73 rfl (hY.r 8 rfl) ?_
              refine e_iload_n dX12_worth_76 rfl ?_
              replace H := og H; obtain ⟨g21, H⟩ := H
              refine e_iald (hY.t 9 rfl) (ixb_y (hY.n 9 rfl) g21) dX12_worth_77 ?_
              obtain rfl := Option.some.inj H
              exact e_wk (lk1 (lk1 (lk1 (lk0 (lk0 (lk1 (lk0 (lk1 lkn)))))))) k20
            · replace H := ot c18 H
              refine g_aload_n dX12_worth_63 rfl rfl ?_
              refine e_getR (hY.t 0 rfl) flX12_35_13 dX12_worth_64 rfl (hY.r 7 rfl) ?_
              refine e_iload_n dX12_worth_67 rfl ?_
              replace H := og H; obtain ⟨g22, H⟩ := H
              refine e_iald (hY.t 8 rfl) (ixb_y (hY.n 8 rfl) g22) dX12_worth_68 ?_
              refine e_goto (tgt := 78) dX12_worth_69 (by decide) ?_
              obtain rfl := Option.some.inj H
              exact e_wk (lk1 (lk1 (lk1 (lk0 (lk0 (lk1 (lk0 (lk1 lkn)))))))) k20
          · replace H := of_ (nb c15) H
            refine e_ldc2 (v := (-4611686018427387904 : Int64)) lkX12_204 dX12_worth_42 ?_
            obtain rfl := Option.some.inj H
            exact z_lret rfl dX12_worth_45 rfl rfl
-- X12_leaves
def l_X12_leaves_24 (y1 : Int32) (y2 : Int32)  : Nat → Int64 → Int32 → HS → Option (Int64 × HS)
  | 0, _, _, _ => none
  | n + 1, x3, x5, h => (if (hI h 60 14) ≤ x5 then (some (x3, h)) else (if ixb x5 8 = true then (Option.bind (f_X12_allOf y1 h) (fun q18 => (Option.bind (f_X12_bestAt x5 y1 h) (fun q20 => (if ixb x5 8 = true then (l_X12_leaves_24 y1 y2 n (x3 + (((hI h 67 x5.toNatClampNeg).toInt64 * q18.toInt64) - (q20.1.toInt64 * (hI q20.2 68 x5.toNatClampNeg).toInt64))) (x5 + (1 : Int32)) q20.2) else none))))) else none))
set_option maxHeartbeats 4000000 in
set_option maxRecDepth 20000 in
theorem p_X12_leaves_24 {y1 : Int32} {y2 : Int32} : ∀ (n : Nat) {x3 : Int64} {x5 : Int32} {h : HS} {q : (Int64 × HS)}, l_X12_leaves_24 y1 y2 n x3 x5 h = some q → Pr h q.2 := by
  intro n
  induction n with
  | zero => intro x3 x5 h q H; exact nz H
  | succ n ih =>
    intro x3 x5 h q H
    unfold l_X12_leaves_24 at H
    replace H := oi H; obtain ⟨c16, H⟩ | ⟨c16, H⟩ := H
    · obtain rfl := Option.some.inj H
      exact Pr.rf
    · replace H := og H; obtain ⟨g17, H⟩ := H
      replace H := ob H; obtain ⟨q18, c19, H⟩ := H
      replace H := ob H; obtain ⟨q20, c21, H⟩ := H
      have e22 := p_X12_bestAt c21
      replace H := og H; obtain ⟨g24, H⟩ := H
      exact e22.tr (ih H)
set_option maxHeartbeats 4000000 in
set_option maxRecDepth 20000 in
theorem w_X12_leaves_24 {G : GE} (d : Nat) {y1 : Int32} {y2 : Int32} {r : Option Value} {h' : HS}  : ∀ (n : Nat) {x3 : Int64} {x5 : Int32} {h : HS} {q : (Int64 × HS)}, LY TM h → l_X12_leaves_24 y1 y2 n x3 x5 h = some q → En G (d + 6) miX12_leaves 75 [.ref 60, .int y1, .int y2, .long q.1, dum, dum] [] q.2 r h' → En G (d + 6) miX12_leaves 24 [.ref 60, .int y1, .int y2, .long x3, dum, .int x5] [] h r h' := by
  intro n
  induction n with
  | zero => intro x3 x5 h q hYTM H kE; exact nz H
  | succ n ih =>
    intro x3 x5 h q hYTM H kE
    unfold l_X12_leaves_24 at H
    refine e_iload dX12_leaves_24 rfl ?_
    refine g_aload_n dX12_leaves_26 rfl rfl ?_
    refine e_getI (hYTM.t 0 rfl) flX12_122_13 dX12_leaves_27 rfl ?_
    refine e_icmp_ge (tgt := 75) dX12_leaves_30 (by decide) (fun c16 => ?_) (fun c16 => ?_)
    · replace H := ot c16 H
      obtain rfl := Option.some.inj H
      exact e_wk (lk1 (lk1 (lk1 (lk1 (lk1 (lk0 lkn)))))) kE
    · replace H := of_ c16 H
      refine e_lload_n dX12_leaves_33 rfl ?_
      refine g_aload_n dX12_leaves_34 rfl rfl ?_
      refine e_getR (hYTM.t 0 rfl) flX12_32_13 dX12_leaves_35 rfl (hYTM.r 6 rfl) ?_
      refine e_iload dX12_leaves_38 rfl ?_
      replace H := og H; obtain ⟨g17, H⟩ := H
      refine e_iald (hYTM.t 7 rfl) (ixb_y (hYTM.n 7 rfl) g17) dX12_leaves_40 ?_
      refine e_i2l dX12_leaves_41 ?_
      refine g_aload_n dX12_leaves_42 rfl rfl ?_
      refine e_iload_n dX12_leaves_43 rfl ?_
      replace H := ob H; obtain ⟨q18, c19, H⟩ := H
      refine v1 (hYTM.t 0 rfl) (by decide) rfl rfl lmX12_197 liX12_allOf lvX12_X12_allOf msX12_allOf dX12_leaves_44 (t_X12_allOf (d + 5) hYTM c19) rfl (Nat.le_of_ble_eq_true rfl) (Nat.le_refl _) ?_
      refine e_i2l dX12_leaves_47 ?_
      refine e_lmul dX12_leaves_48 ?_
      refine g_aload_n dX12_leaves_49 rfl rfl ?_
      refine e_iload dX12_leaves_50 rfl ?_
      refine e_iload_n dX12_leaves_52 rfl ?_
      replace H := ob H; obtain ⟨q20, c21, H⟩ := H
      refine v1 (hYTM.t 0 rfl) (by decide) rfl rfl lmX12_215 liX12_bestAt lvX12_X12_bestAt msX12_bestAt dX12_leaves_53 (t_X12_bestAt (d + 0) hYTM c21) rfl (Nat.le_of_ble_eq_true rfl) (Nat.le_refl _) ?_
      have e22 := p_X12_bestAt c21
      have hY23 := hYTM.pr okM e22
      refine e_i2l dX12_leaves_56 ?_
      refine g_aload_n dX12_leaves_57 rfl rfl ?_
      refine e_getR (hY23.t 0 rfl) flX12_35_13 dX12_leaves_58 rfl (hY23.r 7 rfl) ?_
      refine e_iload dX12_leaves_61 rfl ?_
      replace H := og H; obtain ⟨g24, H⟩ := H
      refine e_iald (hY23.t 8 rfl) (ixb_y (hY23.n 8 rfl) g24) dX12_leaves_63 ?_
      refine e_i2l dX12_leaves_64 ?_
      refine e_lmul dX12_leaves_65 ?_
      refine e_lsub dX12_leaves_66 ?_
      refine e_ladd dX12_leaves_67 ?_
      refine e_lstore_n dX12_leaves_68 (Nat.le_of_ble_eq_true rfl) rfl rfl ?_
      refine e_iinc dX12_leaves_69 rfl (ii_ (by decide : Int32.ofInt (1) = (1 : Int32))) (Nat.le_of_ble_eq_true rfl) rfl rfl ?_
      refine e_goto (tgt := 24) dX12_leaves_72 (by decide) ?_
      exact e_wk (lk1 (lk1 (lk1 (lk1 (lk1 (lk1 lkn)))))) (ih hY23 H kE)
def f_X12_leaves (p1 : Int32) (p2 : Int32) (h : HS) : Option (Int64 × HS) := (Option.bind (f_X12_isHand p1 h) (fun q1 => (if q1 = true then (Option.bind (f_X12_isPart p2) (fun q4 => (if q4 = true then (Option.bind (l_X12_leaves_24 p1 p2 1000 (0 : Int64) (0 : Int32) h) (fun q25 => (Option.bind (f_X12_allOf p1 q25.2) (fun q29 => (Option.bind (f_X12_lowest q25.1 q29.toInt64 p2) (fun q31 => (some (q31, q25.2)))))))) else (some ((-4611686018427387904 : Int64), h))))) else (some ((-4611686018427387904 : Int64), h)))))
set_option maxHeartbeats 4000000 in
set_option maxRecDepth 20000 in
theorem p_X12_leaves {p1 : Int32} {p2 : Int32} {h : HS} {q : (Int64 × HS)} (H : f_X12_leaves p1 p2 h = some q) : Pr h q.2 := by
  unfold f_X12_leaves at H
  replace H := ob H; obtain ⟨q1, c2, H⟩ := H
  replace H := oi H; obtain ⟨c3, H⟩ | ⟨c3, H⟩ := H
  · replace H := ob H; obtain ⟨q4, c5, H⟩ := H
    replace H := oi H; obtain ⟨c6, H⟩ | ⟨c6, H⟩ := H
    · replace H := ob H; obtain ⟨q25, c26, H⟩ := H
      have e27 := p_X12_leaves_24 1000 c26
      replace H := ob H; obtain ⟨q29, c30, H⟩ := H
      replace H := ob H; obtain ⟨q31, c32, H⟩ := H
      obtain rfl := Option.some.inj H
      exact e27
    · obtain rfl := Option.some.inj H
      exact Pr.rf
  · obtain rfl := Option.some.inj H
    exact Pr.rf
set_option maxHeartbeats 4000000 in
set_option maxRecDepth 20000 in
theorem t_X12_leaves {G : GE} (d : Nat) {p1 : Int32} {p2 : Int32} {h : HS} {q : (Int64 × HS)} (hY : LY TM h) (H : f_X12_leaves p1 p2 h = some q) : CE G (d + 6) yX12_leaves miX12_leaves [.ref 60, .int p1, .int p2] h (some (.long q.1)) (q.2) := by
  unfold f_X12_leaves at H
  refine ce_of rfl (by decide) (fun q => by first | rfl | cases q) (Nat.le_of_ble_eq_true rfl) rfl ?_
  refine g_aload_n dX12_leaves_0 rfl rfl ?_
  refine e_iload_n dX12_leaves_1 rfl ?_
  replace H := ob H; obtain ⟨q1, c2, H⟩ := H
  refine v1 (hY.t 0 rfl) (by decide) rfl rfl lmX12_187 liX12_isHand lvX12_X12_isHand msX12_isHand dX12_leaves_2 (t_X12_isHand (d + 4) hY c2) rfl (Nat.le_of_ble_eq_true rfl) (Nat.le_refl _) ?_
  refine e_ifB_eq (tgt := 15) dX12_leaves_5 (by decide) (fun c3 => ?_) (fun c3 => ?_)
  · replace H := of_ (nb c3) H
    refine e_ldc2 (v := (-4611686018427387904 : Int64)) lkX12_204 dX12_leaves_15 ?_
    obtain rfl := Option.some.inj H
    exact z_lret rfl dX12_leaves_18 rfl rfl
  · replace H := ot c3 H
    refine e_iload_n dX12_leaves_8 rfl ?_
    replace H := ob H; obtain ⟨q4, c5, H⟩ := H
    refine s1 lmX12_190 lsX12_isPart msX12_isPart dX12_leaves_9 (t_X12_isPart (d + 4) c5) rfl (Nat.le_of_ble_eq_true rfl) (Nat.le_refl _) ?_
    refine e_ifB_ne (tgt := 19) dX12_leaves_12 (by decide) (fun c6 => ?_) (fun c6 => ?_)
    · replace H := ot c6 H
      refine e_lconst (v := (0 : Int64)) dX12_leaves_19 (by decide) ?_
      refine e_lstore_n dX12_leaves_20 (Nat.le_of_ble_eq_true rfl) rfl rfl ?_
      refine e_iconst (v := (0 : Int32)) dX12_leaves_21 (by decide) ?_
      refine e_istore dX12_leaves_22 (Nat.le_of_ble_eq_true rfl) rfl rfl ?_
      replace H := ob H; obtain ⟨q25, c26, H⟩ := H
      have e27 := p_X12_leaves_24 1000 c26
      have hY28 := hY.pr okM e27
      refine e_wk (lk1 (lk1 (lk1 (lk1 (lk1 (lk1 lkn)))))) (w_X12_leaves_24 d 1000 hY c26 ?_)
      refine e_lload_n dX12_leaves_75 rfl ?_
      refine g_aload_n dX12_leaves_76 rfl rfl ?_
      refine e_iload_n dX12_leaves_77 rfl ?_
      replace H := ob H; obtain ⟨q29, c30, H⟩ := H
      refine v1 (hY28.t 0 rfl) (by decide) rfl rfl lmX12_197 liX12_allOf lvX12_X12_allOf msX12_allOf dX12_leaves_78 (t_X12_allOf (d + 5) hY28 c30) rfl (Nat.le_of_ble_eq_true rfl) (Nat.le_refl _) ?_
      refine e_i2l dX12_leaves_81 ?_
      refine e_iload_n dX12_leaves_82 rfl ?_
      replace H := ob H; obtain ⟨q31, c32, H⟩ := H
      refine s1 lmX12_200 lsX12_lowest msX12_lowest dX12_leaves_83 (t_X12_lowest (d + 4) c32) rfl (Nat.le_of_ble_eq_true rfl) (Nat.le_refl _) ?_
      obtain rfl := Option.some.inj H
      exact z_lret rfl dX12_leaves_86 rfl rfl
    · replace H := of_ (nb c6) H
      refine e_ldc2 (v := (-4611686018427387904 : Int64)) lkX12_204 dX12_leaves_15 ?_
      obtain rfl := Option.some.inj H
      exact z_lret rfl dX12_leaves_18 rfl rfl
-- X12_feed
def l_X12_feed_33 (y1 : Int32) (y2 : Int64)  : Nat → Int32 → HS → Option HS
  | 0, _, _ => none
  | n + 1, x4, h => (if y1 ≤ x4 then (some h) else (if ixb (hI h 60 6) 160 = true then (bh (sI (sI h 63 (hI h 60 6).toNatClampNeg ((y2 >>> (((8 : Int32) * x4).toInt64 &&& 63)) &&& (255 : Int64)).toInt32) 60 6 ((hI (sI h 63 (hI h 60 6).toNatClampNeg ((y2 >>> (((8 : Int32) * x4).toInt64 &&& 63)) &&& (255 : Int64)).toInt32) 60 6) + (1 : Int32))) (fun h12 => (l_X12_feed_33 y1 y2 n (x4 + (1 : Int32)) h12))) else none))
set_option maxHeartbeats 4000000 in
set_option maxRecDepth 20000 in
theorem p_X12_feed_33 {y1 : Int32} {y2 : Int64} : ∀ (n : Nat) {x4 : Int32} {h : HS} {q : HS}, l_X12_feed_33 y1 y2 n x4 h = some q → Pr h q := by
  intro n
  induction n with
  | zero => intro x4 h q H; exact nz H
  | succ n ih =>
    intro x4 h q H
    unfold l_X12_feed_33 at H
    replace H := oi H; obtain ⟨c10, H⟩ | ⟨c10, H⟩ := H
    · obtain rfl := Option.some.inj H
      exact Pr.rf
    · replace H := og H; obtain ⟨g11, H⟩ := H
      replace H := obh H; obtain ⟨h12, e13, H⟩ := H
      exact (kP e13 ((Pr.rf.sI).sI)).tr (ih H)
set_option maxHeartbeats 4000000 in
set_option maxRecDepth 20000 in
theorem w_X12_feed_33 {G : GE} (d : Nat) {y1 : Int32} {y2 : Int64} {r : Option Value} {h' : HS}  : ∀ (n : Nat) {x4 : Int32} {h : HS} {q : HS}, LY TM h → l_X12_feed_33 y1 y2 n x4 h = some q → En G (d + 1) miX12_feed 76 [.ref 60, dum, dum, dum, dum] [] q r h' → En G (d + 1) miX12_feed 33 [.ref 60, .int y1, .long y2, dum, .int x4] [] h r h' := by
  intro n
  induction n with
  | zero => intro x4 h q hYTM H kE; exact nz H
  | succ n ih =>
    intro x4 h q hYTM H kE
    unfold l_X12_feed_33 at H
    refine e_iload dX12_feed_33 rfl ?_
    refine e_iload_n dX12_feed_35 rfl ?_
    refine e_icmp_ge (tgt := 76) dX12_feed_36 (by decide) (fun c10 => ?_) (fun c10 => ?_)
    · replace H := ot c10 H
      obtain rfl := Option.some.inj H
      exact e_wk (lk1 (lk0 (lk0 (lk1 (lk0 lkn))))) kE
    · replace H := of_ c10 H
      refine g_aload_n dX12_feed_39 rfl rfl ?_
      refine e_getR (hYTM.t 0 rfl) flX12_20_13 dX12_feed_40 rfl (hYTM.r 2 rfl) ?_
      refine g_aload_n dX12_feed_43 rfl rfl ?_
      refine e_getI (hYTM.t 0 rfl) flX12_242_13 dX12_feed_44 rfl ?_
      refine e_lload_n dX12_feed_47 rfl ?_
      refine e_bipush (v := (8 : Int32)) dX12_feed_48 (by decide) ?_
      refine e_iload dX12_feed_50 rfl ?_
      refine e_imul dX12_feed_52 ?_
      refine e_lshr dX12_feed_53 ?_
      refine e_ldc2 (v := (255 : Int64)) lkX12_120 dX12_feed_54 ?_
      refine e_land dX12_feed_57 ?_
      refine e_l2i dX12_feed_58 ?_
      replace H := og H; obtain ⟨g11, H⟩ := H
      refine e_iast (hYTM.t 3 rfl) (ixb_y (hYTM.n 3 rfl) g11) dX12_feed_59 ?_
      refine g_aload_n dX12_feed_60 rfl rfl ?_
      refine e_dup dX12_feed_61 rfl ?_
      refine e_getI ((hYTM.sI).t 0 rfl) flX12_242_13 dX12_feed_62 rfl ?_
      refine e_iconst (v := (1 : Int32)) dX12_feed_65 (by decide) ?_
      refine e_iadd dX12_feed_66 ?_
      refine e_putI ((hYTM.sI).t 0 rfl) fpX12_242_13 rfl dX12_feed_67 ?_
      replace H := obh H; obtain ⟨h12, e13, H⟩ := H
      refine e_hq e13 ?_
      have hY14 := kY e13 ((hYTM.sI).sI)
      refine e_iinc dX12_feed_70 rfl (ii_ (by decide : Int32.ofInt (1) = (1 : Int32))) (Nat.le_of_ble_eq_true rfl) rfl rfl ?_
      refine e_goto (tgt := 33) dX12_feed_73 (by decide) ?_
      exact e_wk (lk1 (lk1 (lk1 (lk1 (lk1 lkn))))) (ih hY14 H kE)
def f_X12_feed (p1 : Int32) (p2 : Int64) (h : HS) : Option (Int32 × HS) := (Option.bind (f_X12_in p1.toInt64 (1 : Int64) (8 : Int64)) (fun q1 => (if q1 = true then (if ((hI h 60 6) + p1) ≤ (160 : Int32) then (Option.bind (l_X12_feed_33 p1 p2 1000 (0 : Int32) h) (fun q15 => (some ((hI q15 60 6), q15)))) else (some ((-4 : Int32), h))) else (some ((-2 : Int32), h)))))
set_option maxHeartbeats 4000000 in
set_option maxRecDepth 20000 in
theorem p_X12_feed {p1 : Int32} {p2 : Int64} {h : HS} {q : (Int32 × HS)} (H : f_X12_feed p1 p2 h = some q) : Pr h q.2 := by
  unfold f_X12_feed at H
  replace H := ob H; obtain ⟨q1, c2, H⟩ := H
  replace H := oi H; obtain ⟨c3, H⟩ | ⟨c3, H⟩ := H
  · replace H := oi H; obtain ⟨c4, H⟩ | ⟨c4, H⟩ := H
    · replace H := ob H; obtain ⟨q15, c16, H⟩ := H
      have e17 := p_X12_feed_33 1000 c16
      obtain rfl := Option.some.inj H
      exact e17
    · obtain rfl := Option.some.inj H
      exact Pr.rf
  · obtain rfl := Option.some.inj H
    exact Pr.rf
set_option maxHeartbeats 4000000 in
set_option maxRecDepth 20000 in
theorem t_X12_feed {G : GE} (d : Nat) {p1 : Int32} {p2 : Int64} {h : HS} {q : (Int32 × HS)} (hY : LY TM h) (H : f_X12_feed p1 p2 h = some q) : CE G (d + 1) yX12_feed miX12_feed [.ref 60, .int p1, .long p2] h (some (.int q.1)) (q.2) := by
  unfold f_X12_feed at H
  refine ce_of rfl (by decide) (fun q => by first | rfl | cases q) (Nat.le_of_ble_eq_true rfl) rfl ?_
  refine e_iload_n dX12_feed_0 rfl ?_
  refine e_i2l dX12_feed_1 ?_
  refine e_lconst (v := (1 : Int64)) dX12_feed_2 (by decide) ?_
  refine e_ldc2 (v := (8 : Int64)) lkX12_240 dX12_feed_3 ?_
  replace H := ob H; obtain ⟨q1, c2, H⟩ := H
  refine s1 lmX12_125 lsX12_in msX12_in dX12_feed_6 (t_X12_in (d + 0) c2) rfl (Nat.le_of_ble_eq_true rfl) (Nat.le_refl _) ?_
  refine e_ifB_ne (tgt := 15) dX12_feed_9 (by decide) (fun c3 => ?_) (fun c3 => ?_)
  · replace H := ot c3 H
    refine g_aload_n dX12_feed_15 rfl rfl ?_
    refine e_getI (hY.t 0 rfl) flX12_242_13 dX12_feed_16 rfl ?_
    refine e_iload_n dX12_feed_19 rfl ?_
    refine e_iadd dX12_feed_20 ?_
    refine e_sipush (v := (160 : Int32)) dX12_feed_21 (by decide) ?_
    refine e_icmp_le (tgt := 30) dX12_feed_24 (by decide) (fun c4 => ?_) (fun c4 => ?_)
    · replace H := ot c4 H
      refine e_iconst (v := (0 : Int32)) dX12_feed_30 (by decide) ?_
      refine e_istore dX12_feed_31 (Nat.le_of_ble_eq_true rfl) rfl rfl ?_
      replace H := ob H; obtain ⟨q15, c16, H⟩ := H
      have e17 := p_X12_feed_33 1000 c16
      have hY18 := hY.pr okM e17
      refine e_wk (lk1 (lk1 (lk1 (lk1 (lk1 lkn))))) (w_X12_feed_33 d 1000 hY c16 ?_)
      refine g_aload_n dX12_feed_76 rfl rfl ?_
      refine e_getI (hY18.t 0 rfl) flX12_242_13 dX12_feed_77 rfl ?_
      obtain rfl := Option.some.inj H
      exact z_iret rfl rfl dX12_feed_80 rfl rfl
    · replace H := of_ c4 H
      refine e_bipush (v := (-4 : Int32)) dX12_feed_27 (by decide) ?_
      obtain rfl := Option.some.inj H
      exact z_iret rfl rfl dX12_feed_29 rfl rfl
  · replace H := of_ (nb c3) H
    refine e_bipush (v := (-2 : Int32)) dX12_feed_12 (by decide) ?_
    obtain rfl := Option.some.inj H
    exact z_iret rfl rfl dX12_feed_14 rfl rfl
-- X12_text
def l_X12_text_14  : Nat → Int32 → HS → Option HS
  | 0, _, _ => none
  | n + 1, x1, h => (if (hI h 60 6) ≤ x1 then (some h) else (if ixb x1 160 = true then (if ixb (((160 : Int32) * (hI h 60 3)) + x1) 960 = true then (l_X12_text_14  n (x1 + (1 : Int32)) (sI h 61 (((160 : Int32) * (hI h 60 3)) + x1).toNatClampNeg (hI h 63 x1.toNatClampNeg))) else none) else none))
set_option maxHeartbeats 4000000 in
set_option maxRecDepth 20000 in
theorem p_X12_text_14  : ∀ (n : Nat) {x1 : Int32} {h : HS} {q : HS}, l_X12_text_14  n x1 h = some q → Pr h q := by
  intro n
  induction n with
  | zero => intro x1 h q H; exact nz H
  | succ n ih =>
    intro x1 h q H
    unfold l_X12_text_14 at H
    replace H := oi H; obtain ⟨c5, H⟩ | ⟨c5, H⟩ := H
    · obtain rfl := Option.some.inj H
      exact Pr.rf
    · replace H := og H; obtain ⟨g6, H⟩ := H
      replace H := og H; obtain ⟨g7, H⟩ := H
      exact (Pr.rf.sI).tr (ih H)
set_option maxHeartbeats 4000000 in
set_option maxRecDepth 20000 in
theorem w_X12_text_14 {G : GE} (d : Nat)  {r : Option Value} {h' : HS}  : ∀ (n : Nat) {x1 : Int32} {h : HS} {q : HS}, LY TM h → l_X12_text_14  n x1 h = some q → En G (d + 65) miX12_text 49 [.ref 60, dum] [] q r h' → En G (d + 65) miX12_text 14 [.ref 60, .int x1] [] h r h' := by
  intro n
  induction n with
  | zero => intro x1 h q hYTM H kE; exact nz H
  | succ n ih =>
    intro x1 h q hYTM H kE
    unfold l_X12_text_14 at H
    refine e_iload_n dX12_text_14 rfl ?_
    refine g_aload_n dX12_text_15 rfl rfl ?_
    refine e_getI (hYTM.t 0 rfl) flX12_242_13 dX12_text_16 rfl ?_
    refine e_icmp_ge (tgt := 49) dX12_text_19 (by decide) (fun c5 => ?_) (fun c5 => ?_)
    · replace H := ot c5 H
      obtain rfl := Option.some.inj H
      exact e_wk (lk1 (lk0 lkn)) kE
    · replace H := of_ c5 H
      refine g_aload_n dX12_text_22 rfl rfl ?_
      refine e_getR (hYTM.t 0 rfl) flX12_13_13 dX12_text_23 rfl (hYTM.r 0 rfl) ?_
      refine e_sipush (v := (160 : Int32)) dX12_text_26 (by decide) ?_
      refine g_aload_n dX12_text_29 rfl rfl ?_
      refine e_getI (hYTM.t 0 rfl) flX12_117_13 dX12_text_30 rfl ?_
      refine e_imul dX12_text_33 ?_
      refine e_iload_n dX12_text_34 rfl ?_
      refine e_iadd dX12_text_35 ?_
      refine g_aload_n dX12_text_36 rfl rfl ?_
      refine e_getR (hYTM.t 0 rfl) flX12_20_13 dX12_text_37 rfl (hYTM.r 2 rfl) ?_
      refine e_iload_n dX12_text_40 rfl ?_
      replace H := og H; obtain ⟨g6, H⟩ := H
      refine e_iald (hYTM.t 3 rfl) (ixb_y (hYTM.n 3 rfl) g6) dX12_text_41 ?_
      replace H := og H; obtain ⟨g7, H⟩ := H
      refine e_iast (hYTM.t 1 rfl) (ixb_y (hYTM.n 1 rfl) g7) dX12_text_42 ?_
      refine e_iinc dX12_text_43 rfl (ii_ (by decide : Int32.ofInt (1) = (1 : Int32))) (Nat.le_of_ble_eq_true rfl) rfl rfl ?_
      refine e_goto (tgt := 14) dX12_text_46 (by decide) ?_
      exact e_wk (lk1 (lk1 lkn)) (ih (hYTM.sI) H kE)
def f_X12_text  (h : HS) : Option (Int32 × HS) := (if (hI h 60 3) = (6 : Int32) then (some ((-4 : Int32), h)) else (Option.bind (l_X12_text_14  1000 (0 : Int32) h) (fun q8 => (if ixb (hI q8 60 3) 6 = true then (Option.bind (f_X12_read (hI (sI (sI q8 62 (hI q8 60 3).toNatClampNeg (hI q8 60 6)) 60 6 (0 : Int32)) 60 3) (0 : Int32) (0 : Int32) (0 : Int32) (0 : Int32) (0 : Int32) (sI (sI q8 62 (hI q8 60 3).toNatClampNeg (hI q8 60 6)) 60 6 (0 : Int32))) (fun q13 => (if (hI q13.2 60 33) = 0 then (some (((hI (sI q13.2 60 3 ((hI q13.2 60 3) + (1 : Int32))) 60 3) - (1 : Int32)), (sI q13.2 60 3 ((hI q13.2 60 3) + (1 : Int32))))) else (some (((-100 : Int32) - (hI q13.2 60 34)), q13.2))))) else none))))
set_option maxHeartbeats 4000000 in
set_option maxRecDepth 20000 in
theorem p_X12_text  {h : HS} {q : (Int32 × HS)} (H : f_X12_text h = some q) : Pr h q.2 := by
  unfold f_X12_text at H
  replace H := oi H; obtain ⟨c1, H⟩ | ⟨c1, H⟩ := H
  · obtain rfl := Option.some.inj H
    exact Pr.rf
  · replace H := ob H; obtain ⟨q8, c9, H⟩ := H
    have e10 := p_X12_text_14 1000 c9
    replace H := og H; obtain ⟨g12, H⟩ := H
    replace H := ob H; obtain ⟨q13, c14, H⟩ := H
    have e15 := p_X12_read c14
    replace H := oi H; obtain ⟨c17, H⟩ | ⟨c17, H⟩ := H
    · obtain rfl := Option.some.inj H
      exact ((((e10.sI).sI).tr e15).sI)
    · obtain rfl := Option.some.inj H
      exact (((e10.sI).sI).tr e15)
set_option maxHeartbeats 4000000 in
set_option maxRecDepth 20000 in
theorem t_X12_text {G : GE} (d : Nat)  {h : HS} {q : (Int32 × HS)} (hY : LY TM h) (H : f_X12_text h = some q) : CE G (d + 65) yX12_text miX12_text [.ref 60] h (some (.int q.1)) (q.2) := by
  unfold f_X12_text at H
  refine ce_of rfl (by decide) (fun q => by first | rfl | cases q) (Nat.le_of_ble_eq_true rfl) rfl ?_
  refine g_aload_n dX12_text_0 rfl rfl ?_
  refine e_getI (hY.t 0 rfl) flX12_117_13 dX12_text_1 rfl ?_
  refine e_bipush (v := (6 : Int32)) dX12_text_4 (by decide) ?_
  refine e_icmp_ne (tgt := 12) dX12_text_6 (by decide) (fun c1 => ?_) (fun c1 => ?_)
  · replace H := of_ c1 H
    refine e_iconst (v := (0 : Int32)) dX12_text_12 (by decide) ?_
    refine e_istore_n dX12_text_13 (Nat.le_of_ble_eq_true rfl) rfl rfl ?_
    replace H := ob H; obtain ⟨q8, c9, H⟩ := H
    have e10 := p_X12_text_14 1000 c9
    have hY11 := hY.pr okM e10
    refine e_wk (lk1 (lk1 lkn)) (w_X12_text_14 d 1000 hY c9 ?_)
    refine g_aload_n dX12_text_49 rfl rfl ?_
    refine e_getR (hY11.t 0 rfl) flX12_17_13 dX12_text_50 rfl (hY11.r 1 rfl) ?_
    refine g_aload_n dX12_text_53 rfl rfl ?_
    refine e_getI (hY11.t 0 rfl) flX12_117_13 dX12_text_54 rfl ?_
    refine g_aload_n dX12_text_57 rfl rfl ?_
    refine e_getI (hY11.t 0 rfl) flX12_242_13 dX12_text_58 rfl ?_
    replace H := og H; obtain ⟨g12, H⟩ := H
    refine e_iast (hY11.t 2 rfl) (ixb_y (hY11.n 2 rfl) g12) dX12_text_61 ?_
    refine g_aload_n dX12_text_62 rfl rfl ?_
    refine e_iconst (v := (0 : Int32)) dX12_text_63 (by decide) ?_
    refine e_putI ((hY11.sI).t 0 rfl) fpX12_242_13 rfl dX12_text_64 ?_
    refine g_aload_n dX12_text_67 rfl rfl ?_
    refine g_aload_n dX12_text_68 rfl rfl ?_
    refine e_getI (((hY11.sI).sI).t 0 rfl) flX12_117_13 dX12_text_69 rfl ?_
    refine e_iconst (v := (0 : Int32)) dX12_text_72 (by decide) ?_
    refine e_iconst (v := (0 : Int32)) dX12_text_73 (by decide) ?_
    refine e_iconst (v := (0 : Int32)) dX12_text_74 (by decide) ?_
    refine e_iconst (v := (0 : Int32)) dX12_text_75 (by decide) ?_
    refine e_iconst (v := (0 : Int32)) dX12_text_76 (by decide) ?_
    replace H := ob H; obtain ⟨q13, c14, H⟩ := H
    refine v1 (((hY11.sI).sI).t 0 rfl) (by decide) rfl rfl lmX12_152 liX12_read lvX12_X12_read msX12_read dX12_text_77 (t_X12_read (d + 0) ((hY11.sI).sI) c14) rfl (Nat.le_of_ble_eq_true rfl) (Nat.le_refl _) ?_
    have e15 := p_X12_read c14
    have hY16 := ((hY11.sI).sI).pr okM e15
    refine e_istore_n dX12_text_80 (Nat.le_of_ble_eq_true rfl) rfl rfl ?_
    refine g_aload_n dX12_text_81 rfl rfl ?_
    refine e_getI (hY16.t 0 rfl) flX12_283_13 dX12_text_82 rfl ?_
    refine e_if_eq (tgt := 96) dX12_text_85 (by decide) (fun c17 => ?_) (fun c17 => ?_)
    · replace H := ot c17 H
      refine g_aload_n dX12_text_96 rfl rfl ?_
      refine e_dup dX12_text_97 rfl ?_
      refine e_getI (hY16.t 0 rfl) flX12_117_13 dX12_text_98 rfl ?_
      refine e_iconst (v := (1 : Int32)) dX12_text_101 (by decide) ?_
      refine e_iadd dX12_text_102 ?_
      refine e_putI (hY16.t 0 rfl) fpX12_117_13 rfl dX12_text_103 ?_
      refine g_aload_n dX12_text_106 rfl rfl ?_
      refine e_getI ((hY16.sI).t 0 rfl) flX12_117_13 dX12_text_107 rfl ?_
      refine e_iconst (v := (1 : Int32)) dX12_text_110 (by decide) ?_
      refine e_isub dX12_text_111 ?_
      obtain rfl := Option.some.inj H
      exact z_iret rfl rfl dX12_text_112 rfl rfl
    · replace H := of_ c17 H
      refine e_bipush (v := (-100 : Int32)) dX12_text_88 (by decide) ?_
      refine g_aload_n dX12_text_90 rfl rfl ?_
      refine e_getI (hY16.t 0 rfl) flX12_287_13 dX12_text_91 rfl ?_
      refine e_isub dX12_text_94 ?_
      obtain rfl := Option.some.inj H
      exact z_iret rfl rfl dX12_text_95 rfl rfl
  · replace H := ot c1 H
    refine e_bipush (v := (-4 : Int32)) dX12_text_9 (by decide) ?_
    obtain rfl := Option.some.inj H
    exact z_iret rfl rfl dX12_text_11 rfl rfl
-- X12_force
def f_X12_force (p1 : Int32) (h : HS) : Option (Int32 × HS) := (Option.bind (f_X12_in p1.toInt64 (0 : Int64) ((hI h 60 3) - (1 : Int32)).toInt64) (fun q1 => (if q1 = true then (some ((hI h 60 4), (sI h 60 4 p1))) else (some ((-2 : Int32), h)))))
set_option maxHeartbeats 4000000 in
set_option maxRecDepth 20000 in
theorem p_X12_force {p1 : Int32} {h : HS} {q : (Int32 × HS)} (H : f_X12_force p1 h = some q) : Pr h q.2 := by
  unfold f_X12_force at H
  replace H := ob H; obtain ⟨q1, c2, H⟩ := H
  replace H := oi H; obtain ⟨c3, H⟩ | ⟨c3, H⟩ := H
  · obtain rfl := Option.some.inj H
    exact (Pr.rf.sI)
  · obtain rfl := Option.some.inj H
    exact Pr.rf
set_option maxHeartbeats 4000000 in
set_option maxRecDepth 20000 in
theorem t_X12_force {G : GE} (d : Nat) {p1 : Int32} {h : HS} {q : (Int32 × HS)} (hY : LY TM h) (H : f_X12_force p1 h = some q) : CE G (d + 1) yX12_force miX12_force [.ref 60, .int p1] h (some (.int q.1)) (q.2) := by
  unfold f_X12_force at H
  refine ce_of rfl (by decide) (fun q => by first | rfl | cases q) (Nat.le_of_ble_eq_true rfl) rfl ?_
  refine e_iload_n dX12_force_0 rfl ?_
  refine e_i2l dX12_force_1 ?_
  refine e_lconst (v := (0 : Int64)) dX12_force_2 (by decide) ?_
  refine g_aload_n dX12_force_3 rfl rfl ?_
  refine e_getI (hY.t 0 rfl) flX12_117_13 dX12_force_4 rfl ?_
  refine e_iconst (v := (1 : Int32)) dX12_force_7 (by decide) ?_
  refine e_isub dX12_force_8 ?_
  refine e_i2l dX12_force_9 ?_
  replace H := ob H; obtain ⟨q1, c2, H⟩ := H
  refine s1 lmX12_125 lsX12_in msX12_in dX12_force_10 (t_X12_in (d + 0) c2) rfl (Nat.le_of_ble_eq_true rfl) (Nat.le_refl _) ?_
  refine e_ifB_ne (tgt := 19) dX12_force_13 (by decide) (fun c3 => ?_) (fun c3 => ?_)
  · replace H := ot c3 H
    refine g_aload_n dX12_force_19 rfl rfl ?_
    refine e_getI (hY.t 0 rfl) flX12_149_13 dX12_force_20 rfl ?_
    refine e_istore_n dX12_force_23 (Nat.le_of_ble_eq_true rfl) rfl rfl ?_
    refine g_aload_n dX12_force_24 rfl rfl ?_
    refine e_iload_n dX12_force_25 rfl ?_
    refine e_putI (hY.t 0 rfl) fpX12_149_13 rfl dX12_force_26 ?_
    refine e_iload_n dX12_force_29 rfl ?_
    obtain rfl := Option.some.inj H
    exact z_iret rfl rfl dX12_force_30 rfl rfl
  · replace H := of_ (nb c3) H
    refine e_bipush (v := (-2 : Int32)) dX12_force_16 (by decide) ?_
    obtain rfl := Option.some.inj H
    exact z_iret rfl rfl dX12_force_18 rfl rfl
-- X12_thousandths
def f_X12_thousandths (p1 : Int32) (p2 : Int32) (p3 : Int32) (h : HS) : Option Int32 := (Option.bind (f_X12_winsAt p1 p2 p3 h) (fun q1 => (Option.bind (f_X12_allOf p2 h) (fun q3 => (if ¬ q3 = 0 then (some (((1000 : Int32) * q1) / q3)) else none)))))
set_option maxHeartbeats 4000000 in
set_option maxRecDepth 20000 in
theorem t_X12_thousandths {G : GE} (d : Nat) {p1 : Int32} {p2 : Int32} {p3 : Int32} {h : HS} {q : Int32} (hY : LY TM h) (H : f_X12_thousandths p1 p2 p3 h = some q) : CE G (d + 5) yX12_thousandths miX12_thousandths [.ref 60, .int p1, .int p2, .int p3] h (some (.int q)) (h) := by
  unfold f_X12_thousandths at H
  refine ce_of rfl (by decide) (fun q => by first | rfl | cases q) (Nat.le_of_ble_eq_true rfl) rfl ?_
  refine e_sipush (v := (1000 : Int32)) dX12_thousandths_0 (by decide) ?_
  refine g_aload_n dX12_thousandths_3 rfl rfl ?_
  refine e_iload_n dX12_thousandths_4 rfl ?_
  refine e_iload_n dX12_thousandths_5 rfl ?_
  refine e_iload_n dX12_thousandths_6 rfl ?_
  replace H := ob H; obtain ⟨q1, c2, H⟩ := H
  refine v1 (hY.t 0 rfl) (by decide) rfl rfl lmX12_193 liX12_winsAt lvX12_X12_winsAt msX12_winsAt dX12_thousandths_7 (t_X12_winsAt (d + 0) hY c2) rfl (Nat.le_of_ble_eq_true rfl) (Nat.le_refl _) ?_
  refine e_imul dX12_thousandths_10 ?_
  refine g_aload_n dX12_thousandths_11 rfl rfl ?_
  refine e_iload_n dX12_thousandths_12 rfl ?_
  replace H := ob H; obtain ⟨q3, c4, H⟩ := H
  refine v1 (hY.t 0 rfl) (by decide) rfl rfl lmX12_197 liX12_allOf lvX12_X12_allOf msX12_allOf dX12_thousandths_13 (t_X12_allOf (d + 4) hY c4) rfl (Nat.le_of_ble_eq_true rfl) (Nat.le_refl _) ?_
  replace H := og H; obtain ⟨g5, H⟩ := H
  refine e_idiv dX12_thousandths_16 g5 ?_
  obtain rfl := Option.some.inj H
  exact z_iret rfl rfl dX12_thousandths_17 rfl rfl
-- X12_says
def f_X12_says (p1 : Int32) (p2 : Int32) (p3 : Int32) (p4 : Int32) (p5 : Int32) (h : HS) : Option (Int64 × HS) := (Option.bind (f_X12_isStall p1 h) (fun q1 => (if q1 = true then (Option.bind (f_X12_isHand p2 h) (fun q4 => (if q4 = true then (Option.bind (f_X12_isPlace p3) (fun q7 => (if q7 = true then (Option.bind (f_X12_in p4.toInt64 (0 : Int64) (1 : Int64)) (fun q10 => (if q10 = true then (Option.bind (f_X12_in p5.toInt64 (0 : Int64) (9999 : Int64)) (fun q13 => (if q13 = true then (Option.bind (f_X12_thousandths p1 p2 p3 h) (fun q16 => (Option.bind (if p4 = 0 then (some (p5 / (100 : Int32))) else (some (0 : Int32))) (fun q19 => (Option.bind (if p4 = 0 then (some (p5 - p5 / (100 : Int32) * (100 : Int32))) else (some (0 : Int32))) (fun q23 => (Option.bind (f_X12_read (hI h 60 4) p1 q16 q19 q23 p4 h) (fun q26 => (some (q26.1.toInt64, q26.2)))))))))) else (some ((-4611686018427387904 : Int64), h))))) else (some ((-4611686018427387904 : Int64), h))))) else (some ((-4611686018427387904 : Int64), h))))) else (some ((-4611686018427387904 : Int64), h))))) else (some ((-4611686018427387904 : Int64), h)))))
set_option maxHeartbeats 4000000 in
set_option maxRecDepth 20000 in
theorem p_X12_says {p1 : Int32} {p2 : Int32} {p3 : Int32} {p4 : Int32} {p5 : Int32} {h : HS} {q : (Int64 × HS)} (H : f_X12_says p1 p2 p3 p4 p5 h = some q) : Pr h q.2 := by
  unfold f_X12_says at H
  replace H := ob H; obtain ⟨q1, c2, H⟩ := H
  replace H := oi H; obtain ⟨c3, H⟩ | ⟨c3, H⟩ := H
  · replace H := ob H; obtain ⟨q4, c5, H⟩ := H
    replace H := oi H; obtain ⟨c6, H⟩ | ⟨c6, H⟩ := H
    · replace H := ob H; obtain ⟨q7, c8, H⟩ := H
      replace H := oi H; obtain ⟨c9, H⟩ | ⟨c9, H⟩ := H
      · replace H := ob H; obtain ⟨q10, c11, H⟩ := H
        replace H := oi H; obtain ⟨c12, H⟩ | ⟨c12, H⟩ := H
        · replace H := ob H; obtain ⟨q13, c14, H⟩ := H
          replace H := oi H; obtain ⟨c15, H⟩ | ⟨c15, H⟩ := H
          · replace H := ob H; obtain ⟨q16, c17, H⟩ := H
            replace H := ob H; obtain ⟨q19, c21, H⟩ := H
            replace H := ob H; obtain ⟨q23, c25, H⟩ := H
            replace H := ob H; obtain ⟨q26, c27, H⟩ := H
            have e28 := p_X12_read c27
            obtain rfl := Option.some.inj H
            exact e28
          · obtain rfl := Option.some.inj H
            exact Pr.rf
        · obtain rfl := Option.some.inj H
          exact Pr.rf
      · obtain rfl := Option.some.inj H
        exact Pr.rf
    · obtain rfl := Option.some.inj H
      exact Pr.rf
  · obtain rfl := Option.some.inj H
    exact Pr.rf
set_option maxHeartbeats 4000000 in
set_option maxRecDepth 20000 in
theorem t_X12_says {G : GE} (d : Nat) {p1 : Int32} {p2 : Int32} {p3 : Int32} {p4 : Int32} {p5 : Int32} {h : HS} {q : (Int64 × HS)} (hY : LY TM h) (H : f_X12_says p1 p2 p3 p4 p5 h = some q) : CE G (d + 65) yX12_says miX12_says [.ref 60, .int p1, .int p2, .int p3, .int p4, .int p5] h (some (.long q.1)) (q.2) := by
  unfold f_X12_says at H
  refine ce_of rfl (by decide) (fun q => by first | rfl | cases q) (Nat.le_of_ble_eq_true rfl) rfl ?_
  refine g_aload_n dX12_says_0 rfl rfl ?_
  refine e_iload_n dX12_says_1 rfl ?_
  replace H := ob H; obtain ⟨q1, c2, H⟩ := H
  refine v1 (hY.t 0 rfl) (by decide) rfl rfl lmX12_142 liX12_isStall lvX12_X12_isStall msX12_isStall dX12_says_2 (t_X12_isStall (d + 63) hY c2) rfl (Nat.le_of_ble_eq_true rfl) (Nat.le_refl _) ?_
  refine e_ifB_eq (tgt := 47) dX12_says_5 (by decide) (fun c3 => ?_) (fun c3 => ?_)
  · replace H := of_ (nb c3) H
    refine e_ldc2 (v := (-4611686018427387904 : Int64)) lkX12_204 dX12_says_47 ?_
    obtain rfl := Option.some.inj H
    exact z_lret rfl dX12_says_50 rfl rfl
  · replace H := ot c3 H
    refine g_aload_n dX12_says_8 rfl rfl ?_
    refine e_iload_n dX12_says_9 rfl ?_
    replace H := ob H; obtain ⟨q4, c5, H⟩ := H
    refine v1 (hY.t 0 rfl) (by decide) rfl rfl lmX12_187 liX12_isHand lvX12_X12_isHand msX12_isHand dX12_says_10 (t_X12_isHand (d + 63) hY c5) rfl (Nat.le_of_ble_eq_true rfl) (Nat.le_refl _) ?_
    refine e_ifB_eq (tgt := 47) dX12_says_13 (by decide) (fun c6 => ?_) (fun c6 => ?_)
    · replace H := of_ (nb c6) H
      refine e_ldc2 (v := (-4611686018427387904 : Int64)) lkX12_204 dX12_says_47 ?_
      obtain rfl := Option.some.inj H
      exact z_lret rfl dX12_says_50 rfl rfl
    · replace H := ot c6 H
      refine e_iload_n dX12_says_16 rfl ?_
      replace H := ob H; obtain ⟨q7, c8, H⟩ := H
      refine s1 lmX12_134 lsX12_isPlace msX12_isPlace dX12_says_17 (t_X12_isPlace (d + 64) c8) rfl (Nat.le_of_ble_eq_true rfl) (Nat.le_refl _) ?_
      refine e_ifB_eq (tgt := 47) dX12_says_20 (by decide) (fun c9 => ?_) (fun c9 => ?_)
      · replace H := of_ (nb c9) H
        refine e_ldc2 (v := (-4611686018427387904 : Int64)) lkX12_204 dX12_says_47 ?_
        obtain rfl := Option.some.inj H
        exact z_lret rfl dX12_says_50 rfl rfl
      · replace H := ot c9 H
        refine e_iload dX12_says_23 rfl ?_
        refine e_i2l dX12_says_25 ?_
        refine e_lconst (v := (0 : Int64)) dX12_says_26 (by decide) ?_
        refine e_lconst (v := (1 : Int64)) dX12_says_27 (by decide) ?_
        replace H := ob H; obtain ⟨q10, c11, H⟩ := H
        refine s1 lmX12_125 lsX12_in msX12_in dX12_says_28 (t_X12_in (d + 64) c11) rfl (Nat.le_of_ble_eq_true rfl) (Nat.le_refl _) ?_
        refine e_ifB_eq (tgt := 47) dX12_says_31 (by decide) (fun c12 => ?_) (fun c12 => ?_)
        · replace H := of_ (nb c12) H
          refine e_ldc2 (v := (-4611686018427387904 : Int64)) lkX12_204 dX12_says_47 ?_
          obtain rfl := Option.some.inj H
          exact z_lret rfl dX12_says_50 rfl rfl
        · replace H := ot c12 H
          refine e_iload dX12_says_34 rfl ?_
          refine e_i2l dX12_says_36 ?_
          refine e_lconst (v := (0 : Int64)) dX12_says_37 (by decide) ?_
          refine e_ldc2 (v := (9999 : Int64)) lkX12_376 dX12_says_38 ?_
          replace H := ob H; obtain ⟨q13, c14, H⟩ := H
          refine s1 lmX12_125 lsX12_in msX12_in dX12_says_41 (t_X12_in (d + 64) c14) rfl (Nat.le_of_ble_eq_true rfl) (Nat.le_refl _) ?_
          refine e_ifB_ne (tgt := 51) dX12_says_44 (by decide) (fun c15 => ?_) (fun c15 => ?_)
          · replace H := ot c15 H
            refine g_aload_n dX12_says_51 rfl rfl ?_
            refine g_aload_n dX12_says_52 rfl rfl ?_
            refine e_getI (hY.t 0 rfl) flX12_149_13 dX12_says_53 rfl ?_
            refine e_iload_n dX12_says_56 rfl ?_
            refine g_aload_n dX12_says_57 rfl rfl ?_
            refine e_iload_n dX12_says_58 rfl ?_
            refine e_iload_n dX12_says_59 rfl ?_
            refine e_iload_n dX12_says_60 rfl ?_
            replace H := ob H; obtain ⟨q16, c17, H⟩ := H
            refine v1 (hY.t 0 rfl) (by decide) rfl rfl lmX12_378 liX12_thousandths lvX12_X12_thousandths msX12_thousandths dX12_says_61 (t_X12_thousandths (d + 59) hY c17) rfl (Nat.le_of_ble_eq_true rfl) (Nat.le_refl _) ?_
            refine e_iload dX12_says_64 rfl ?_
            replace H := ob H; obtain ⟨q19, c21, H⟩ := H
            have k20 : En G (d + 65) miX12_says 78 [dum, dum, dum, dum, .int p4, .int p5] [.int q19, .int q16, .int p1, .int (hI h 60 4), .ref 60] h (some (.long q.1)) (q.2) := by
              refine e_iload dX12_says_78 rfl ?_
              replace H := ob H; obtain ⟨q23, c25, H⟩ := H
              have k24 : En G (d + 65) miX12_says 92 [dum, dum, dum, dum, .int p4, dum] [.int q23, .int q19, .int q16, .int p1, .int (hI h 60 4), .ref 60] h (some (.long q.1)) (q.2) := by
                refine e_iload dX12_says_92 rfl ?_
                replace H := ob H; obtain ⟨q26, c27, H⟩ := H
                refine v1 (hY.t 0 rfl) (by decide) rfl rfl lmX12_152 liX12_read lvX12_X12_read msX12_read dX12_says_94 (t_X12_read (d + 0) hY c27) rfl (Nat.le_of_ble_eq_true rfl) (Nat.le_refl _) ?_
                have e28 := p_X12_read c27
                have hY29 := hY.pr okM e28
                refine e_i2l dX12_says_97 ?_
                obtain rfl := Option.some.inj H
                exact z_lret rfl dX12_says_98 rfl rfl
              replace H := c25
              refine e_if_ne (tgt := 91) dX12_says_80 (by decide) (fun c22 => ?_) (fun c22 => ?_)
              · replace H := of_ c22 H
                refine e_iconst (v := (0 : Int32)) dX12_says_91 (by decide) ?_
                obtain rfl := Option.some.inj H
                exact e_wk (lk1 (lk1 (lk1 (lk1 (lk1 (lk0 lkn)))))) k24
              · replace H := ot c22 H
                refine e_iload dX12_says_83 rfl ?_
                refine e_bipush (v := (100 : Int32)) dX12_says_85 (by decide) ?_
                refine e_irem dX12_says_87 (by decide) ?_
                refine e_goto (tgt := 92) dX12_says_88 (by decide) ?_
                obtain rfl := Option.some.inj H
                exact e_wk (lk1 (lk1 (lk1 (lk1 (lk1 (lk0 lkn)))))) k24
            replace H := c21
            refine e_if_ne (tgt := 77) dX12_says_66 (by decide) (fun c18 => ?_) (fun c18 => ?_)
            · replace H := of_ c18 H
              refine e_iconst (v := (0 : Int32)) dX12_says_77 (by decide) ?_
              obtain rfl := Option.some.inj H
              exact e_wk (lk0 (lk0 (lk0 (lk0 (lk1 (lk1 lkn)))))) k20
            · replace H := ot c18 H
              refine e_iload dX12_says_69 rfl ?_
              refine e_bipush (v := (100 : Int32)) dX12_says_71 (by decide) ?_
              refine e_idiv dX12_says_73 (by decide) ?_
              refine e_goto (tgt := 78) dX12_says_74 (by decide) ?_
              obtain rfl := Option.some.inj H
              exact e_wk (lk0 (lk0 (lk0 (lk0 (lk1 (lk1 lkn)))))) k20
          · replace H := of_ (nb c15) H
            refine e_ldc2 (v := (-4611686018427387904 : Int64)) lkX12_204 dX12_says_47 ?_
            obtain rfl := Option.some.inj H
            exact z_lret rfl dX12_says_50 rfl rfl
-- X12_plays
def l_X12_plays_32 (y1 : Int32) (y2 : Int32) (y3 : Int32) (y6 : Int32) (y7 : Int32)  : Nat → Int64 → HS → Option HS
  | 0, _, _ => none
  | n + 1, x8, h => (if ixb y1 8 = true then (if (hI h 60 41) < (hI h 67 y1.toNatClampNeg) then (some h) else (if (40 : Int32) ≤ (hI h 60 39) then (some h) else (Option.bind (f_X12_read (hI h 60 4) y1 y7 (hI h 60 40) (hI h 60 39) (0 : Int32) h) (fun q31 => (if q31.1 = 0 then (some q31.2) else (Option.bind (f_X12_lotOf x8) (fun q36 => (Option.bind (f_X12_wonBy y1 y2 y3 q36 q31.2) (fun q38 => (if (6 : Int32) ≤ (hI q31.2 60 39) then (if ixb y1 8 = true then (bh (sI (sI (sI q31.2 60 40 ((hI q31.2 60 40) + q38)) 60 39 ((hI (sI q31.2 60 40 ((hI q31.2 60 40) + q38)) 60 39) + (1 : Int32))) 60 41 ((hI (sI (sI q31.2 60 40 ((hI q31.2 60 40) + q38)) 60 39 ((hI (sI q31.2 60 40 ((hI q31.2 60 40) + q38)) 60 39) + (1 : Int32))) 60 41) - (hI (sI (sI q31.2 60 40 ((hI q31.2 60 40) + q38)) 60 39 ((hI (sI q31.2 60 40 ((hI q31.2 60 40) + q38)) 60 39) + (1 : Int32))) 67 y1.toNatClampNeg))) (fun h42 => (l_X12_plays_32 y1 y2 y3 y6 y7 n q36 h42))) else none) else (Option.bind (if ((y6 >>> ((hI q31.2 60 39) &&& 31)) &&& (1 : Int32)) = (1 : Int32) then (some (1 : Int32)) else (some q38)) (fun q46 => (if ixb y1 8 = true then (bh (sI (sI (sI q31.2 60 40 ((hI q31.2 60 40) + q46)) 60 39 ((hI (sI q31.2 60 40 ((hI q31.2 60 40) + q46)) 60 39) + (1 : Int32))) 60 41 ((hI (sI (sI q31.2 60 40 ((hI q31.2 60 40) + q46)) 60 39 ((hI (sI q31.2 60 40 ((hI q31.2 60 40) + q46)) 60 39) + (1 : Int32))) 60 41) - (hI (sI (sI q31.2 60 40 ((hI q31.2 60 40) + q46)) 60 39 ((hI (sI q31.2 60 40 ((hI q31.2 60 40) + q46)) 60 39) + (1 : Int32))) 67 y1.toNatClampNeg))) (fun h50 => (l_X12_plays_32 y1 y2 y3 y6 y7 n q36 h50))) else none))))))))))))) else none)
set_option maxHeartbeats 4000000 in
set_option maxRecDepth 20000 in
theorem p_X12_plays_32 {y1 : Int32} {y2 : Int32} {y3 : Int32} {y6 : Int32} {y7 : Int32} : ∀ (n : Nat) {x8 : Int64} {h : HS} {q : HS}, l_X12_plays_32 y1 y2 y3 y6 y7 n x8 h = some q → Pr h q := by
  intro n
  induction n with
  | zero => intro x8 h q H; exact nz H
  | succ n ih =>
    intro x8 h q H
    unfold l_X12_plays_32 at H
    replace H := og H; obtain ⟨g28, H⟩ := H
    replace H := oi H; obtain ⟨c29, H⟩ | ⟨c29, H⟩ := H
    · obtain rfl := Option.some.inj H
      exact Pr.rf
    · replace H := oi H; obtain ⟨c30, H⟩ | ⟨c30, H⟩ := H
      · obtain rfl := Option.some.inj H
        exact Pr.rf
      · replace H := ob H; obtain ⟨q31, c32, H⟩ := H
        have e33 := p_X12_read c32
        replace H := oi H; obtain ⟨c35, H⟩ | ⟨c35, H⟩ := H
        · obtain rfl := Option.some.inj H
          exact e33
        · replace H := ob H; obtain ⟨q36, c37, H⟩ := H
          replace H := ob H; obtain ⟨q38, c39, H⟩ := H
          replace H := oi H; obtain ⟨c40, H⟩ | ⟨c40, H⟩ := H
          · replace H := og H; obtain ⟨g41, H⟩ := H
            replace H := obh H; obtain ⟨h42, e43, H⟩ := H
            exact (kP e43 (((e33.sI).sI).sI)).tr (ih H)
          · replace H := ob H; obtain ⟨q46, c48, H⟩ := H
            replace H := og H; obtain ⟨g49, H⟩ := H
            replace H := obh H; obtain ⟨h50, e51, H⟩ := H
            exact (kP e51 (((e33.sI).sI).sI)).tr (ih H)
set_option maxHeartbeats 4000000 in
set_option maxRecDepth 20000 in
theorem w_X12_plays_32 {G : GE} (d : Nat) {y1 : Int32} {y2 : Int32} {y3 : Int32} {y6 : Int32} {y7 : Int32} {r : Option Value} {h' : HS}  : ∀ (n : Nat) {x8 : Int64} {h : HS} {q : HS}, LY TM h → l_X12_plays_32 y1 y2 y3 y6 y7 n x8 h = some q → En G (d + 65) miX12_plays 160 [dum, dum, dum, dum, dum, dum, dum, dum, dum, dum, dum] [] q r h' → En G (d + 65) miX12_plays 32 [.ref 60, .int y1, .int y2, .int y3, dum, dum, .int y6, .int y7, .long x8, dum, dum] [] h r h' := by
  intro n
  induction n with
  | zero => intro x8 h q hYTM H kE; exact nz H
  | succ n ih =>
    intro x8 h q hYTM H kE
    unfold l_X12_plays_32 at H
    refine g_aload_n dX12_plays_32 rfl rfl ?_
    refine e_getI (hYTM.t 0 rfl) flX12_387_13 dX12_plays_33 rfl ?_
    refine g_aload_n dX12_plays_36 rfl rfl ?_
    refine e_getR (hYTM.t 0 rfl) flX12_32_13 dX12_plays_37 rfl (hYTM.r 6 rfl) ?_
    refine e_iload_n dX12_plays_40 rfl ?_
    replace H := og H; obtain ⟨g28, H⟩ := H
    refine e_iald (hYTM.t 7 rfl) (ixb_y (hYTM.n 7 rfl) g28) dX12_plays_41 ?_
    refine e_icmp_lt (tgt := 160) dX12_plays_42 (by decide) (fun c29 => ?_) (fun c29 => ?_)
    · replace H := ot c29 H
      obtain rfl := Option.some.inj H
      exact e_wk (lk0 (lk0 (lk0 (lk0 (lk1 (lk1 (lk0 (lk0 (lk0 (lk1 (lk1 lkn))))))))))) kE
    · replace H := of_ c29 H
      refine g_aload_n dX12_plays_45 rfl rfl ?_
      refine e_getI (hYTM.t 0 rfl) flX12_381_13 dX12_plays_46 rfl ?_
      refine e_bipush (v := (40 : Int32)) dX12_plays_49 (by decide) ?_
      refine e_icmp_ge (tgt := 160) dX12_plays_51 (by decide) (fun c30 => ?_) (fun c30 => ?_)
      · replace H := ot c30 H
        obtain rfl := Option.some.inj H
        exact e_wk (lk0 (lk0 (lk0 (lk0 (lk1 (lk1 (lk0 (lk0 (lk0 (lk1 (lk1 lkn))))))))))) kE
      · replace H := of_ c30 H
        refine g_aload_n dX12_plays_54 rfl rfl ?_
        refine g_aload_n dX12_plays_55 rfl rfl ?_
        refine e_getI (hYTM.t 0 rfl) flX12_149_13 dX12_plays_56 rfl ?_
        refine e_iload_n dX12_plays_59 rfl ?_
        refine e_iload dX12_plays_60 rfl ?_
        refine g_aload_n dX12_plays_62 rfl rfl ?_
        refine e_getI (hYTM.t 0 rfl) flX12_384_13 dX12_plays_63 rfl ?_
        refine g_aload_n dX12_plays_66 rfl rfl ?_
        refine e_getI (hYTM.t 0 rfl) flX12_381_13 dX12_plays_67 rfl ?_
        refine e_iconst (v := (0 : Int32)) dX12_plays_70 (by decide) ?_
        replace H := ob H; obtain ⟨q31, c32, H⟩ := H
        refine v1 (hYTM.t 0 rfl) (by decide) rfl rfl lmX12_152 liX12_read lvX12_X12_read msX12_read dX12_plays_71 (t_X12_read (d + 0) hYTM c32) rfl (Nat.le_of_ble_eq_true rfl) (Nat.le_refl _) ?_
        have e33 := p_X12_read c32
        have hY34 := hYTM.pr okM e33
        refine e_if_eq (tgt := 160) dX12_plays_74 (by decide) (fun c35 => ?_) (fun c35 => ?_)
        · replace H := ot c35 H
          obtain rfl := Option.some.inj H
          exact e_wk (lk0 (lk0 (lk0 (lk0 (lk1 (lk1 (lk0 (lk0 (lk0 (lk1 (lk1 lkn))))))))))) kE
        · replace H := of_ c35 H
          refine e_lload dX12_plays_77 rfl ?_
          replace H := ob H; obtain ⟨q36, c37, H⟩ := H
          refine s1 lmX12_228 lsX12_lotOf msX12_lotOf dX12_plays_79 (t_X12_lotOf (d + 64) c37) rfl (Nat.le_of_ble_eq_true rfl) (Nat.le_refl _) ?_
          refine e_lstore dX12_plays_82 (Nat.le_of_ble_eq_true rfl) rfl rfl ?_
          refine g_aload_n dX12_plays_84 rfl rfl ?_
          refine e_iload_n dX12_plays_85 rfl ?_
          refine e_iload_n dX12_plays_86 rfl ?_
          refine e_iload_n dX12_plays_87 rfl ?_
          refine e_lload dX12_plays_88 rfl ?_
          replace H := ob H; obtain ⟨q38, c39, H⟩ := H
          refine v1 (hY34.t 0 rfl) (by decide) rfl rfl lmX12_232 liX12_wonBy lvX12_X12_wonBy msX12_wonBy dX12_plays_90 (t_X12_wonBy (d + 61) hY34 c39) rfl (Nat.le_of_ble_eq_true rfl) (Nat.le_refl _) ?_
          refine e_istore dX12_plays_93 (Nat.le_of_ble_eq_true rfl) rfl rfl ?_
          refine g_aload_n dX12_plays_95 rfl rfl ?_
          refine e_dup dX12_plays_96 rfl ?_
          refine e_getI (hY34.t 0 rfl) flX12_384_13 dX12_plays_97 rfl ?_
          refine g_aload_n dX12_plays_100 rfl rfl ?_
          refine e_getI (hY34.t 0 rfl) flX12_381_13 dX12_plays_101 rfl ?_
          refine e_bipush (v := (6 : Int32)) dX12_plays_104 (by decide) ?_
          refine e_icmp_ge (tgt := 126) dX12_plays_106 (by decide) (fun c40 => ?_) (fun c40 => ?_)
          · replace H := ot c40 H
            refine e_iload dX12_plays_126 rfl ?_
            refine e_iadd dX12_plays_128 ?_
            refine e_putI (hY34.t 0 rfl) fpX12_384_13 rfl dX12_plays_129 ?_
            refine g_aload_n dX12_plays_132 rfl rfl ?_
            refine e_dup dX12_plays_133 rfl ?_
            refine e_getI ((hY34.sI).t 0 rfl) flX12_381_13 dX12_plays_134 rfl ?_
            refine e_iconst (v := (1 : Int32)) dX12_plays_137 (by decide) ?_
            refine e_iadd dX12_plays_138 ?_
            refine e_putI ((hY34.sI).t 0 rfl) fpX12_381_13 rfl dX12_plays_139 ?_
            refine g_aload_n dX12_plays_142 rfl rfl ?_
            refine e_dup dX12_plays_143 rfl ?_
            refine e_getI (((hY34.sI).sI).t 0 rfl) flX12_387_13 dX12_plays_144 rfl ?_
            refine g_aload_n dX12_plays_147 rfl rfl ?_
            refine e_getR (((hY34.sI).sI).t 0 rfl) flX12_32_13 dX12_plays_148 rfl (((hY34.sI).sI).r 6 rfl) ?_
            refine e_iload_n dX12_plays_151 rfl ?_
            replace H := og H; obtain ⟨g41, H⟩ := H
            refine e_iald (((hY34.sI).sI).t 7 rfl) (ixb_y (((hY34.sI).sI).n 7 rfl) g41) dX12_plays_152 ?_
            refine e_isub dX12_plays_153 ?_
            refine e_putI (((hY34.sI).sI).t 0 rfl) fpX12_387_13 rfl dX12_plays_154 ?_
            replace H := obh H; obtain ⟨h42, e43, H⟩ := H
            refine e_hq e43 ?_
            have hY44 := kY e43 (((hY34.sI).sI).sI)
            refine e_goto (tgt := 32) dX12_plays_157 (by decide) ?_
            exact e_wk (lk1 (lk1 (lk1 (lk1 (lk1 (lk1 (lk1 (lk1 (lk1 (lk1 (lk0 lkn))))))))))) (ih hY44 H kE)
          · replace H := of_ c40 H
            refine e_iload dX12_plays_109 rfl ?_
            refine g_aload_n dX12_plays_111 rfl rfl ?_
            refine e_getI (hY34.t 0 rfl) flX12_381_13 dX12_plays_112 rfl ?_
            refine e_ishr dX12_plays_115 ?_
            refine e_iconst (v := (1 : Int32)) dX12_plays_116 (by decide) ?_
            refine e_iand dX12_plays_117 ?_
            refine e_iconst (v := (1 : Int32)) dX12_plays_118 (by decide) ?_
            replace H := ob H; obtain ⟨q46, c48, H⟩ := H
            have k47 : En G (d + 65) miX12_plays 128 [.ref 60, .int y1, .int y2, .int y3, dum, dum, .int y6, .int y7, .long q36, dum, dum] [.int q46, .int (hI q31.2 60 40), .ref 60] q31.2 r h' := by
              refine e_iadd dX12_plays_128 ?_
              refine e_putI (hY34.t 0 rfl) fpX12_384_13 rfl dX12_plays_129 ?_
              refine g_aload_n dX12_plays_132 rfl rfl ?_
              refine e_dup dX12_plays_133 rfl ?_
              refine e_getI ((hY34.sI).t 0 rfl) flX12_381_13 dX12_plays_134 rfl ?_
              refine e_iconst (v := (1 : Int32)) dX12_plays_137 (by decide) ?_
              refine e_iadd dX12_plays_138 ?_
              refine e_putI ((hY34.sI).t 0 rfl) fpX12_381_13 rfl dX12_plays_139 ?_
              refine g_aload_n dX12_plays_142 rfl rfl ?_
              refine e_dup dX12_plays_143 rfl ?_
              refine e_getI (((hY34.sI).sI).t 0 rfl) flX12_387_13 dX12_plays_144 rfl ?_
              refine g_aload_n dX12_plays_147 rfl rfl ?_
              refine e_getR (((hY34.sI).sI).t 0 rfl) flX12_32_13 dX12_plays_148 rfl (((hY34.sI).sI).r 6 rfl) ?_
              refine e_iload_n dX12_plays_151 rfl ?_
              replace H := og H; obtain ⟨g49, H⟩ := H
              refine e_iald (((hY34.sI).sI).t 7 rfl) (ixb_y (((hY34.sI).sI).n 7 rfl) g49) dX12_plays_152 ?_
              refine e_isub dX12_plays_153 ?_
              refine e_putI (((hY34.sI).sI).t 0 rfl) fpX12_387_13 rfl dX12_plays_154 ?_
              replace H := obh H; obtain ⟨h50, e51, H⟩ := H
              refine e_hq e51 ?_
              have hY52 := kY e51 (((hY34.sI).sI).sI)
              refine e_goto (tgt := 32) dX12_plays_157 (by decide) ?_
              exact e_wk (lk1 (lk1 (lk1 (lk1 (lk1 (lk1 (lk1 (lk1 (lk1 (lk1 (lk1 lkn))))))))))) (ih hY52 H kE)
            replace H := c48
            refine e_icmp_ne (tgt := 126) dX12_plays_119 (by decide) (fun c45 => ?_) (fun c45 => ?_)
            · replace H := of_ c45 H
              refine e_iload dX12_plays_126 rfl ?_
              obtain rfl := Option.some.inj H
              exact e_wk (lk1 (lk1 (lk1 (lk1 (lk1 (lk1 (lk1 (lk1 (lk1 (lk1 (lk0 lkn))))))))))) k47
            · replace H := ot c45 H
              refine e_iconst (v := (1 : Int32)) dX12_plays_122 (by decide) ?_
              refine e_goto (tgt := 128) dX12_plays_123 (by decide) ?_
              obtain rfl := Option.some.inj H
              exact e_wk (lk1 (lk1 (lk1 (lk1 (lk1 (lk1 (lk1 (lk1 (lk1 (lk1 (lk0 lkn))))))))))) k47
def f_X12_plays (p1 : Int32) (p2 : Int32) (p3 : Int32) (p4 : Int32) (p5 : Int32) (p6 : Int32) (h : HS) : Option HS := (Option.bind (f_X12_thousandths p1 p2 p3 h) (fun q1 => (Option.bind (l_X12_plays_32 p1 p2 p3 p6 q1 1000 (p4.toInt64 + (1 : Int64)) (sI (sI (sI h 60 39 (0 : Int32)) 60 40 (0 : Int32)) 60 41 p5)) (fun q53 => (some q53)))))
set_option maxHeartbeats 4000000 in
set_option maxRecDepth 20000 in
theorem p_X12_plays {p1 : Int32} {p2 : Int32} {p3 : Int32} {p4 : Int32} {p5 : Int32} {p6 : Int32} {h : HS} {q : HS} (H : f_X12_plays p1 p2 p3 p4 p5 p6 h = some q) : Pr h q := by
  unfold f_X12_plays at H
  replace H := ob H; obtain ⟨q1, c2, H⟩ := H
  replace H := ob H; obtain ⟨q53, c54, H⟩ := H
  have e55 := p_X12_plays_32 1000 c54
  obtain rfl := Option.some.inj H
  exact ((((Pr.rf.sI).sI).sI).tr e55)
set_option maxHeartbeats 4000000 in
set_option maxRecDepth 20000 in
theorem t_X12_plays {G : GE} (d : Nat) {p1 : Int32} {p2 : Int32} {p3 : Int32} {p4 : Int32} {p5 : Int32} {p6 : Int32} {h : HS} {q : HS} (hY : LY TM h) (H : f_X12_plays p1 p2 p3 p4 p5 p6 h = some q) : CE G (d + 65) yX12_plays miX12_plays [.ref 60, .int p1, .int p2, .int p3, .int p4, .int p5, .int p6] h (none) (q) := by
  unfold f_X12_plays at H
  refine ce_of rfl (by decide) (fun q => by first | rfl | cases q) (Nat.le_of_ble_eq_true rfl) rfl ?_
  refine g_aload_n dX12_plays_0 rfl rfl ?_
  refine e_iload_n dX12_plays_1 rfl ?_
  refine e_iload_n dX12_plays_2 rfl ?_
  refine e_iload_n dX12_plays_3 rfl ?_
  replace H := ob H; obtain ⟨q1, c2, H⟩ := H
  refine v1 (hY.t 0 rfl) (by decide) rfl rfl lmX12_378 liX12_thousandths lvX12_X12_thousandths msX12_thousandths dX12_plays_4 (t_X12_thousandths (d + 59) hY c2) rfl (Nat.le_of_ble_eq_true rfl) (Nat.le_refl _) ?_
  refine e_istore dX12_plays_7 (Nat.le_of_ble_eq_true rfl) rfl rfl ?_
  refine e_iload dX12_plays_9 rfl ?_
  refine e_i2l dX12_plays_11 ?_
  refine e_lconst (v := (1 : Int64)) dX12_plays_12 (by decide) ?_
  refine e_ladd dX12_plays_13 ?_
  refine e_lstore dX12_plays_14 (Nat.le_of_ble_eq_true rfl) rfl rfl ?_
  refine g_aload_n dX12_plays_16 rfl rfl ?_
  refine e_iconst (v := (0 : Int32)) dX12_plays_17 (by decide) ?_
  refine e_putI (hY.t 0 rfl) fpX12_381_13 rfl dX12_plays_18 ?_
  refine g_aload_n dX12_plays_21 rfl rfl ?_
  refine e_iconst (v := (0 : Int32)) dX12_plays_22 (by decide) ?_
  refine e_putI ((hY.sI).t 0 rfl) fpX12_384_13 rfl dX12_plays_23 ?_
  refine g_aload_n dX12_plays_26 rfl rfl ?_
  refine e_iload dX12_plays_27 rfl ?_
  refine e_putI (((hY.sI).sI).t 0 rfl) fpX12_387_13 rfl dX12_plays_29 ?_
  replace H := ob H; obtain ⟨q53, c54, H⟩ := H
  have e55 := p_X12_plays_32 1000 c54
  have hY56 := (((hY.sI).sI).sI).pr okM e55
  refine e_wk (lk1 (lk1 (lk1 (lk1 (lk0 (lk0 (lk1 (lk1 (lk1 (lk1 (lk1 lkn))))))))))) (w_X12_plays_32 d 1000 (((hY.sI).sI).sI) c54 ?_)
  obtain rfl := Option.some.inj H
  exact z_vret rfl dX12_plays_160 rfl rfl
-- X12_isPlayer
def f_X12_isPlayer (p1 : Int32) (p2 : Int32) (p3 : Int32) (p4 : Int32) (h : HS) : Option Bool := (if p1 < 0 then (some false) else (Option.bind (f_X12_isStall (p1 / (10 : Int32)) h) (fun q2 => (if q2 = true then (Option.bind (f_X12_isHand (p1 - p1 / (10 : Int32) * (10 : Int32)) h) (fun q5 => (if q5 = true then (Option.bind (f_X12_isPlace p2) (fun q8 => (if q8 = true then (Option.bind (f_X12_in p3.toInt64 (0 : Int64) (99999 : Int64)) (fun q11 => (if q11 = true then (Option.bind (f_X12_in p4.toInt64 (0 : Int64) (9999 : Int64)) (fun q14 => (if q14 = true then (some true) else (some false)))) else (some false)))) else (some false)))) else (some false)))) else (some false)))))
set_option maxHeartbeats 4000000 in
set_option maxRecDepth 20000 in
theorem t_X12_isPlayer {G : GE} (d : Nat) {p1 : Int32} {p2 : Int32} {p3 : Int32} {p4 : Int32} {h : HS} {q : Bool} (hY : LY TM h) (H : f_X12_isPlayer p1 p2 p3 p4 h = some q) : CE G (d + 2) yX12_isPlayer miX12_isPlayer [.ref 60, .int p1, .int p2, .int p3, .int p4] h (some (.int (b2i q))) (h) := by
  unfold f_X12_isPlayer at H
  refine ce_of rfl (by decide) (fun q => by first | rfl | cases q) (Nat.le_of_ble_eq_true rfl) rfl ?_
  refine e_iload_n dX12_isPlayer_0 rfl ?_
  refine e_if_lt (tgt := 62) dX12_isPlayer_1 (by decide) (fun c1 => ?_) (fun c1 => ?_)
  · replace H := ot c1 H
    refine e_iconst (v := (0 : Int32)) dX12_isPlayer_62 (by decide) ?_
    obtain rfl := Option.some.inj H
    exact z_iret rfl rfl dX12_isPlayer_63 rfl rfl
  · replace H := of_ c1 H
    refine g_aload_n dX12_isPlayer_4 rfl rfl ?_
    refine e_iload_n dX12_isPlayer_5 rfl ?_
    refine e_bipush (v := (10 : Int32)) dX12_isPlayer_6 (by decide) ?_
    refine e_idiv dX12_isPlayer_8 (by decide) ?_
    replace H := ob H; obtain ⟨q2, c3, H⟩ := H
    refine v1 (hY.t 0 rfl) (by decide) rfl rfl lmX12_142 liX12_isStall lvX12_X12_isStall msX12_isStall dX12_isPlayer_9 (t_X12_isStall (d + 0) hY c3) rfl (Nat.le_of_ble_eq_true rfl) (Nat.le_refl _) ?_
    refine e_ifB_eq (tgt := 62) dX12_isPlayer_12 (by decide) (fun c4 => ?_) (fun c4 => ?_)
    · replace H := of_ (nb c4) H
      refine e_iconst (v := (0 : Int32)) dX12_isPlayer_62 (by decide) ?_
      obtain rfl := Option.some.inj H
      exact z_iret rfl rfl dX12_isPlayer_63 rfl rfl
    · replace H := ot c4 H
      refine g_aload_n dX12_isPlayer_15 rfl rfl ?_
      refine e_iload_n dX12_isPlayer_16 rfl ?_
      refine e_bipush (v := (10 : Int32)) dX12_isPlayer_17 (by decide) ?_
      refine e_irem dX12_isPlayer_19 (by decide) ?_
      replace H := ob H; obtain ⟨q5, c6, H⟩ := H
      refine v1 (hY.t 0 rfl) (by decide) rfl rfl lmX12_187 liX12_isHand lvX12_X12_isHand msX12_isHand dX12_isPlayer_20 (t_X12_isHand (d + 0) hY c6) rfl (Nat.le_of_ble_eq_true rfl) (Nat.le_refl _) ?_
      refine e_ifB_eq (tgt := 62) dX12_isPlayer_23 (by decide) (fun c7 => ?_) (fun c7 => ?_)
      · replace H := of_ (nb c7) H
        refine e_iconst (v := (0 : Int32)) dX12_isPlayer_62 (by decide) ?_
        obtain rfl := Option.some.inj H
        exact z_iret rfl rfl dX12_isPlayer_63 rfl rfl
      · replace H := ot c7 H
        refine e_iload_n dX12_isPlayer_26 rfl ?_
        replace H := ob H; obtain ⟨q8, c9, H⟩ := H
        refine s1 lmX12_134 lsX12_isPlace msX12_isPlace dX12_isPlayer_27 (t_X12_isPlace (d + 1) c9) rfl (Nat.le_of_ble_eq_true rfl) (Nat.le_refl _) ?_
        refine e_ifB_eq (tgt := 62) dX12_isPlayer_30 (by decide) (fun c10 => ?_) (fun c10 => ?_)
        · replace H := of_ (nb c10) H
          refine e_iconst (v := (0 : Int32)) dX12_isPlayer_62 (by decide) ?_
          obtain rfl := Option.some.inj H
          exact z_iret rfl rfl dX12_isPlayer_63 rfl rfl
        · replace H := ot c10 H
          refine e_iload_n dX12_isPlayer_33 rfl ?_
          refine e_i2l dX12_isPlayer_34 ?_
          refine e_lconst (v := (0 : Int64)) dX12_isPlayer_35 (by decide) ?_
          refine e_ldc2 (v := (99999 : Int64)) lkX12_226 dX12_isPlayer_36 ?_
          replace H := ob H; obtain ⟨q11, c12, H⟩ := H
          refine s1 lmX12_125 lsX12_in msX12_in dX12_isPlayer_39 (t_X12_in (d + 1) c12) rfl (Nat.le_of_ble_eq_true rfl) (Nat.le_refl _) ?_
          refine e_ifB_eq (tgt := 62) dX12_isPlayer_42 (by decide) (fun c13 => ?_) (fun c13 => ?_)
          · replace H := of_ (nb c13) H
            refine e_iconst (v := (0 : Int32)) dX12_isPlayer_62 (by decide) ?_
            obtain rfl := Option.some.inj H
            exact z_iret rfl rfl dX12_isPlayer_63 rfl rfl
          · replace H := ot c13 H
            refine e_iload dX12_isPlayer_45 rfl ?_
            refine e_i2l dX12_isPlayer_47 ?_
            refine e_lconst (v := (0 : Int64)) dX12_isPlayer_48 (by decide) ?_
            refine e_ldc2 (v := (9999 : Int64)) lkX12_376 dX12_isPlayer_49 ?_
            replace H := ob H; obtain ⟨q14, c15, H⟩ := H
            refine s1 lmX12_125 lsX12_in msX12_in dX12_isPlayer_52 (t_X12_in (d + 1) c15) rfl (Nat.le_of_ble_eq_true rfl) (Nat.le_refl _) ?_
            refine e_ifB_eq (tgt := 62) dX12_isPlayer_55 (by decide) (fun c16 => ?_) (fun c16 => ?_)
            · replace H := of_ (nb c16) H
              refine e_iconst (v := (0 : Int32)) dX12_isPlayer_62 (by decide) ?_
              obtain rfl := Option.some.inj H
              exact z_iret rfl rfl dX12_isPlayer_63 rfl rfl
            · replace H := ot c16 H
              refine e_iconst (v := (1 : Int32)) dX12_isPlayer_58 (by decide) ?_
              refine e_goto (tgt := 63) dX12_isPlayer_59 (by decide) ?_
              obtain rfl := Option.some.inj H
              exact z_iret rfl rfl dX12_isPlayer_63 rfl rfl
