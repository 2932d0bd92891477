-- X12_isStall
def f_X12_isStall (p1 : Int32) (h : HS) : Option Bool := (Option.bind (f_X12_in p1.toInt64 (0 : Int64) ((hI h 60 14) - (1 : Int32)).toInt64) (fun q1 => (some q1)))
set_option maxHeartbeats 4000000 in
set_option maxRecDepth 20000 in
theorem t_X12_isStall {G : GE} (d : Nat) {p1 : Int32} {h : HS} {q : Bool} (hY : LY TM h) (H : f_X12_isStall p1 h = some q) : CE G (d + 1) yX12_isStall miX12_isStall [.ref 60, .int p1] h (some (.int (b2i q))) (h) := by
  unfold f_X12_isStall at H
  refine ce_of rfl (by decide) (fun q => by first | rfl | cases q) (Nat.le_of_ble_eq_true rfl) rfl ?_
  refine e_iload_n dX12_isStall_0 rfl ?_
  refine e_i2l dX12_isStall_1 ?_
  refine e_lconst (v := (0 : Int64)) dX12_isStall_2 (by decide) ?_
  refine g_aload_n dX12_isStall_3 rfl rfl ?_
  refine e_getI (hY.t 0 rfl) flX12_122_13 dX12_isStall_4 rfl ?_
  refine e_iconst (v := (1 : Int32)) dX12_isStall_7 (by decide) ?_
  refine e_isub dX12_isStall_8 ?_
  refine e_i2l dX12_isStall_9 ?_
  replace H := ob H; obtain ⟨q1, c2, H⟩ := H
  refine s1 lmX12_125 lsX12_in msX12_in dX12_isStall_10 (t_X12_in (d + 0) c2) rfl (Nat.le_of_ble_eq_true rfl) (Nat.le_refl _) ?_
  obtain rfl := Option.some.inj H
  exact z_bret rfl dX12_isStall_13 rfl rfl
-- X12_isHand
def f_X12_isHand (p1 : Int32) (h : HS) : Option Bool := (Option.bind (f_X12_in p1.toInt64 (0 : Int64) ((hI h 60 18) - (1 : Int32)).toInt64) (fun q1 => (some q1)))
set_option maxHeartbeats 4000000 in
set_option maxRecDepth 20000 in
theorem t_X12_isHand {G : GE} (d : Nat) {p1 : Int32} {h : HS} {q : Bool} (hY : LY TM h) (H : f_X12_isHand p1 h = some q) : CE G (d + 1) yX12_isHand miX12_isHand [.ref 60, .int p1] h (some (.int (b2i q))) (h) := by
  unfold f_X12_isHand at H
  refine ce_of rfl (by decide) (fun q => by first | rfl | cases q) (Nat.le_of_ble_eq_true rfl) rfl ?_
  refine e_iload_n dX12_isHand_0 rfl ?_
  refine e_i2l dX12_isHand_1 ?_
  refine e_lconst (v := (0 : Int64)) dX12_isHand_2 (by decide) ?_
  refine g_aload_n dX12_isHand_3 rfl rfl ?_
  refine e_getI (hY.t 0 rfl) flX12_129_13 dX12_isHand_4 rfl ?_
  refine e_iconst (v := (1 : Int32)) dX12_isHand_7 (by decide) ?_
  refine e_isub dX12_isHand_8 ?_
  refine e_i2l dX12_isHand_9 ?_
  replace H := ob H; obtain ⟨q1, c2, H⟩ := H
  refine s1 lmX12_125 lsX12_in msX12_in dX12_isHand_10 (t_X12_in (d + 0) c2) rfl (Nat.le_of_ble_eq_true rfl) (Nat.le_refl _) ?_
  obtain rfl := Option.some.inj H
  exact z_bret rfl dX12_isHand_13 rfl rfl
-- X12_isPlace
def f_X12_isPlace (p0 : Int32) : Option Bool := (if p0 < 0 then (some false) else (if (20 : Int32) ≤ (p0 / (100 : Int32)) then (some false) else (if (20 : Int32) ≤ (p0 - p0 / (100 : Int32) * (100 : Int32)) then (some false) else (some true))))
set_option maxHeartbeats 4000000 in
set_option maxRecDepth 20000 in
theorem t_X12_isPlace {G : GE} (d : Nat) {p0 : Int32} {h : HS} {q : Bool} (H : f_X12_isPlace p0 = some q) : CE G (d + 0) yX12_isPlace miX12_isPlace [.int p0] h (some (.int (b2i q))) (h) := by
  unfold f_X12_isPlace at H
  refine ce_of rfl (by decide) (fun q => by first | rfl | cases q) (Nat.le_of_ble_eq_true rfl) rfl ?_
  refine e_iload_n dX12_isPlace_0 rfl ?_
  refine e_if_lt (tgt := 26) dX12_isPlace_1 (by decide) (fun c1 => ?_) (fun c1 => ?_)
  · replace H := ot c1 H
    refine e_iconst (v := (0 : Int32)) dX12_isPlace_26 (by decide) ?_
    obtain rfl := Option.some.inj H
    exact z_iret rfl rfl dX12_isPlace_27 rfl rfl
  · replace H := of_ c1 H
    refine e_iload_n dX12_isPlace_4 rfl ?_
    refine e_bipush (v := (100 : Int32)) dX12_isPlace_5 (by decide) ?_
    refine e_idiv dX12_isPlace_7 (by decide) ?_
    refine e_bipush (v := (20 : Int32)) dX12_isPlace_8 (by decide) ?_
    refine e_icmp_ge (tgt := 26) dX12_isPlace_10 (by decide) (fun c2 => ?_) (fun c2 => ?_)
    · replace H := ot c2 H
      refine e_iconst (v := (0 : Int32)) dX12_isPlace_26 (by decide) ?_
      obtain rfl := Option.some.inj H
      exact z_iret rfl rfl dX12_isPlace_27 rfl rfl
    · replace H := of_ c2 H
      refine e_iload_n dX12_isPlace_13 rfl ?_
      refine e_bipush (v := (100 : Int32)) dX12_isPlace_14 (by decide) ?_
      refine e_irem dX12_isPlace_16 (by decide) ?_
      refine e_bipush (v := (20 : Int32)) dX12_isPlace_17 (by decide) ?_
      refine e_icmp_ge (tgt := 26) dX12_isPlace_19 (by decide) (fun c3 => ?_) (fun c3 => ?_)
      · replace H := ot c3 H
        refine e_iconst (v := (0 : Int32)) dX12_isPlace_26 (by decide) ?_
        obtain rfl := Option.some.inj H
        exact z_iret rfl rfl dX12_isPlace_27 rfl rfl
      · replace H := of_ c3 H
        refine e_iconst (v := (1 : Int32)) dX12_isPlace_22 (by decide) ?_
        refine e_goto (tgt := 27) dX12_isPlace_23 (by decide) ?_
        obtain rfl := Option.some.inj H
        exact z_iret rfl rfl dX12_isPlace_27 rfl rfl
-- X12_stall
def f_X12_stall (p1 : Int32) (p2 : Int32) (p3 : Int32) (p4 : Int32) (h : HS) : Option (Int32 × HS) := (Option.bind (f_X12_in p1.toInt64 (0 : Int64) (5 : Int64)) (fun q1 => (if q1 = true then (Option.bind (f_X12_isPlace p2) (fun q4 => (if q4 = true then (Option.bind (f_X12_in p3.toInt64 (0 : Int64) (9 : Int64)) (fun q7 => (if q7 = true then (Option.bind (f_X12_in p4.toInt64 (1 : Int64) (99 : Int64)) (fun q10 => (if q10 = true then (if (hI h 60 14) = (8 : Int32) then (some ((-4 : Int32), h)) else (if ixb (hI h 60 14) 8 = true then (if ixb (hI (sI h 64 (hI h 60 14).toNatClampNeg p1) 60 14) 8 = true then (if ixb (hI (sI (sI h 64 (hI h 60 14).toNatClampNeg p1) 65 (hI (sI h 64 (hI h 60 14).toNatClampNeg p1) 60 14).toNatClampNeg p2) 60 14) 8 = true then (bh (sI (sI (sI h 64 (hI h 60 14).toNatClampNeg p1) 65 (hI (sI h 64 (hI h 60 14).toNatClampNeg p1) 60 14).toNatClampNeg p2) 66 (hI (sI (sI h 64 (hI h 60 14).toNatClampNeg p1) 65 (hI (sI h 64 (hI h 60 14).toNatClampNeg p1) 60 14).toNatClampNeg p2) 60 14).toNatClampNeg p3) (fun h17 => (if ixb (hI h17 60 14) 8 = true then (if ixb (hI (sI h17 67 (hI h17 60 14).toNatClampNeg p4) 60 14) 8 = true then (if ixb (hI (sI (sI h17 67 (hI h17 60 14).toNatClampNeg p4) 68 (hI (sI h17 67 (hI h17 60 14).toNatClampNeg p4) 60 14).toNatClampNeg (0 : Int32)) 60 14) 8 = true then (bh (sI (sI (sI h17 67 (hI h17 60 14).toNatClampNeg p4) 68 (hI (sI h17 67 (hI h17 60 14).toNatClampNeg p4) 60 14).toNatClampNeg (0 : Int32)) 69 (hI (sI (sI h17 67 (hI h17 60 14).toNatClampNeg p4) 68 (hI (sI h17 67 (hI h17 60 14).toNatClampNeg p4) 60 14).toNatClampNeg (0 : Int32)) 60 14).toNatClampNeg (0 : Int32)) (fun h23 => (if ixb (hI h23 60 14) 8 = true then (some (((hI (sI (sI h23 70 (hI h23 60 14).toNatClampNeg (0 : Int32)) 60 14 ((hI (sI h23 70 (hI h23 60 14).toNatClampNeg (0 : Int32)) 60 14) + (1 : Int32))) 60 14) - (1 : Int32)), (sI (sI h23 70 (hI h23 60 14).toNatClampNeg (0 : Int32)) 60 14 ((hI (sI h23 70 (hI h23 60 14).toNatClampNeg (0 : Int32)) 60 14) + (1 : Int32))))) else none))) else none) else none) else none))) else none) else none) else none)) else (some ((-2 : Int32), h))))) else (some ((-2 : Int32), h))))) else (some ((-2 : Int32), h))))) else (some ((-2 : Int32), h)))))
set_option maxHeartbeats 4000000 in
set_option maxRecDepth 20000 in
theorem p_X12_stall {p1 : Int32} {p2 : Int32} {p3 : Int32} {p4 : Int32} {h : HS} {q : (Int32 × HS)} (H : f_X12_stall p1 p2 p3 p4 h = some q) : Pr h q.2 := by
  unfold f_X12_stall at H
  replace H := ob H; obtain ⟨q1, c2, H⟩ := H
  replace H := oi H; obtain ⟨c3, H⟩ | ⟨c3, H⟩ := H
  · replace H := ob H; obtain ⟨q4, c5, H⟩ := H
    replace H := oi H; obtain ⟨c6, H⟩ | ⟨c6, H⟩ := H
    · replace H := ob H; obtain ⟨q7, c8, H⟩ := H
      replace H := oi H; obtain ⟨c9, H⟩ | ⟨c9, H⟩ := H
      · replace H := ob H; obtain ⟨q10, c11, H⟩ := H
        replace H := oi H; obtain ⟨c12, H⟩ | ⟨c12, H⟩ := H
        · replace H := oi H; obtain ⟨c13, H⟩ | ⟨c13, H⟩ := H
          · obtain rfl := Option.some.inj H
            exact Pr.rf
          · replace H := og H; obtain ⟨g14, H⟩ := H
            replace H := og H; obtain ⟨g15, H⟩ := H
            replace H := og H; obtain ⟨g16, H⟩ := H
            replace H := obh H; obtain ⟨h17, e18, H⟩ := H
            replace H := og H; obtain ⟨g20, H⟩ := H
            replace H := og H; obtain ⟨g21, H⟩ := H
            replace H := og H; obtain ⟨g22, H⟩ := H
            replace H := obh H; obtain ⟨h23, e24, H⟩ := H
            replace H := og H; obtain ⟨g26, H⟩ := H
            obtain rfl := Option.some.inj H
            exact (((kP e24 ((((kP e18 (((Pr.rf.sI).sI).sI)).sI).sI).sI)).sI).sI)
        · obtain rfl := Option.some.inj H
          exact Pr.rf
      · obtain rfl := Option.some.inj H
        exact Pr.rf
    · obtain rfl := Option.some.inj H
      exact Pr.rf
  · obtain rfl := Option.some.inj H
    exact Pr.rf
set_option maxHeartbeats 4000000 in
set_option maxRecDepth 20000 in
theorem t_X12_stall {G : GE} (d : Nat) {p1 : Int32} {p2 : Int32} {p3 : Int32} {p4 : Int32} {h : HS} {q : (Int32 × HS)} (hY : LY TM h) (H : f_X12_stall p1 p2 p3 p4 h = some q) : CE G (d + 1) yX12_stall miX12_stall [.ref 60, .int p1, .int p2, .int p3, .int p4] h (some (.int q.1)) (q.2) := by
  unfold f_X12_stall at H
  refine ce_of rfl (by decide) (fun q => by first | rfl | cases q) (Nat.le_of_ble_eq_true rfl) rfl ?_
  refine e_iload_n dX12_stall_0 rfl ?_
  refine e_i2l dX12_stall_1 ?_
  refine e_lconst (v := (0 : Int64)) dX12_stall_2 (by decide) ?_
  refine e_ldc2 (v := (5 : Int64)) lkX12_132 dX12_stall_3 ?_
  replace H := ob H; obtain ⟨q1, c2, H⟩ := H
  refine s1 lmX12_125 lsX12_in msX12_in dX12_stall_6 (t_X12_in (d + 0) c2) rfl (Nat.le_of_ble_eq_true rfl) (Nat.le_refl _) ?_
  refine e_ifB_eq (tgt := 44) dX12_stall_9 (by decide) (fun c3 => ?_) (fun c3 => ?_)
  · replace H := of_ (nb c3) H
    refine e_bipush (v := (-2 : Int32)) dX12_stall_44 (by decide) ?_
    obtain rfl := Option.some.inj H
    exact z_iret rfl rfl dX12_stall_46 rfl rfl
  · replace H := ot c3 H
    refine e_iload_n dX12_stall_12 rfl ?_
    replace H := ob H; obtain ⟨q4, c5, H⟩ := H
    refine s1 lmX12_134 lsX12_isPlace msX12_isPlace dX12_stall_13 (t_X12_isPlace (d + 0) c5) rfl (Nat.le_of_ble_eq_true rfl) (Nat.le_refl _) ?_
    refine e_ifB_eq (tgt := 44) dX12_stall_16 (by decide) (fun c6 => ?_) (fun c6 => ?_)
    · replace H := of_ (nb c6) H
      refine e_bipush (v := (-2 : Int32)) dX12_stall_44 (by decide) ?_
      obtain rfl := Option.some.inj H
      exact z_iret rfl rfl dX12_stall_46 rfl rfl
    · replace H := ot c6 H
      refine e_iload_n dX12_stall_19 rfl ?_
      refine e_i2l dX12_stall_20 ?_
      refine e_lconst (v := (0 : Int64)) dX12_stall_21 (by decide) ?_
      refine e_ldc2 (v := (9 : Int64)) lkX12_138 dX12_stall_22 ?_
      replace H := ob H; obtain ⟨q7, c8, H⟩ := H
      refine s1 lmX12_125 lsX12_in msX12_in dX12_stall_25 (t_X12_in (d + 0) c8) rfl (Nat.le_of_ble_eq_true rfl) (Nat.le_refl _) ?_
      refine e_ifB_eq (tgt := 44) dX12_stall_28 (by decide) (fun c9 => ?_) (fun c9 => ?_)
      · replace H := of_ (nb c9) H
        refine e_bipush (v := (-2 : Int32)) dX12_stall_44 (by decide) ?_
        obtain rfl := Option.some.inj H
        exact z_iret rfl rfl dX12_stall_46 rfl rfl
      · replace H := ot c9 H
        refine e_iload dX12_stall_31 rfl ?_
        refine e_i2l dX12_stall_33 ?_
        refine e_lconst (v := (1 : Int64)) dX12_stall_34 (by decide) ?_
        refine e_ldc2 (v := (99 : Int64)) lkX12_140 dX12_stall_35 ?_
        replace H := ob H; obtain ⟨q10, c11, H⟩ := H
        refine s1 lmX12_125 lsX12_in msX12_in dX12_stall_38 (t_X12_in (d + 0) c11) rfl (Nat.le_of_ble_eq_true rfl) (Nat.le_refl _) ?_
        refine e_ifB_ne (tgt := 47) dX12_stall_41 (by decide) (fun c12 => ?_) (fun c12 => ?_)
        · replace H := ot c12 H
          refine g_aload_n dX12_stall_47 rfl rfl ?_
          refine e_getI (hY.t 0 rfl) flX12_122_13 dX12_stall_48 rfl ?_
          refine e_bipush (v := (8 : Int32)) dX12_stall_51 (by decide) ?_
          refine e_icmp_ne (tgt := 59) dX12_stall_53 (by decide) (fun c13 => ?_) (fun c13 => ?_)
          · replace H := of_ c13 H
            refine g_aload_n dX12_stall_59 rfl rfl ?_
            refine e_getR (hY.t 0 rfl) flX12_23_13 dX12_stall_60 rfl (hY.r 3 rfl) ?_
            refine g_aload_n dX12_stall_63 rfl rfl ?_
            refine e_getI (hY.t 0 rfl) flX12_122_13 dX12_stall_64 rfl ?_
            refine e_iload_n dX12_stall_67 rfl ?_
            replace H := og H; obtain ⟨g14, H⟩ := H
            refine e_iast (hY.t 4 rfl) (ixb_y (hY.n 4 rfl) g14) dX12_stall_68 ?_
            refine g_aload_n dX12_stall_69 rfl rfl ?_
            refine e_getR ((hY.sI).t 0 rfl) flX12_26_13 dX12_stall_70 rfl ((hY.sI).r 4 rfl) ?_
            refine g_aload_n dX12_stall_73 rfl rfl ?_
            refine e_getI ((hY.sI).t 0 rfl) flX12_122_13 dX12_stall_74 rfl ?_
            refine e_iload_n dX12_stall_77 rfl ?_
            replace H := og H; obtain ⟨g15, H⟩ := H
            refine e_iast ((hY.sI).t 5 rfl) (ixb_y ((hY.sI).n 5 rfl) g15) dX12_stall_78 ?_
            refine g_aload_n dX12_stall_79 rfl rfl ?_
            refine e_getR (((hY.sI).sI).t 0 rfl) flX12_29_13 dX12_stall_80 rfl (((hY.sI).sI).r 5 rfl) ?_
            refine g_aload_n dX12_stall_83 rfl rfl ?_
            refine e_getI (((hY.sI).sI).t 0 rfl) flX12_122_13 dX12_stall_84 rfl ?_
            refine e_iload_n dX12_stall_87 rfl ?_
            replace H := og H; obtain ⟨g16, H⟩ := H
            refine e_iast (((hY.sI).sI).t 6 rfl) (ixb_y (((hY.sI).sI).n 6 rfl) g16) dX12_stall_88 ?_
            replace H := obh H; obtain ⟨h17, e18, H⟩ := H
            refine e_hq e18 ?_
            have hY19 := kY e18 (((hY.sI).sI).sI)
            refine g_aload_n dX12_stall_89 rfl rfl ?_
            refine e_getR (hY19.t 0 rfl) flX12_32_13 dX12_stall_90 rfl (hY19.r 6 rfl) ?_
            refine g_aload_n dX12_stall_93 rfl rfl ?_
            refine e_getI (hY19.t 0 rfl) flX12_122_13 dX12_stall_94 rfl ?_
            refine e_iload dX12_stall_97 rfl ?_
            replace H := og H; obtain ⟨g20, H⟩ := H
            refine e_iast (hY19.t 7 rfl) (ixb_y (hY19.n 7 rfl) g20) dX12_stall_99 ?_
            refine g_aload_n dX12_stall_100 rfl rfl ?_
            refine e_getR ((hY19.sI).t 0 rfl) flX12_35_13 dX12_stall_101 rfl ((hY19.sI).r 7 rfl) ?_
            refine g_aload_n dX12_stall_104 rfl rfl ?_
            refine e_getI ((hY19.sI).t 0 rfl) flX12_122_13 dX12_stall_105 rfl ?_
            refine e_iconst (v := (0 : Int32)) dX12_stall_108 (by decide) ?_
            replace H := og H; obtain ⟨g21, H⟩ := H
            refine e_iast ((hY19.sI).t 8 rfl) (ixb_y ((hY19.sI).n 8 rfl) g21) dX12_stall_109 ?_
            refine g_aload_n dX12_stall_110 rfl rfl ?_
            refine e_getR (((hY19.sI).sI).t 0 rfl) flX12_38_13 dX12_stall_111 rfl (((hY19.sI).sI).r 8 rfl) ?_
            refine g_aload_n dX12_stall_114 rfl rfl ?_
            refine e_getI (((hY19.sI).sI).t 0 rfl) flX12_122_13 dX12_stall_115 rfl ?_
            refine e_iconst (v := (0 : Int32)) dX12_stall_118 (by decide) ?_
            replace H := og H; obtain ⟨g22, H⟩ := H
            refine e_iast (((hY19.sI).sI).t 9 rfl) (ixb_y (((hY19.sI).sI).n 9 rfl) g22) dX12_stall_119 ?_
            replace H := obh H; obtain ⟨h23, e24, H⟩ := H
            refine e_hq e24 ?_
            have hY25 := kY e24 (((hY19.sI).sI).sI)
            refine g_aload_n dX12_stall_120 rfl rfl ?_
            refine e_getR (hY25.t 0 rfl) flX12_41_13 dX12_stall_121 rfl (hY25.r 9 rfl) ?_
            refine g_aload_n dX12_stall_124 rfl rfl ?_
            refine e_getI (hY25.t 0 rfl) flX12_122_13 dX12_stall_125 rfl ?_
            refine e_iconst (v := (0 : Int32)) dX12_stall_128 (by decide) ?_
            replace H := og H; obtain ⟨g26, H⟩ := H
            refine e_iast (hY25.t 10 rfl) (ixb_y (hY25.n 10 rfl) g26) dX12_stall_129 ?_
            refine g_aload_n dX12_stall_130 rfl rfl ?_
            refine e_dup dX12_stall_131 rfl ?_
            refine e_getI ((hY25.sI).t 0 rfl) flX12_122_13 dX12_stall_132 rfl ?_
            refine e_iconst (v := (1 : Int32)) dX12_stall_135 (by decide) ?_
            refine e_iadd dX12_stall_136 ?_
            refine e_putI ((hY25.sI).t 0 rfl) fpX12_122_13 rfl dX12_stall_137 ?_
            refine g_aload_n dX12_stall_140 rfl rfl ?_
            refine e_getI (((hY25.sI).sI).t 0 rfl) flX12_122_13 dX12_stall_141 rfl ?_
            refine e_iconst (v := (1 : Int32)) dX12_stall_144 (by decide) ?_
            refine e_isub dX12_stall_145 ?_
            obtain rfl := Option.some.inj H
            exact z_iret rfl rfl dX12_stall_146 rfl rfl
          · replace H := ot c13 H
            refine e_bipush (v := (-4 : Int32)) dX12_stall_56 (by decide) ?_
            obtain rfl := Option.some.inj H
            exact z_iret rfl rfl dX12_stall_58 rfl rfl
        · replace H := of_ (nb c12) H
          refine e_bipush (v := (-2 : Int32)) dX12_stall_44 (by decide) ?_
          obtain rfl := Option.some.inj H
          exact z_iret rfl rfl dX12_stall_46 rfl rfl
-- X12_set
def f_X12_set (p1 : Int32) (p2 : Int32) (p3 : Int32) (h : HS) : Option (Int32 × HS) := (Option.bind (f_X12_isStall p1 h) (fun q1 => (if q1 = true then (Option.bind (f_X12_in p2.toInt64 (0 : Int64) (3 : Int64)) (fun q4 => (if q4 = true then (Option.bind (if p2 = 0 then (some (1 : Int64)) else (some (0 : Int64))) (fun q8 => (Option.bind (if p2 = 0 then (some (99 : Int64)) else (if p2 = (3 : Int32) then (some (1 : Int64)) else (some (999 : Int64)))) (fun q12 => (Option.bind (f_X12_in p3.toInt64 q8 q12) (fun q16 => (if q16 = true then (Option.bind (if p2 = 0 then (if ixb p1 8 = true then (some (hI h 67 p1.toNatClampNeg)) else none) else (if p2 = (1 : Int32) then (if ixb p1 8 = true then (some (hI h 68 p1.toNatClampNeg)) else none) else (if p2 = (2 : Int32) then (if ixb p1 8 = true then (some (hI h 69 p1.toNatClampNeg)) else none) else (if ixb p1 8 = true then (some (hI h 70 p1.toNatClampNeg)) else none)))) (fun q20 => (Option.bind (if p2 = 0 then (if ixb p1 8 = true then (some (sI h 67 p1.toNatClampNeg p3)) else none) else (some h)) (fun q30 => (Option.bind (if p2 = (1 : Int32) then (if ixb p1 8 = true then (some (sI q30 68 p1.toNatClampNeg p3)) else none) else (some q30)) (fun q37 => (Option.bind (if p2 = (2 : Int32) then (if ixb p1 8 = true then (some (sI q37 69 p1.toNatClampNeg p3)) else none) else (some q37)) (fun q44 => (if p2 = (3 : Int32) then (if ixb p1 8 = true then (some (q20, (sI q44 70 p1.toNatClampNeg p3))) else none) else (some (q20, q44))))))))))) else (some ((-5 : Int32), h))))))))) else (some ((-5 : Int32), h))))) else (some ((-5 : Int32), h)))))
set_option maxHeartbeats 4000000 in
set_option maxRecDepth 20000 in
theorem p_X12_set {p1 : Int32} {p2 : Int32} {p3 : Int32} {h : HS} {q : (Int32 × HS)} (H : f_X12_set p1 p2 p3 h = some q) : Pr h q.2 := by
  unfold f_X12_set at H
  replace H := ob H; obtain ⟨q1, c2, H⟩ := H
  replace H := oi H; obtain ⟨c3, H⟩ | ⟨c3, H⟩ := H
  · replace H := ob H; obtain ⟨q4, c5, H⟩ := H
    replace H := oi H; obtain ⟨c6, H⟩ | ⟨c6, H⟩ := H
    · replace H := ob H; obtain ⟨q8, c10, H⟩ := H
      replace H := ob H; obtain ⟨q12, c15, H⟩ := H
      replace H := ob H; obtain ⟨q16, c17, H⟩ := H
      replace H := oi H; obtain ⟨c18, H⟩ | ⟨c18, H⟩ := H
      · replace H := ob H; obtain ⟨q20, c28, H⟩ := H
        replace H := ob H; obtain ⟨q30, c33, H⟩ := H
        have e34 : Pr h q30 := by
          replace H := c33
          replace H := oi H; obtain ⟨c29, H⟩ | ⟨c29, H⟩ := H
          · replace H := og H; obtain ⟨g32, H⟩ := H
            obtain rfl := Option.some.inj H
            exact (Pr.rf.sI)
          · obtain rfl := Option.some.inj H
            exact Pr.rf
        replace H := ob H; obtain ⟨q37, c40, H⟩ := H
        have e41 : Pr q30 q37 := by
          replace H := c40
          replace H := oi H; obtain ⟨c36, H⟩ | ⟨c36, H⟩ := H
          · replace H := og H; obtain ⟨g39, H⟩ := H
            obtain rfl := Option.some.inj H
            exact (Pr.rf.sI)
          · obtain rfl := Option.some.inj H
            exact Pr.rf
        replace H := ob H; obtain ⟨q44, c47, H⟩ := H
        have e48 : Pr q37 q44 := by
          replace H := c47
          replace H := oi H; obtain ⟨c43, H⟩ | ⟨c43, H⟩ := H
          · replace H := og H; obtain ⟨g46, H⟩ := H
            obtain rfl := Option.some.inj H
            exact (Pr.rf.sI)
          · obtain rfl := Option.some.inj H
            exact Pr.rf
        replace H := oi H; obtain ⟨c50, H⟩ | ⟨c50, H⟩ := H
        · replace H := og H; obtain ⟨g51, H⟩ := H
          obtain rfl := Option.some.inj H
          exact (((e34.tr e41).tr e48).sI)
        · obtain rfl := Option.some.inj H
          exact ((e34.tr e41).tr e48)
      · obtain rfl := Option.some.inj H
        exact Pr.rf
    · obtain rfl := Option.some.inj H
      exact Pr.rf
  · obtain rfl := Option.some.inj H
    exact Pr.rf
set_option maxHeartbeats 4000000 in
set_option maxRecDepth 20000 in
theorem t_X12_set {G : GE} (d : Nat) {p1 : Int32} {p2 : Int32} {p3 : Int32} {h : HS} {q : (Int32 × HS)} (hY : LY TM h) (H : f_X12_set p1 p2 p3 h = some q) : CE G (d + 2) yX12_set miX12_set [.ref 60, .int p1, .int p2, .int p3] h (some (.int q.1)) (q.2) := by
  unfold f_X12_set at H
  refine ce_of rfl (by decide) (fun q => by first | rfl | cases q) (Nat.le_of_ble_eq_true rfl) rfl ?_
  refine g_aload_n dX12_set_0 rfl rfl ?_
  refine e_iload_n dX12_set_1 rfl ?_
  replace H := ob H; obtain ⟨q1, c2, H⟩ := H
  refine v1 (hY.t 0 rfl) (by decide) rfl rfl lmX12_142 liX12_isStall lvX12_X12_isStall msX12_isStall dX12_set_2 (t_X12_isStall (d + 0) hY c2) rfl (Nat.le_of_ble_eq_true rfl) (Nat.le_refl _) ?_
  refine e_ifB_eq (tgt := 59) dX12_set_5 (by decide) (fun c3 => ?_) (fun c3 => ?_)
  · replace H := of_ (nb c3) H
    refine e_bipush (v := (-5 : Int32)) dX12_set_59 (by decide) ?_
    obtain rfl := Option.some.inj H
    exact z_iret rfl rfl dX12_set_61 rfl rfl
  · replace H := ot c3 H
    refine e_iload_n dX12_set_8 rfl ?_
    refine e_i2l dX12_set_9 ?_
    refine e_lconst (v := (0 : Int64)) dX12_set_10 (by decide) ?_
    refine e_ldc2 (v := (3 : Int64)) lkX12_145 dX12_set_11 ?_
    replace H := ob H; obtain ⟨q4, c5, H⟩ := H
    refine s1 lmX12_125 lsX12_in msX12_in dX12_set_14 (t_X12_in (d + 1) c5) rfl (Nat.le_of_ble_eq_true rfl) (Nat.le_refl _) ?_
    refine e_ifB_eq (tgt := 59) dX12_set_17 (by decide) (fun c6 => ?_) (fun c6 => ?_)
    · replace H := of_ (nb c6) H
      refine e_bipush (v := (-5 : Int32)) dX12_set_59 (by decide) ?_
      obtain rfl := Option.some.inj H
      exact z_iret rfl rfl dX12_set_61 rfl rfl
    · replace H := ot c6 H
      refine e_iload_n dX12_set_20 rfl ?_
      refine e_i2l dX12_set_21 ?_
      refine e_iload_n dX12_set_22 rfl ?_
      replace H := ob H; obtain ⟨q8, c10, H⟩ := H
      have k9 : En G (d + 2) miX12_set 31 [.ref 60, .int p1, .int p2, .int p3, dum] [.long q8, .long p3.toInt64] h (some (.int q.1)) (q.2) := by
        refine e_iload_n dX12_set_31 rfl ?_
        replace H := ob H; obtain ⟨q12, c15, H⟩ := H
        have k13 : En G (d + 2) miX12_set 53 [.ref 60, .int p1, .int p2, .int p3, dum] [.long q12, .long q8, .long p3.toInt64] h (some (.int q.1)) (q.2) := by
          replace H := ob H; obtain ⟨q16, c17, H⟩ := H
          refine s1 lmX12_125 lsX12_in msX12_in dX12_set_53 (t_X12_in (d + 1) c17) rfl (Nat.le_of_ble_eq_true rfl) (Nat.le_refl _) ?_
          refine e_ifB_ne (tgt := 62) dX12_set_56 (by decide) (fun c18 => ?_) (fun c18 => ?_)
          · replace H := ot c18 H
            refine e_iload_n dX12_set_62 rfl ?_
            replace H := ob H; obtain ⟨q20, c28, H⟩ := H
            have k21 : En G (d + 2) miX12_set 109 [.ref 60, .int p1, .int p2, .int p3, dum] [.int q20] h (some (.int q.1)) (q.2) := by
              refine e_istore dX12_set_109 (Nat.le_of_ble_eq_true rfl) rfl rfl ?_
              refine e_iload_n dX12_set_111 rfl ?_
              replace H := ob H; obtain ⟨q30, c33, H⟩ := H
              have e34 : Pr h q30 := by
                replace H := c33
                replace H := oi H; obtain ⟨c29, H⟩ | ⟨c29, H⟩ := H
                · replace H := og H; obtain ⟨g32, H⟩ := H
                  obtain rfl := Option.some.inj H
                  exact (Pr.rf.sI)
                · obtain rfl := Option.some.inj H
                  exact Pr.rf
              have hY35 := hY.pr okM e34
              have k31 : En G (d + 2) miX12_set 122 [.ref 60, .int p1, .int p2, .int p3, .int q20] [] q30 (some (.int q.1)) (q.2) := by
                refine e_iload_n dX12_set_122 rfl ?_
                refine e_iconst (v := (1 : Int32)) dX12_set_123 (by decide) ?_
                replace H := ob H; obtain ⟨q37, c40, H⟩ := H
                have e41 : Pr q30 q37 := by
                  replace H := c40
                  replace H := oi H; obtain ⟨c36, H⟩ | ⟨c36, H⟩ := H
                  · replace H := og H; obtain ⟨g39, H⟩ := H
                    obtain rfl := Option.some.inj H
                    exact (Pr.rf.sI)
                  · obtain rfl := Option.some.inj H
                    exact Pr.rf
                have hY42 := hY35.pr okM e41
                have k38 : En G (d + 2) miX12_set 134 [.ref 60, .int p1, .int p2, .int p3, .int q20] [] q37 (some (.int q.1)) (q.2) := by
                  refine e_iload_n dX12_set_134 rfl ?_
                  refine e_iconst (v := (2 : Int32)) dX12_set_135 (by decide) ?_
                  replace H := ob H; obtain ⟨q44, c47, H⟩ := H
                  have e48 : Pr q37 q44 := by
                    replace H := c47
                    replace H := oi H; obtain ⟨c43, H⟩ | ⟨c43, H⟩ := H
                    · replace H := og H; obtain ⟨g46, H⟩ := H
                      obtain rfl := Option.some.inj H
                      exact (Pr.rf.sI)
                    · obtain rfl := Option.some.inj H
                      exact Pr.rf
                  have hY49 := hY42.pr okM e48
                  have k45 : En G (d + 2) miX12_set 146 [.ref 60, .int p1, .int p2, .int p3, .int q20] [] q44 (some (.int q.1)) (q.2) := by
                    refine e_iload_n dX12_set_146 rfl ?_
                    refine e_iconst (v := (3 : Int32)) dX12_set_147 (by decide) ?_
                    refine e_icmp_ne (tgt := 158) dX12_set_148 (by decide) (fun c50 => ?_) (fun c50 => ?_)
                    · replace H := of_ c50 H
                      refine e_iload dX12_set_158 rfl ?_
                      obtain rfl := Option.some.inj H
                      exact z_iret rfl rfl dX12_set_160 rfl rfl
                    · replace H := ot c50 H
                      refine g_aload_n dX12_set_151 rfl rfl ?_
                      refine e_getR (hY49.t 0 rfl) flX12_41_13 dX12_set_152 rfl (hY49.r 9 rfl) ?_
                      refine e_iload_n dX12_set_155 rfl ?_
                      refine e_iload_n dX12_set_156 rfl ?_
                      replace H := og H; obtain ⟨g51, H⟩ := H
                      refine e_iast (hY49.t 10 rfl) (ixb_y (hY49.n 10 rfl) g51) dX12_set_157 ?_
                      refine e_iload dX12_set_158 rfl ?_
                      obtain rfl := Option.some.inj H
                      exact z_iret rfl rfl dX12_set_160 rfl rfl
                  replace H := c47
                  refine e_icmp_ne (tgt := 146) dX12_set_136 (by decide) (fun c43 => ?_) (fun c43 => ?_)
                  · replace H := of_ c43 H
                    obtain rfl := Option.some.inj H
                    exact e_wk (lk1 (lk1 (lk1 (lk1 (lk1 lkn))))) k45
                  · replace H := ot c43 H
                    refine g_aload_n dX12_set_139 rfl rfl ?_
                    refine e_getR (hY42.t 0 rfl) flX12_38_13 dX12_set_140 rfl (hY42.r 8 rfl) ?_
                    refine e_iload_n dX12_set_143 rfl ?_
                    refine e_iload_n dX12_set_144 rfl ?_
                    replace H := og H; obtain ⟨g46, H⟩ := H
                    refine e_iast (hY42.t 9 rfl) (ixb_y (hY42.n 9 rfl) g46) dX12_set_145 ?_
                    obtain rfl := Option.some.inj H
                    exact e_wk (lk1 (lk1 (lk1 (lk1 (lk1 lkn))))) k45
                replace H := c40
                refine e_icmp_ne (tgt := 134) dX12_set_124 (by decide) (fun c36 => ?_) (fun c36 => ?_)
                · replace H := of_ c36 H
                  obtain rfl := Option.some.inj H
                  exact e_wk (lk1 (lk1 (lk1 (lk1 (lk1 lkn))))) k38
                · replace H := ot c36 H
                  refine g_aload_n dX12_set_127 rfl rfl ?_
                  refine e_getR (hY35.t 0 rfl) flX12_35_13 dX12_set_128 rfl (hY35.r 7 rfl) ?_
                  refine e_iload_n dX12_set_131 rfl ?_
                  refine e_iload_n dX12_set_132 rfl ?_
                  replace H := og H; obtain ⟨g39, H⟩ := H
                  refine e_iast (hY35.t 8 rfl) (ixb_y (hY35.n 8 rfl) g39) dX12_set_133 ?_
                  obtain rfl := Option.some.inj H
                  exact e_wk (lk1 (lk1 (lk1 (lk1 (lk1 lkn))))) k38
              replace H := c33
              refine e_if_ne (tgt := 122) dX12_set_112 (by decide) (fun c29 => ?_) (fun c29 => ?_)
              · replace H := of_ c29 H
                obtain rfl := Option.some.inj H
                exact e_wk (lk1 (lk1 (lk1 (lk1 (lk1 lkn))))) k31
              · replace H := ot c29 H
                refine g_aload_n dX12_set_115 rfl rfl ?_
                refine e_getR (hY.t 0 rfl) flX12_32_13 dX12_set_116 rfl (hY.r 6 rfl) ?_
                refine e_iload_n dX12_set_119 rfl ?_
                refine e_iload_n dX12_set_120 rfl ?_
                replace H := og H; obtain ⟨g32, H⟩ := H
                refine e_iast (hY.t 7 rfl) (ixb_y (hY.n 7 rfl) g32) dX12_set_121 ?_
                obtain rfl := Option.some.inj H
                exact e_wk (lk1 (lk1 (lk1 (lk1 (lk1 lkn))))) k31
            replace H := c28
            refine e_if_ne (tgt := 75) dX12_set_63 (by decide) (fun c19 => ?_) (fun c19 => ?_)
            · replace H := of_ c19 H
              refine e_iload_n dX12_set_75 rfl ?_
              refine e_iconst (v := (1 : Int32)) dX12_set_76 (by decide) ?_
              refine e_icmp_ne (tgt := 89) dX12_set_77 (by decide) (fun c22 => ?_) (fun c22 => ?_)
              · replace H := of_ c22 H
                refine e_iload_n dX12_set_89 rfl ?_
                refine e_iconst (v := (2 : Int32)) dX12_set_90 (by decide) ?_
                refine e_icmp_ne (tgt := 103) dX12_set_91 (by decide) (fun c23 => ?_) (fun c23 => ?_)
                · replace H := of_ c23 H
                  refine g_aload_n dX12_set_103 rfl rfl ?_
                  refine e_getR (hY.t 0 rfl) flX12_41_13 dX12_set_104 rfl (hY.r 9 rfl) ?_
                  refine e_iload_n dX12_set_107 rfl ?_
                  replace H := og H; obtain ⟨g24, H⟩ := H
                  refine e_iald (hY.t 10 rfl) (ixb_y (hY.n 10 rfl) g24) dX12_set_108 ?_
                  obtain rfl := Option.some.inj H
                  exact e_wk (lk1 (lk1 (lk1 (lk1 (lk1 lkn))))) k21
                · replace H := ot c23 H
                  refine g_aload_n dX12_set_94 rfl rfl ?_
                  refine e_getR (hY.t 0 rfl) flX12_38_13 dX12_set_95 rfl (hY.r 8 rfl) ?_
                  refine e_iload_n dX12_set_98 rfl ?_
                  replace H := og H; obtain ⟨g25, H⟩ := H
                  refine e_iald (hY.t 9 rfl) (ixb_y (hY.n 9 rfl) g25) dX12_set_99 ?_
                  refine e_goto (tgt := 109) dX12_set_100 (by decide) ?_
                  obtain rfl := Option.some.inj H
                  exact e_wk (lk1 (lk1 (lk1 (lk1 (lk1 lkn))))) k21
              · replace H := ot c22 H
                refine g_aload_n dX12_set_80 rfl rfl ?_
                refine e_getR (hY.t 0 rfl) flX12_35_13 dX12_set_81 rfl (hY.r 7 rfl) ?_
                refine e_iload_n dX12_set_84 rfl ?_
                replace H := og H; obtain ⟨g26, H⟩ := H
                refine e_iald (hY.t 8 rfl) (ixb_y (hY.n 8 rfl) g26) dX12_set_85 ?_
                refine e_goto (tgt := 109) dX12_set_86 (by decide) ?_
                obtain rfl := Option.some.inj H
                exact e_wk (lk1 (lk1 (lk1 (lk1 (lk1 lkn))))) k21
            · replace H := ot c19 H
              refine g_aload_n dX12_set_66 rfl rfl ?_
              refine e_getR (hY.t 0 rfl) flX12_32_13 dX12_set_67 rfl (hY.r 6 rfl) ?_
              refine e_iload_n dX12_set_70 rfl ?_
              replace H := og H; obtain ⟨g27, H⟩ := H
              refine e_iald (hY.t 7 rfl) (ixb_y (hY.n 7 rfl) g27) dX12_set_71 ?_
              refine e_goto (tgt := 109) dX12_set_72 (by decide) ?_
              obtain rfl := Option.some.inj H
              exact e_wk (lk1 (lk1 (lk1 (lk1 (lk1 lkn))))) k21
          · replace H := of_ (nb c18) H
            refine e_bipush (v := (-5 : Int32)) dX12_set_59 (by decide) ?_
            obtain rfl := Option.some.inj H
            exact z_iret rfl rfl dX12_set_61 rfl rfl
        replace H := c15
        refine e_if_ne (tgt := 41) dX12_set_32 (by decide) (fun c11 => ?_) (fun c11 => ?_)
        · replace H := of_ c11 H
          refine e_iload_n dX12_set_41 rfl ?_
          refine e_iconst (v := (3 : Int32)) dX12_set_42 (by decide) ?_
          refine e_icmp_ne (tgt := 50) dX12_set_43 (by decide) (fun c14 => ?_) (fun c14 => ?_)
          · replace H := of_ c14 H
            refine e_ldc2 (v := (999 : Int64)) lkX12_147 dX12_set_50 ?_
            obtain rfl := Option.some.inj H
            exact e_wk (lk1 (lk1 (lk1 (lk1 (lk1 lkn))))) k13
          · replace H := ot c14 H
            refine e_lconst (v := (1 : Int64)) dX12_set_46 (by decide) ?_
            refine e_goto (tgt := 53) dX12_set_47 (by decide) ?_
            obtain rfl := Option.some.inj H
            exact e_wk (lk1 (lk1 (lk1 (lk1 (lk1 lkn))))) k13
        · replace H := ot c11 H
          refine e_ldc2 (v := (99 : Int64)) lkX12_140 dX12_set_35 ?_
          refine e_goto (tgt := 53) dX12_set_38 (by decide) ?_
          obtain rfl := Option.some.inj H
          exact e_wk (lk1 (lk1 (lk1 (lk1 (lk1 lkn))))) k13
      replace H := c10
      refine e_if_ne (tgt := 30) dX12_set_23 (by decide) (fun c7 => ?_) (fun c7 => ?_)
      · replace H := of_ c7 H
        refine e_lconst (v := (0 : Int64)) dX12_set_30 (by decide) ?_
        obtain rfl := Option.some.inj H
        exact e_wk (lk1 (lk1 (lk1 (lk1 (lk1 lkn))))) k9
      · replace H := ot c7 H
        refine e_lconst (v := (1 : Int64)) dX12_set_26 (by decide) ?_
        refine e_goto (tgt := 31) dX12_set_27 (by decide) ?_
        obtain rfl := Option.some.inj H
        exact e_wk (lk1 (lk1 (lk1 (lk1 (lk1 lkn))))) k9
-- X12_seenOf
def f_X12_seenOf (p1 : Int32) (h : HS) : Option Int32 := (if ixb p1 8 = true then (if (hI h 64 p1.toNatClampNeg) = (0 : Int32) then (some (0 : Int32)) else (if (hI h 64 p1.toNatClampNeg) = (3 : Int32) then (some (2 : Int32)) else (if (hI h 64 p1.toNatClampNeg) = (5 : Int32) then (if ixb p1 8 = true then (some ((2 : Int32) + (hI h 70 p1.toNatClampNeg))) else none) else (some (1 : Int32))))) else none)
set_option maxHeartbeats 4000000 in
set_option maxRecDepth 20000 in
theorem t_X12_seenOf {G : GE} (d : Nat) {p1 : Int32} {h : HS} {q : Int32} (hY : LY TM h) (H : f_X12_seenOf p1 h = some q) : CE G (d + 0) yX12_seenOf miX12_seenOf [.ref 60, .int p1] h (some (.int q)) (h) := by
  unfold f_X12_seenOf at H
  refine ce_of rfl (by decide) (fun q => by first | rfl | cases q) (Nat.le_of_ble_eq_true rfl) rfl ?_
  refine g_aload_n dX12_seenOf_0 rfl rfl ?_
  refine e_getR (hY.t 0 rfl) flX12_23_13 dX12_seenOf_1 rfl (hY.r 3 rfl) ?_
  refine e_iload_n dX12_seenOf_4 rfl ?_
  replace H := og H; obtain ⟨g1, H⟩ := H
  refine e_iald (hY.t 4 rfl) (ixb_y (hY.n 4 rfl) g1) dX12_seenOf_5 ?_
  by_cases k2 : (hI h 64 p1.toNatClampNeg) = (0 : Int32)
  · replace H := ot k2 H
    refine e_lookup (off := 34) (tgt := 40) dX12_seenOf_6 (by decide) (by rw [k2]; decide) (by decide) ?_
    refine e_iconst (v := (0 : Int32)) dX12_seenOf_40 (by decide) ?_
    obtain rfl := Option.some.inj H
    exact z_iret rfl rfl dX12_seenOf_41 rfl rfl
  · replace H := of_ k2 H
    by_cases k3 : (hI h 64 p1.toNatClampNeg) = (3 : Int32)
    · replace H := ot k3 H
      refine e_lookup (off := 36) (tgt := 42) dX12_seenOf_6 (by decide) (by rw [k3]; decide) (by decide) ?_
      refine e_iconst (v := (2 : Int32)) dX12_seenOf_42 (by decide) ?_
      obtain rfl := Option.some.inj H
      exact z_iret rfl rfl dX12_seenOf_43 rfl rfl
    · replace H := of_ k3 H
      by_cases k4 : (hI h 64 p1.toNatClampNeg) = (5 : Int32)
      · replace H := ot k4 H
        refine e_lookup (off := 38) (tgt := 44) dX12_seenOf_6 (by decide) (by rw [k4]; decide) (by decide) ?_
        refine e_iconst (v := (2 : Int32)) dX12_seenOf_44 (by decide) ?_
        refine g_aload_n dX12_seenOf_45 rfl rfl ?_
        refine e_getR (hY.t 0 rfl) flX12_41_13 dX12_seenOf_46 rfl (hY.r 9 rfl) ?_
        refine e_iload_n dX12_seenOf_49 rfl ?_
        replace H := og H; obtain ⟨g5, H⟩ := H
        refine e_iald (hY.t 10 rfl) (ixb_y (hY.n 10 rfl) g5) dX12_seenOf_50 ?_
        refine e_iadd dX12_seenOf_51 ?_
        obtain rfl := Option.some.inj H
        exact z_iret rfl rfl dX12_seenOf_52 rfl rfl
      · replace H := of_ k4 H
        refine e_lookup (off := 47) (tgt := 53) dX12_seenOf_6 (by decide) (by have q0 : ¬ (0 : Int) = (hI h 64 p1.toNatClampNeg).toInt := fun z => i32_ne k2 z.symm; have q3 : ¬ (3 : Int) = (hI h 64 p1.toNatClampNeg).toInt := fun z => i32_ne k3 z.symm; have q5 : ¬ (5 : Int) = (hI h 64 p1.toNatClampNeg).toInt := fun z => i32_ne k4 z.symm; simp [Op.lookupswitch.offset, *]) (by decide) ?_
        refine e_iconst (v := (1 : Int32)) dX12_seenOf_53 (by decide) ?_
        obtain rfl := Option.some.inj H
        exact z_iret rfl rfl dX12_seenOf_54 rfl rfl
-- X12_byteAt
def f_X12_byteAt (p1 : Int32) (h : HS) : Option Int32 := (if (hI h 60 27) ≤ p1 then (some (-1 : Int32)) else (if ixb ((hI h 60 26) + p1) 960 = true then (some (hI h 61 ((hI h 60 26) + p1).toNatClampNeg)) else none))
set_option maxHeartbeats 4000000 in
set_option maxRecDepth 20000 in
theorem t_X12_byteAt {G : GE} (d : Nat) {p1 : Int32} {h : HS} {q : Int32} (hY : LY TM h) (H : f_X12_byteAt p1 h = some q) : CE G (d + 0) yX12_byteAt miX12_byteAt [.ref 60, .int p1] h (some (.int q)) (h) := by
  unfold f_X12_byteAt at H
  refine ce_of rfl (by decide) (fun q => by first | rfl | cases q) (Nat.le_of_ble_eq_true rfl) rfl ?_
  refine e_iload_n dX12_byteAt_0 rfl ?_
  refine g_aload_n dX12_byteAt_1 rfl rfl ?_
  refine e_getI (hY.t 0 rfl) flX12_245_13 dX12_byteAt_2 rfl ?_
  refine e_icmp_ge (tgt := 22) dX12_byteAt_5 (by decide) (fun c1 => ?_) (fun c1 => ?_)
  · replace H := ot c1 H
    refine e_iconst (v := (-1 : Int32)) dX12_byteAt_22 (by decide) ?_
    obtain rfl := Option.some.inj H
    exact z_iret rfl rfl dX12_byteAt_23 rfl rfl
  · replace H := of_ c1 H
    refine g_aload_n dX12_byteAt_8 rfl rfl ?_
    refine e_getR (hY.t 0 rfl) flX12_13_13 dX12_byteAt_9 rfl (hY.r 0 rfl) ?_
    refine g_aload_n dX12_byteAt_12 rfl rfl ?_
    refine e_getI (hY.t 0 rfl) flX12_248_13 dX12_byteAt_13 rfl ?_
    refine e_iload_n dX12_byteAt_16 rfl ?_
    refine e_iadd dX12_byteAt_17 ?_
    replace H := og H; obtain ⟨g2, H⟩ := H
    refine e_iald (hY.t 1 rfl) (ixb_y (hY.n 1 rfl) g2) dX12_byteAt_18 ?_
    refine e_goto (tgt := 23) dX12_byteAt_19 (by decide) ?_
    obtain rfl := Option.some.inj H
    exact z_iret rfl rfl dX12_byteAt_23 rfl rfl
-- X12_next
def l_X12_next_0  : Nat → HS → Option HS
  | 0, _ => none
  | n + 1, h => (Option.bind (f_X12_byteAt (hI h 60 31) h) (fun q7 => (if q7 = (32 : Int32) then (l_X12_next_0  n (sI h 60 31 ((hI h 60 31) + (1 : Int32)))) else (Option.bind (f_X12_byteAt (hI h 60 31) h) (fun q10 => (if q10 = (10 : Int32) then (l_X12_next_0  n (sI h 60 31 ((hI h 60 31) + (1 : Int32)))) else (some h)))))))
set_option maxHeartbeats 4000000 in
set_option maxRecDepth 20000 in
theorem p_X12_next_0  : ∀ (n : Nat)  {h : HS} {q : HS}, l_X12_next_0  n h = some q → Pr h q := by
  intro n
  induction n with
  | zero => intro h q H; exact nz H
  | succ n ih =>
    intro h q H
    unfold l_X12_next_0 at H
    replace H := ob H; obtain ⟨q7, c8, H⟩ := H
    replace H := oi H; obtain ⟨c9, H⟩ | ⟨c9, H⟩ := H
    · exact (Pr.rf.sI).tr (ih H)
    · replace H := ob H; obtain ⟨q10, c11, H⟩ := H
      replace H := oi H; obtain ⟨c12, H⟩ | ⟨c12, H⟩ := H
      · exact (Pr.rf.sI).tr (ih H)
      · obtain rfl := Option.some.inj H
        exact Pr.rf
set_option maxHeartbeats 4000000 in
set_option maxRecDepth 20000 in
theorem w_X12_next_0 {G : GE} (d : Nat)  {r : Option Value} {h' : HS}  : ∀ (n : Nat)  {h : HS} {q : HS}, LY TM h → l_X12_next_0  n h = some q → En G (d + 1) miX12_next 39 [.ref 60, dum, dum] [] q r h' → En G (d + 1) miX12_next 0 [.ref 60, dum, dum] [] h r h' := by
  intro n
  induction n with
  | zero => intro h q hYTM H kE; exact nz H
  | succ n ih =>
    intro h q hYTM H kE
    unfold l_X12_next_0 at H
    refine g_aload_n dX12_next_0 rfl rfl ?_
    refine g_aload_n dX12_next_1 rfl rfl ?_
    refine e_getI (hYTM.t 0 rfl) flX12_251_13 dX12_next_2 rfl ?_
    replace H := ob H; obtain ⟨q7, c8, H⟩ := H
    refine v1 (hYTM.t 0 rfl) (by decide) rfl rfl lmX12_254 liX12_byteAt lvX12_X12_byteAt msX12_byteAt dX12_next_5 (t_X12_byteAt (d + 0) hYTM c8) rfl (Nat.le_of_ble_eq_true rfl) (Nat.le_refl _) ?_
    refine e_bipush (v := (32 : Int32)) dX12_next_8 (by decide) ?_
    refine e_icmp_eq (tgt := 26) dX12_next_10 (by decide) (fun c9 => ?_) (fun c9 => ?_)
    · replace H := ot c9 H
      refine g_aload_n dX12_next_26 rfl rfl ?_
      refine e_dup dX12_next_27 rfl ?_
      refine e_getI (hYTM.t 0 rfl) flX12_251_13 dX12_next_28 rfl ?_
      refine e_iconst (v := (1 : Int32)) dX12_next_31 (by decide) ?_
      refine e_iadd dX12_next_32 ?_
      refine e_putI (hYTM.t 0 rfl) fpX12_251_13 rfl dX12_next_33 ?_
      refine e_goto (tgt := 0) dX12_next_36 (by decide) ?_
      exact e_wk (lk1 (lk1 (lk1 lkn))) (ih (hYTM.sI) H kE)
    · replace H := of_ c9 H
      refine g_aload_n dX12_next_13 rfl rfl ?_
      refine g_aload_n dX12_next_14 rfl rfl ?_
      refine e_getI (hYTM.t 0 rfl) flX12_251_13 dX12_next_15 rfl ?_
      replace H := ob H; obtain ⟨q10, c11, H⟩ := H
      refine v1 (hYTM.t 0 rfl) (by decide) rfl rfl lmX12_254 liX12_byteAt lvX12_X12_byteAt msX12_byteAt dX12_next_18 (t_X12_byteAt (d + 0) hYTM c11) rfl (Nat.le_of_ble_eq_true rfl) (Nat.le_refl _) ?_
      refine e_bipush (v := (10 : Int32)) dX12_next_21 (by decide) ?_
      refine e_icmp_ne (tgt := 39) dX12_next_23 (by decide) (fun c12 => ?_) (fun c12 => ?_)
      · replace H := of_ c12 H
        obtain rfl := Option.some.inj H
        exact e_wk (lk1 (lk1 (lk1 lkn))) kE
      · replace H := ot c12 H
        refine g_aload_n dX12_next_26 rfl rfl ?_
        refine e_dup dX12_next_27 rfl ?_
        refine e_getI (hYTM.t 0 rfl) flX12_251_13 dX12_next_28 rfl ?_
        refine e_iconst (v := (1 : Int32)) dX12_next_31 (by decide) ?_
        refine e_iadd dX12_next_32 ?_
        refine e_putI (hYTM.t 0 rfl) fpX12_251_13 rfl dX12_next_33 ?_
        refine e_goto (tgt := 0) dX12_next_36 (by decide) ?_
        exact e_wk (lk1 (lk1 (lk1 lkn))) (ih (hYTM.sI) H kE)
def l_X12_next_211  : Nat → Int32 → HS → Option (Int32 × HS)
  | 0, _, _ => none
  | n + 1, x2, h => (Option.bind (f_X12_byteAt (hI h 60 31) h) (fun q69 => (Option.bind (f_X12_in q69.toInt64 (48 : Int64) (57 : Int64)) (fun q71 => (if q71 = true then (Option.bind (if (4 : Int32) ≤ x2 then (some (hL h 60 30)) else (Option.bind (f_X12_byteAt (hI h 60 31) h) (fun q77 => (some ((((10 : Int64) * (hL h 60 30)) + q77.toInt64) - (48 : Int64)))))) (fun q75 => (l_X12_next_211  n (x2 + (1 : Int32)) (sI (sL h 60 30 q75) 60 31 ((hI (sL h 60 30 q75) 60 31) + (1 : Int32)))))) else (some (x2, h)))))))
set_option maxHeartbeats 4000000 in
set_option maxRecDepth 20000 in
theorem p_X12_next_211  : ∀ (n : Nat) {x2 : Int32} {h : HS} {q : (Int32 × HS)}, l_X12_next_211  n x2 h = some q → Pr h q.2 := by
  intro n
  induction n with
  | zero => intro x2 h q H; exact nz H
  | succ n ih =>
    intro x2 h q H
    unfold l_X12_next_211 at H
    replace H := ob H; obtain ⟨q69, c70, H⟩ := H
    replace H := ob H; obtain ⟨q71, c72, H⟩ := H
    replace H := oi H; obtain ⟨c73, H⟩ | ⟨c73, H⟩ := H
    · replace H := ob H; obtain ⟨q75, c79, H⟩ := H
      exact ((Pr.rf.sL).sI).tr (ih H)
    · obtain rfl := Option.some.inj H
      exact Pr.rf
set_option maxHeartbeats 4000000 in
set_option maxRecDepth 20000 in
theorem w_X12_next_211 {G : GE} (d : Nat)  {r : Option Value} {h' : HS}  : ∀ (n : Nat) {x2 : Int32} {h : HS} {q : (Int32 × HS)}, LY TM h → l_X12_next_211  n x2 h = some q → En G (d + 1) miX12_next 286 [.ref 60, dum, .int q.1] [] q.2 r h' → En G (d + 1) miX12_next 211 [.ref 60, dum, .int x2] [] h r h' := by
  intro n
  induction n with
  | zero => intro x2 h q hYTM H kE; exact nz H
  | succ n ih =>
    intro x2 h q hYTM H kE
    unfold l_X12_next_211 at H
    refine g_aload_n dX12_next_211 rfl rfl ?_
    refine g_aload_n dX12_next_212 rfl rfl ?_
    refine e_getI (hYTM.t 0 rfl) flX12_251_13 dX12_next_213 rfl ?_
    replace H := ob H; obtain ⟨q69, c70, H⟩ := H
    refine v1 (hYTM.t 0 rfl) (by decide) rfl rfl lmX12_254 liX12_byteAt lvX12_X12_byteAt msX12_byteAt dX12_next_216 (t_X12_byteAt (d + 0) hYTM c70) rfl (Nat.le_of_ble_eq_true rfl) (Nat.le_refl _) ?_
    refine e_i2l dX12_next_219 ?_
    refine e_ldc2 (v := (48 : Int64)) lkX12_277 dX12_next_220 ?_
    refine e_ldc2 (v := (57 : Int64)) lkX12_279 dX12_next_223 ?_
    replace H := ob H; obtain ⟨q71, c72, H⟩ := H
    refine s1 lmX12_125 lsX12_in msX12_in dX12_next_226 (t_X12_in (d + 0) c72) rfl (Nat.le_of_ble_eq_true rfl) (Nat.le_refl _) ?_
    refine e_ifB_eq (tgt := 286) dX12_next_229 (by decide) (fun c73 => ?_) (fun c73 => ?_)
    · replace H := of_ (nb c73) H
      obtain rfl := Option.some.inj H
      exact e_wk (lk1 (lk1 (lk1 lkn))) kE
    · replace H := ot c73 H
      refine g_aload_n dX12_next_232 rfl rfl ?_
      refine e_iload_n dX12_next_233 rfl ?_
      refine e_iconst (v := (4 : Int32)) dX12_next_234 (by decide) ?_
      replace H := ob H; obtain ⟨q75, c79, H⟩ := H
      have k76 : En G (d + 1) miX12_next 267 [.ref 60, dum, .int x2] [.long q75, .ref 60] h r h' := by
        refine e_putL (hYTM.t 0 rfl) fpX12_267_13 rfl dX12_next_267 ?_
        refine e_iinc dX12_next_270 rfl (ii_ (by decide : Int32.ofInt (1) = (1 : Int32))) (Nat.le_of_ble_eq_true rfl) rfl rfl ?_
        refine g_aload_n dX12_next_273 rfl rfl ?_
        refine e_dup dX12_next_274 rfl ?_
        refine e_getI ((hYTM.sL).t 0 rfl) flX12_251_13 dX12_next_275 rfl ?_
        refine e_iconst (v := (1 : Int32)) dX12_next_278 (by decide) ?_
        refine e_iadd dX12_next_279 ?_
        refine e_putI ((hYTM.sL).t 0 rfl) fpX12_251_13 rfl dX12_next_280 ?_
        refine e_goto (tgt := 211) dX12_next_283 (by decide) ?_
        exact e_wk (lk1 (lk1 (lk1 lkn))) (ih ((hYTM.sL).sI) H kE)
      replace H := c79
      refine e_icmp_ge (tgt := 263) dX12_next_235 (by decide) (fun c74 => ?_) (fun c74 => ?_)
      · replace H := ot c74 H
        refine g_aload_n dX12_next_263 rfl rfl ?_
        refine e_getL (hYTM.t 0 rfl) flX12_267_13 dX12_next_264 rfl ?_
        obtain rfl := Option.some.inj H
        exact e_wk (lk1 (lk1 (lk1 lkn))) k76
      · replace H := of_ c74 H
        refine e_ldc2 (v := (10 : Int64)) lkX12_281 dX12_next_238 ?_
        refine g_aload_n dX12_next_241 rfl rfl ?_
        refine e_getL (hYTM.t 0 rfl) flX12_267_13 dX12_next_242 rfl ?_
        refine e_lmul dX12_next_245 ?_
        refine g_aload_n dX12_next_246 rfl rfl ?_
        refine g_aload_n dX12_next_247 rfl rfl ?_
        refine e_getI (hYTM.t 0 rfl) flX12_251_13 dX12_next_248 rfl ?_
        replace H := ob H; obtain ⟨q77, c78, H⟩ := H
        refine v1 (hYTM.t 0 rfl) (by decide) rfl rfl lmX12_254 liX12_byteAt lvX12_X12_byteAt msX12_byteAt dX12_next_251 (t_X12_byteAt (d + 0) hYTM c78) rfl (Nat.le_of_ble_eq_true rfl) (Nat.le_refl _) ?_
        refine e_i2l dX12_next_254 ?_
        refine e_ladd dX12_next_255 ?_
        refine e_ldc2 (v := (48 : Int64)) lkX12_277 dX12_next_256 ?_
        refine e_lsub dX12_next_259 ?_
        refine e_goto (tgt := 267) dX12_next_260 (by decide) ?_
        obtain rfl := Option.some.inj H
        exact e_wk (lk1 (lk1 (lk1 lkn))) k76
def l_X12_next_107  : Nat → Int32 → HS → Option HS
  | 0, _, _ => none
  | n + 1, x2, h => (Option.bind (f_X12_byteAt (hI h 60 31) h) (fun q96 => (Option.bind (f_X12_in q96.toInt64 (97 : Int64) (122 : Int64)) (fun q98 => (if q98 = true then (Option.bind (if (8 : Int32) ≤ x2 then (some (-1 : Int64)) else (Option.bind (f_X12_byteAt (hI h 60 31) h) (fun q104 => (some ((((27 : Int64) * (hL h 60 30)) + q104.toInt64) - (96 : Int64)))))) (fun q102 => (l_X12_next_107  n (x2 + (1 : Int32)) (sI (sL h 60 30 q102) 60 31 ((hI (sL h 60 30 q102) 60 31) + (1 : Int32)))))) else (some h))))))
set_option maxHeartbeats 4000000 in
set_option maxRecDepth 20000 in
theorem p_X12_next_107  : ∀ (n : Nat) {x2 : Int32} {h : HS} {q : HS}, l_X12_next_107  n x2 h = some q → Pr h q := by
  intro n
  induction n with
  | zero => intro x2 h q H; exact nz H
  | succ n ih =>
    intro x2 h q H
    unfold l_X12_next_107 at H
    replace H := ob H; obtain ⟨q96, c97, H⟩ := H
    replace H := ob H; obtain ⟨q98, c99, H⟩ := H
    replace H := oi H; obtain ⟨c100, H⟩ | ⟨c100, H⟩ := H
    · replace H := ob H; obtain ⟨q102, c106, H⟩ := H
      exact ((Pr.rf.sL).sI).tr (ih H)
    · obtain rfl := Option.some.inj H
      exact Pr.rf
set_option maxHeartbeats 4000000 in
set_option maxRecDepth 20000 in
theorem w_X12_next_107 {G : GE} (d : Nat)  {r : Option Value} {h' : HS}  : ∀ (n : Nat) {x2 : Int32} {h : HS} {q : HS}, LY TM h → l_X12_next_107  n x2 h = some q → En G (d + 1) miX12_next 182 [dum, dum, dum] [] q r h' → En G (d + 1) miX12_next 107 [.ref 60, dum, .int x2] [] h r h' := by
  intro n
  induction n with
  | zero => intro x2 h q hYTM H kE; exact nz H
  | succ n ih =>
    intro x2 h q hYTM H kE
    unfold l_X12_next_107 at H
    refine g_aload_n dX12_next_107 rfl rfl ?_
    refine g_aload_n dX12_next_108 rfl rfl ?_
    refine e_getI (hYTM.t 0 rfl) flX12_251_13 dX12_next_109 rfl ?_
    replace H := ob H; obtain ⟨q96, c97, H⟩ := H
    refine v1 (hYTM.t 0 rfl) (by decide) rfl rfl lmX12_254 liX12_byteAt lvX12_X12_byteAt msX12_byteAt dX12_next_112 (t_X12_byteAt (d + 0) hYTM c97) rfl (Nat.le_of_ble_eq_true rfl) (Nat.le_refl _) ?_
    refine e_i2l dX12_next_115 ?_
    refine e_ldc2 (v := (97 : Int64)) lkX12_263 dX12_next_116 ?_
    refine e_ldc2 (v := (122 : Int64)) lkX12_265 dX12_next_119 ?_
    replace H := ob H; obtain ⟨q98, c99, H⟩ := H
    refine s1 lmX12_125 lsX12_in msX12_in dX12_next_122 (t_X12_in (d + 0) c99) rfl (Nat.le_of_ble_eq_true rfl) (Nat.le_refl _) ?_
    refine e_ifB_eq (tgt := 182) dX12_next_125 (by decide) (fun c100 => ?_) (fun c100 => ?_)
    · replace H := of_ (nb c100) H
      obtain rfl := Option.some.inj H
      exact e_wk (lk0 (lk1 (lk0 lkn))) kE
    · replace H := ot c100 H
      refine g_aload_n dX12_next_128 rfl rfl ?_
      refine e_iload_n dX12_next_129 rfl ?_
      refine e_bipush (v := (8 : Int32)) dX12_next_130 (by decide) ?_
      replace H := ob H; obtain ⟨q102, c106, H⟩ := H
      have k103 : En G (d + 1) miX12_next 163 [.ref 60, dum, .int x2] [.long q102, .ref 60] h r h' := by
        refine e_putL (hYTM.t 0 rfl) fpX12_267_13 rfl dX12_next_163 ?_
        refine e_iinc dX12_next_166 rfl (ii_ (by decide : Int32.ofInt (1) = (1 : Int32))) (Nat.le_of_ble_eq_true rfl) rfl rfl ?_
        refine g_aload_n dX12_next_169 rfl rfl ?_
        refine e_dup dX12_next_170 rfl ?_
        refine e_getI ((hYTM.sL).t 0 rfl) flX12_251_13 dX12_next_171 rfl ?_
        refine e_iconst (v := (1 : Int32)) dX12_next_174 (by decide) ?_
        refine e_iadd dX12_next_175 ?_
        refine e_putI ((hYTM.sL).t 0 rfl) fpX12_251_13 rfl dX12_next_176 ?_
        refine e_goto (tgt := 107) dX12_next_179 (by decide) ?_
        exact e_wk (lk1 (lk1 (lk1 lkn))) (ih ((hYTM.sL).sI) H kE)
      replace H := c106
      refine e_icmp_ge (tgt := 160) dX12_next_132 (by decide) (fun c101 => ?_) (fun c101 => ?_)
      · replace H := ot c101 H
        refine e_ldc2 (v := (-1 : Int64)) lkX12_275 dX12_next_160 ?_
        obtain rfl := Option.some.inj H
        exact e_wk (lk1 (lk1 (lk1 lkn))) k103
      · replace H := of_ c101 H
        refine e_ldc2 (v := (27 : Int64)) lkX12_271 dX12_next_135 ?_
        refine g_aload_n dX12_next_138 rfl rfl ?_
        refine e_getL (hYTM.t 0 rfl) flX12_267_13 dX12_next_139 rfl ?_
        refine e_lmul dX12_next_142 ?_
        refine g_aload_n dX12_next_143 rfl rfl ?_
        refine g_aload_n dX12_next_144 rfl rfl ?_
        refine e_getI (hYTM.t 0 rfl) flX12_251_13 dX12_next_145 rfl ?_
        replace H := ob H; obtain ⟨q104, c105, H⟩ := H
        refine v1 (hYTM.t 0 rfl) (by decide) rfl rfl lmX12_254 liX12_byteAt lvX12_X12_byteAt msX12_byteAt dX12_next_148 (t_X12_byteAt (d + 0) hYTM c105) rfl (Nat.le_of_ble_eq_true rfl) (Nat.le_refl _) ?_
        refine e_i2l dX12_next_151 ?_
        refine e_ladd dX12_next_152 ?_
        refine e_ldc2 (v := (96 : Int64)) lkX12_273 dX12_next_153 ?_
        refine e_lsub dX12_next_156 ?_
        refine e_goto (tgt := 163) dX12_next_157 (by decide) ?_
        obtain rfl := Option.some.inj H
        exact e_wk (lk1 (lk1 (lk1 lkn))) k103
def f_X12_next  (h : HS) : Option HS := (Option.bind (l_X12_next_0  1000 h) (fun q13 => (Option.bind (f_X12_byteAt (hI (sI q13 60 29 (hI q13 60 31)) 60 31) (sI q13 60 29 (hI q13 60 31))) (fun q17 => (if 0 ≤ q17 then (Option.bind (f_X12_in q17.toInt64 (97 : Int64) (122 : Int64)) (fun q20 => (if q20 = true then (Option.bind (l_X12_next_107  1000 (0 : Int32) (sL (sI (sI (sI q13 60 29 (hI q13 60 31)) 60 28 (4 : Int32)) 60 28 (1 : Int32)) 60 30 (0 : Int64))) (fun q107 => (some q107))) else (Option.bind (f_X12_in q17.toInt64 (48 : Int64) (57 : Int64)) (fun q23 => (if q23 = true then (Option.bind (l_X12_next_211  1000 (0 : Int32) (sL (sI (sI (sI q13 60 29 (hI q13 60 31)) 60 28 (4 : Int32)) 60 28 (2 : Int32)) 60 30 (0 : Int64))) (fun q80 => (if q80.1 ≤ (4 : Int32) then (some (sI q80.2 60 28 (2 : Int32))) else (some (sI q80.2 60 28 (4 : Int32)))))) else (if q17 = (40 : Int32) then (bh (sI (sL (sI (sI (sI q13 60 29 (hI q13 60 31)) 60 28 (4 : Int32)) 60 28 (3 : Int32)) 60 30 q17.toInt64) 60 31 ((hI (sL (sI (sI (sI q13 60 29 (hI q13 60 31)) 60 28 (4 : Int32)) 60 28 (3 : Int32)) 60 30 q17.toInt64) 60 31) + (1 : Int32))) (fun h27 => (some h27))) else (if q17 = (41 : Int32) then (bh (sI (sL (sI (sI (sI q13 60 29 (hI q13 60 31)) 60 28 (4 : Int32)) 60 28 (3 : Int32)) 60 30 q17.toInt64) 60 31 ((hI (sL (sI (sI (sI q13 60 29 (hI q13 60 31)) 60 28 (4 : Int32)) 60 28 (3 : Int32)) 60 30 q17.toInt64) 60 31) + (1 : Int32))) (fun h31 => (some h31))) else (if q17 = (59 : Int32) then (bh (sI (sL (sI (sI (sI q13 60 29 (hI q13 60 31)) 60 28 (4 : Int32)) 60 28 (3 : Int32)) 60 30 q17.toInt64) 60 31 ((hI (sL (sI (sI (sI q13 60 29 (hI q13 60 31)) 60 28 (4 : Int32)) 60 28 (3 : Int32)) 60 30 q17.toInt64) 60 31) + (1 : Int32))) (fun h35 => (some h35))) else (if q17 = (43 : Int32) then (bh (sI (sL (sI (sI (sI q13 60 29 (hI q13 60 31)) 60 28 (4 : Int32)) 60 28 (3 : Int32)) 60 30 q17.toInt64) 60 31 ((hI (sL (sI (sI (sI q13 60 29 (hI q13 60 31)) 60 28 (4 : Int32)) 60 28 (3 : Int32)) 60 30 q17.toInt64) 60 31) + (1 : Int32))) (fun h39 => (some h39))) else (if q17 = (45 : Int32) then (bh (sI (sL (sI (sI (sI q13 60 29 (hI q13 60 31)) 60 28 (4 : Int32)) 60 28 (3 : Int32)) 60 30 q17.toInt64) 60 31 ((hI (sL (sI (sI (sI q13 60 29 (hI q13 60 31)) 60 28 (4 : Int32)) 60 28 (3 : Int32)) 60 30 q17.toInt64) 60 31) + (1 : Int32))) (fun h43 => (some h43))) else (if q17 = (42 : Int32) then (bh (sI (sL (sI (sI (sI q13 60 29 (hI q13 60 31)) 60 28 (4 : Int32)) 60 28 (3 : Int32)) 60 30 q17.toInt64) 60 31 ((hI (sL (sI (sI (sI q13 60 29 (hI q13 60 31)) 60 28 (4 : Int32)) 60 28 (3 : Int32)) 60 30 q17.toInt64) 60 31) + (1 : Int32))) (fun h47 => (some h47))) else (if q17 = (60 : Int32) then (bh (sI (sL (sI (sI (sI q13 60 29 (hI q13 60 31)) 60 28 (4 : Int32)) 60 28 (3 : Int32)) 60 30 q17.toInt64) 60 31 ((hI (sL (sI (sI (sI q13 60 29 (hI q13 60 31)) 60 28 (4 : Int32)) 60 28 (3 : Int32)) 60 30 q17.toInt64) 60 31) + (1 : Int32))) (fun h51 => (some h51))) else (if q17 = (61 : Int32) then (bh (sI (sL (sI (sI (sI q13 60 29 (hI q13 60 31)) 60 28 (4 : Int32)) 60 28 (3 : Int32)) 60 30 q17.toInt64) 60 31 ((hI (sL (sI (sI (sI q13 60 29 (hI q13 60 31)) 60 28 (4 : Int32)) 60 28 (3 : Int32)) 60 30 q17.toInt64) 60 31) + (1 : Int32))) (fun h55 => (some h55))) else (some (sI (sI q13 60 29 (hI q13 60 31)) 60 28 (4 : Int32))))))))))))))))) else (bh (sI (sI (sI (sI q13 60 29 (hI q13 60 31)) 60 28 (4 : Int32)) 60 28 (0 : Int32)) 60 29 (hI (sI (sI (sI q13 60 29 (hI q13 60 31)) 60 28 (4 : Int32)) 60 28 (0 : Int32)) 60 27)) (fun h111 => (some h111))))))))
set_option maxHeartbeats 4000000 in
set_option maxRecDepth 20000 in
theorem p_X12_next  {h : HS} {q : HS} (H : f_X12_next h = some q) : Pr h q := by
  unfold f_X12_next at H
  replace H := ob H; obtain ⟨q13, c14, H⟩ := H
  have e15 := p_X12_next_0 1000 c14
  replace H := ob H; obtain ⟨q17, c18, H⟩ := H
  replace H := oi H; obtain ⟨c19, H⟩ | ⟨c19, H⟩ := H
  · replace H := ob H; obtain ⟨q20, c21, H⟩ := H
    replace H := oi H; obtain ⟨c22, H⟩ | ⟨c22, H⟩ := H
    · replace H := ob H; obtain ⟨q107, c108, H⟩ := H
      have e109 := p_X12_next_107 1000 c108
      obtain rfl := Option.some.inj H
      exact (((((e15.sI).sI).sI).sL).tr e109)
    · replace H := ob H; obtain ⟨q23, c24, H⟩ := H
      replace H := oi H; obtain ⟨c25, H⟩ | ⟨c25, H⟩ := H
      · replace H := ob H; obtain ⟨q80, c81, H⟩ := H
        have e82 := p_X12_next_211 1000 c81
        replace H := oi H; obtain ⟨c84, H⟩ | ⟨c84, H⟩ := H
        · obtain rfl := Option.some.inj H
          exact ((((((e15.sI).sI).sI).sL).tr e82).sI)
        · obtain rfl := Option.some.inj H
          exact ((((((e15.sI).sI).sI).sL).tr e82).sI)
      · replace H := oi H; obtain ⟨c26, H⟩ | ⟨c26, H⟩ := H
        · replace H := obh H; obtain ⟨h27, e28, H⟩ := H
          obtain rfl := Option.some.inj H
          exact (kP e28 (((((e15.sI).sI).sI).sL).sI))
        · replace H := oi H; obtain ⟨c30, H⟩ | ⟨c30, H⟩ := H
          · replace H := obh H; obtain ⟨h31, e32, H⟩ := H
            obtain rfl := Option.some.inj H
            exact (kP e32 (((((e15.sI).sI).sI).sL).sI))
          · replace H := oi H; obtain ⟨c34, H⟩ | ⟨c34, H⟩ := H
            · replace H := obh H; obtain ⟨h35, e36, H⟩ := H
              obtain rfl := Option.some.inj H
              exact (kP e36 (((((e15.sI).sI).sI).sL).sI))
            · replace H := oi H; obtain ⟨c38, H⟩ | ⟨c38, H⟩ := H
              · replace H := obh H; obtain ⟨h39, e40, H⟩ := H
                obtain rfl := Option.some.inj H
                exact (kP e40 (((((e15.sI).sI).sI).sL).sI))
              · replace H := oi H; obtain ⟨c42, H⟩ | ⟨c42, H⟩ := H
                · replace H := obh H; obtain ⟨h43, e44, H⟩ := H
                  obtain rfl := Option.some.inj H
                  exact (kP e44 (((((e15.sI).sI).sI).sL).sI))
                · replace H := oi H; obtain ⟨c46, H⟩ | ⟨c46, H⟩ := H
                  · replace H := obh H; obtain ⟨h47, e48, H⟩ := H
                    obtain rfl := Option.some.inj H
                    exact (kP e48 (((((e15.sI).sI).sI).sL).sI))
                  · replace H := oi H; obtain ⟨c50, H⟩ | ⟨c50, H⟩ := H
                    · replace H := obh H; obtain ⟨h51, e52, H⟩ := H
                      obtain rfl := Option.some.inj H
                      exact (kP e52 (((((e15.sI).sI).sI).sL).sI))
                    · replace H := oi H; obtain ⟨c54, H⟩ | ⟨c54, H⟩ := H
                      · replace H := obh H; obtain ⟨h55, e56, H⟩ := H
                        obtain rfl := Option.some.inj H
                        exact (kP e56 (((((e15.sI).sI).sI).sL).sI))
                      · obtain rfl := Option.some.inj H
                        exact ((e15.sI).sI)
  · replace H := obh H; obtain ⟨h111, e112, H⟩ := H
    obtain rfl := Option.some.inj H
    exact (kP e112 ((((e15.sI).sI).sI).sI))
set_option maxHeartbeats 4000000 in
set_option maxRecDepth 20000 in
theorem t_X12_next {G : GE} (d : Nat)  {h : HS} {q : HS} (hY : LY TM h) (H : f_X12_next h = some q) : CE G (d + 1) yX12_next miX12_next [.ref 60] h (none) (q) := by
  unfold f_X12_next at H
  refine ce_of rfl (by decide) (fun q => by first | rfl | cases q) (Nat.le_of_ble_eq_true rfl) rfl ?_
  replace H := ob H; obtain ⟨q13, c14, H⟩ := H
  have e15 := p_X12_next_0 1000 c14
  have hY16 := hY.pr okM e15
  refine e_wk (lk1 (lk1 (lk1 lkn))) (w_X12_next_0 d 1000 hY c14 ?_)
  refine g_aload_n dX12_next_39 rfl rfl ?_
  refine g_aload_n dX12_next_40 rfl rfl ?_
  refine e_getI (hY16.t 0 rfl) flX12_251_13 dX12_next_41 rfl ?_
  refine e_putI (hY16.t 0 rfl) fpX12_257_13 rfl dX12_next_44 ?_
  refine g_aload_n dX12_next_47 rfl rfl ?_
  refine g_aload_n dX12_next_48 rfl rfl ?_
  refine e_getI ((hY16.sI).t 0 rfl) flX12_251_13 dX12_next_49 rfl ?_
  replace H := ob H; obtain ⟨q17, c18, H⟩ := H
  refine v1 ((hY16.sI).t 0 rfl) (by decide) rfl rfl lmX12_254 liX12_byteAt lvX12_X12_byteAt msX12_byteAt dX12_next_52 (t_X12_byteAt (d + 0) (hY16.sI) c18) rfl (Nat.le_of_ble_eq_true rfl) (Nat.le_refl _) ?_
  refine e_istore_n dX12_next_55 (Nat.le_of_ble_eq_true rfl) rfl rfl ?_
  refine g_aload_n dX12_next_56 rfl rfl ?_
  refine e_iconst (v := (4 : Int32)) dX12_next_57 (by decide) ?_
  refine e_putI ((hY16.sI).t 0 rfl) fpX12_260_13 rfl dX12_next_58 ?_
  refine e_iload_n dX12_next_61 rfl ?_
  refine e_if_ge (tgt := 81) dX12_next_62 (by decide) (fun c19 => ?_) (fun c19 => ?_)
  · replace H := ot c19 H
    refine e_iload_n dX12_next_81 rfl ?_
    refine e_i2l dX12_next_82 ?_
    refine e_ldc2 (v := (97 : Int64)) lkX12_263 dX12_next_83 ?_
    refine e_ldc2 (v := (122 : Int64)) lkX12_265 dX12_next_86 ?_
    replace H := ob H; obtain ⟨q20, c21, H⟩ := H
    refine s1 lmX12_125 lsX12_in msX12_in dX12_next_89 (t_X12_in (d + 0) c21) rfl (Nat.le_of_ble_eq_true rfl) (Nat.le_refl _) ?_
    refine e_ifB_eq (tgt := 185) dX12_next_92 (by decide) (fun c22 => ?_) (fun c22 => ?_)
    · replace H := of_ (nb c22) H
      refine e_iload_n dX12_next_185 rfl ?_
      refine e_i2l dX12_next_186 ?_
      refine e_ldc2 (v := (48 : Int64)) lkX12_277 dX12_next_187 ?_
      refine e_ldc2 (v := (57 : Int64)) lkX12_279 dX12_next_190 ?_
      replace H := ob H; obtain ⟨q23, c24, H⟩ := H
      refine s1 lmX12_125 lsX12_in msX12_in dX12_next_193 (t_X12_in (d + 0) c24) rfl (Nat.le_of_ble_eq_true rfl) (Nat.le_refl _) ?_
      refine e_ifB_eq (tgt := 303) dX12_next_196 (by decide) (fun c25 => ?_) (fun c25 => ?_)
      · replace H := of_ (nb c25) H
        refine e_iload_n dX12_next_303 rfl ?_
        refine e_bipush (v := (40 : Int32)) dX12_next_304 (by decide) ?_
        refine e_icmp_eq (tgt := 351) dX12_next_306 (by decide) (fun c26 => ?_) (fun c26 => ?_)
        · replace H := ot c26 H
          refine g_aload_n dX12_next_351 rfl rfl ?_
          refine e_iconst (v := (3 : Int32)) dX12_next_352 (by decide) ?_
          refine e_putI (((hY16.sI).sI).t 0 rfl) fpX12_260_13 rfl dX12_next_353 ?_
          refine g_aload_n dX12_next_356 rfl rfl ?_
          refine e_iload_n dX12_next_357 rfl ?_
          refine e_i2l dX12_next_358 ?_
          refine e_putL ((((hY16.sI).sI).sI).t 0 rfl) fpX12_267_13 rfl dX12_next_359 ?_
          refine g_aload_n dX12_next_362 rfl rfl ?_
          refine e_dup dX12_next_363 rfl ?_
          refine e_getI (((((hY16.sI).sI).sI).sL).t 0 rfl) flX12_251_13 dX12_next_364 rfl ?_
          refine e_iconst (v := (1 : Int32)) dX12_next_367 (by decide) ?_
          refine e_iadd dX12_next_368 ?_
          refine e_putI (((((hY16.sI).sI).sI).sL).t 0 rfl) fpX12_251_13 rfl dX12_next_369 ?_
          replace H := obh H; obtain ⟨h27, e28, H⟩ := H
          refine e_hq e28 ?_
          have hY29 := kY e28 (((((hY16.sI).sI).sI).sL).sI)
          obtain rfl := Option.some.inj H
          exact z_vret rfl dX12_next_372 rfl rfl
        · replace H := of_ c26 H
          refine e_iload_n dX12_next_309 rfl ?_
          refine e_bipush (v := (41 : Int32)) dX12_next_310 (by decide) ?_
          refine e_icmp_eq (tgt := 351) dX12_next_312 (by decide) (fun c30 => ?_) (fun c30 => ?_)
          · replace H := ot c30 H
            refine g_aload_n dX12_next_351 rfl rfl ?_
            refine e_iconst (v := (3 : Int32)) dX12_next_352 (by decide) ?_
            refine e_putI (((hY16.sI).sI).t 0 rfl) fpX12_260_13 rfl dX12_next_353 ?_
            refine g_aload_n dX12_next_356 rfl rfl ?_
            refine e_iload_n dX12_next_357 rfl ?_
            refine e_i2l dX12_next_358 ?_
            refine e_putL ((((hY16.sI).sI).sI).t 0 rfl) fpX12_267_13 rfl dX12_next_359 ?_
            refine g_aload_n dX12_next_362 rfl rfl ?_
            refine e_dup dX12_next_363 rfl ?_
            refine e_getI (((((hY16.sI).sI).sI).sL).t 0 rfl) flX12_251_13 dX12_next_364 rfl ?_
            refine e_iconst (v := (1 : Int32)) dX12_next_367 (by decide) ?_
            refine e_iadd dX12_next_368 ?_
            refine e_putI (((((hY16.sI).sI).sI).sL).t 0 rfl) fpX12_251_13 rfl dX12_next_369 ?_
            replace H := obh H; obtain ⟨h31, e32, H⟩ := H
            refine e_hq e32 ?_
            have hY33 := kY e32 (((((hY16.sI).sI).sI).sL).sI)
            obtain rfl := Option.some.inj H
            exact z_vret rfl dX12_next_372 rfl rfl
          · replace H := of_ c30 H
            refine e_iload_n dX12_next_315 rfl ?_
            refine e_bipush (v := (59 : Int32)) dX12_next_316 (by decide) ?_
            refine e_icmp_eq (tgt := 351) dX12_next_318 (by decide) (fun c34 => ?_) (fun c34 => ?_)
            · replace H := ot c34 H
              refine g_aload_n dX12_next_351 rfl rfl ?_
              refine e_iconst (v := (3 : Int32)) dX12_next_352 (by decide) ?_
              refine e_putI (((hY16.sI).sI).t 0 rfl) fpX12_260_13 rfl dX12_next_353 ?_
              refine g_aload_n dX12_next_356 rfl rfl ?_
              refine e_iload_n dX12_next_357 rfl ?_
              refine e_i2l dX12_next_358 ?_
              refine e_putL ((((hY16.sI).sI).sI).t 0 rfl) fpX12_267_13 rfl dX12_next_359 ?_
              refine g_aload_n dX12_next_362 rfl rfl ?_
              refine e_dup dX12_next_363 rfl ?_
              refine e_getI (((((hY16.sI).sI).sI).sL).t 0 rfl) flX12_251_13 dX12_next_364 rfl ?_
              refine e_iconst (v := (1 : Int32)) dX12_next_367 (by decide) ?_
              refine e_iadd dX12_next_368 ?_
              refine e_putI (((((hY16.sI).sI).sI).sL).t 0 rfl) fpX12_251_13 rfl dX12_next_369 ?_
              replace H := obh H; obtain ⟨h35, e36, H⟩ := H
              refine e_hq e36 ?_
              have hY37 := kY e36 (((((hY16.sI).sI).sI).sL).sI)
              obtain rfl := Option.some.inj H
              exact z_vret rfl dX12_next_372 rfl rfl
            · replace H := of_ c34 H
              refine e_iload_n dX12_next_321 rfl ?_
              refine e_bipush (v := (43 : Int32)) dX12_next_322 (by decide) ?_
              refine e_icmp_eq (tgt := 351) dX12_next_324 (by decide) (fun c38 => ?_) (fun c38 => ?_)
              · replace H := ot c38 H
                refine g_aload_n dX12_next_351 rfl rfl ?_
                refine e_iconst (v := (3 : Int32)) dX12_next_352 (by decide) ?_
                refine e_putI (((hY16.sI).sI).t 0 rfl) fpX12_260_13 rfl dX12_next_353 ?_
                refine g_aload_n dX12_next_356 rfl rfl ?_
                refine e_iload_n dX12_next_357 rfl ?_
                refine e_i2l dX12_next_358 ?_
                refine e_putL ((((hY16.sI).sI).sI).t 0 rfl) fpX12_267_13 rfl dX12_next_359 ?_
                refine g_aload_n dX12_next_362 rfl rfl ?_
                refine e_dup dX12_next_363 rfl ?_
                refine e_getI (((((hY16.sI).sI).sI).sL).t 0 rfl) flX12_251_13 dX12_next_364 rfl ?_
                refine e_iconst (v := (1 : Int32)) dX12_next_367 (by decide) ?_
                refine e_iadd dX12_next_368 ?_
                refine e_putI (((((hY16.sI).sI).sI).sL).t 0 rfl) fpX12_251_13 rfl dX12_next_369 ?_
                replace H := obh H; obtain ⟨h39, e40, H⟩ := H
                refine e_hq e40 ?_
                have hY41 := kY e40 (((((hY16.sI).sI).sI).sL).sI)
                obtain rfl := Option.some.inj H
                exact z_vret rfl dX12_next_372 rfl rfl
              · replace H := of_ c38 H
                refine e_iload_n dX12_next_327 rfl ?_
                refine e_bipush (v := (45 : Int32)) dX12_next_328 (by decide) ?_
                refine e_icmp_eq (tgt := 351) dX12_next_330 (by decide) (fun c42 => ?_) (fun c42 => ?_)
                · replace H := ot c42 H
                  refine g_aload_n dX12_next_351 rfl rfl ?_
                  refine e_iconst (v := (3 : Int32)) dX12_next_352 (by decide) ?_
                  refine e_putI (((hY16.sI).sI).t 0 rfl) fpX12_260_13 rfl dX12_next_353 ?_
                  refine g_aload_n dX12_next_356 rfl rfl ?_
                  refine e_iload_n dX12_next_357 rfl ?_
                  refine e_i2l dX12_next_358 ?_
                  refine e_putL ((((hY16.sI).sI).sI).t 0 rfl) fpX12_267_13 rfl dX12_next_359 ?_
                  refine g_aload_n dX12_next_362 rfl rfl ?_
                  refine e_dup dX12_next_363 rfl ?_
                  refine e_getI (((((hY16.sI).sI).sI).sL).t 0 rfl) flX12_251_13 dX12_next_364 rfl ?_
                  refine e_iconst (v := (1 : Int32)) dX12_next_367 (by decide) ?_
                  refine e_iadd dX12_next_368 ?_
                  refine e_putI (((((hY16.sI).sI).sI).sL).t 0 rfl) fpX12_251_13 rfl dX12_next_369 ?_
                  replace H := obh H; obtain ⟨h43, e44, H⟩ := H
                  refine e_hq e44 ?_
                  have hY45 := kY e44 (((((hY16.sI).sI).sI).sL).sI)
                  obtain rfl := Option.some.inj H
                  exact z_vret rfl dX12_next_372 rfl rfl
                · replace H := of_ c42 H
                  refine e_iload_n dX12_next_333 rfl ?_
                  refine e_bipush (v := (42 : Int32)) dX12_next_334 (by decide) ?_
                  refine e_icmp_eq (tgt := 351) dX12_next_336 (by decide) (fun c46 => ?_) (fun c46 => ?_)
                  · replace H := ot c46 H
                    refine g_aload_n dX12_next_351 rfl rfl ?_
                    refine e_iconst (v := (3 : Int32)) dX12_next_352 (by decide) ?_
                    refine e_putI (((hY16.sI).sI).t 0 rfl) fpX12_260_13 rfl dX12_next_353 ?_
                    refine g_aload_n dX12_next_356 rfl rfl ?_
                    refine e_iload_n dX12_next_357 rfl ?_
                    refine e_i2l dX12_next_358 ?_
                    refine e_putL ((((hY16.sI).sI).sI).t 0 rfl) fpX12_267_13 rfl dX12_next_359 ?_
                    refine g_aload_n dX12_next_362 rfl rfl ?_
                    refine e_dup dX12_next_363 rfl ?_
                    refine e_getI (((((hY16.sI).sI).sI).sL).t 0 rfl) flX12_251_13 dX12_next_364 rfl ?_
                    refine e_iconst (v := (1 : Int32)) dX12_next_367 (by decide) ?_
                    refine e_iadd dX12_next_368 ?_
                    refine e_putI (((((hY16.sI).sI).sI).sL).t 0 rfl) fpX12_251_13 rfl dX12_next_369 ?_
                    replace H := obh H; obtain ⟨h47, e48, H⟩ := H
                    refine e_hq e48 ?_
                    have hY49 := kY e48 (((((hY16.sI).sI).sI).sL).sI)
                    obtain rfl := Option.some.inj H
                    exact z_vret rfl dX12_next_372 rfl rfl
                  · replace H := of_ c46 H
                    refine e_iload_n dX12_next_339 rfl ?_
                    refine e_bipush (v := (60 : Int32)) dX12_next_340 (by decide) ?_
                    refine e_icmp_eq (tgt := 351) dX12_next_342 (by decide) (fun c50 => ?_) (fun c50 => ?_)
                    · replace H := ot c50 H
                      refine g_aload_n dX12_next_351 rfl rfl ?_
                      refine e_iconst (v := (3 : Int32)) dX12_next_352 (by decide) ?_
                      refine e_putI (((hY16.sI).sI).t 0 rfl) fpX12_260_13 rfl dX12_next_353 ?_
                      refine g_aload_n dX12_next_356 rfl rfl ?_
                      refine e_iload_n dX12_next_357 rfl ?_
                      refine e_i2l dX12_next_358 ?_
                      refine e_putL ((((hY16.sI).sI).sI).t 0 rfl) fpX12_267_13 rfl dX12_next_359 ?_
                      refine g_aload_n dX12_next_362 rfl rfl ?_
                      refine e_dup dX12_next_363 rfl ?_
                      refine e_getI (((((hY16.sI).sI).sI).sL).t 0 rfl) flX12_251_13 dX12_next_364 rfl ?_
                      refine e_iconst (v := (1 : Int32)) dX12_next_367 (by decide) ?_
                      refine e_iadd dX12_next_368 ?_
                      refine e_putI (((((hY16.sI).sI).sI).sL).t 0 rfl) fpX12_251_13 rfl dX12_next_369 ?_
                      replace H := obh H; obtain ⟨h51, e52, H⟩ := H
                      refine e_hq e52 ?_
                      have hY53 := kY e52 (((((hY16.sI).sI).sI).sL).sI)
                      obtain rfl := Option.some.inj H
                      exact z_vret rfl dX12_next_372 rfl rfl
                    · replace H := of_ c50 H
                      refine e_iload_n dX12_next_345 rfl ?_
                      refine e_bipush (v := (61 : Int32)) dX12_next_346 (by decide) ?_
                      refine e_icmp_ne (tgt := 372) dX12_next_348 (by decide) (fun c54 => ?_) (fun c54 => ?_)
                      · replace H := of_ c54 H
                        obtain rfl := Option.some.inj H
                        exact z_vret rfl dX12_next_372 rfl rfl
                      · replace H := ot c54 H
                        refine g_aload_n dX12_next_351 rfl rfl ?_
                        refine e_iconst (v := (3 : Int32)) dX12_next_352 (by decide) ?_
                        refine e_putI (((hY16.sI).sI).t 0 rfl) fpX12_260_13 rfl dX12_next_353 ?_
                        refine g_aload_n dX12_next_356 rfl rfl ?_
                        refine e_iload_n dX12_next_357 rfl ?_
                        refine e_i2l dX12_next_358 ?_
                        refine e_putL ((((hY16.sI).sI).sI).t 0 rfl) fpX12_267_13 rfl dX12_next_359 ?_
                        refine g_aload_n dX12_next_362 rfl rfl ?_
                        refine e_dup dX12_next_363 rfl ?_
                        refine e_getI (((((hY16.sI).sI).sI).sL).t 0 rfl) flX12_251_13 dX12_next_364 rfl ?_
                        refine e_iconst (v := (1 : Int32)) dX12_next_367 (by decide) ?_
                        refine e_iadd dX12_next_368 ?_
                        refine e_putI (((((hY16.sI).sI).sI).sL).t 0 rfl) fpX12_251_13 rfl dX12_next_369 ?_
                        replace H := obh H; obtain ⟨h55, e56, H⟩ := H
                        refine e_hq e56 ?_
                        have hY57 := kY e56 (((((hY16.sI).sI).sI).sL).sI)
                        obtain rfl := Option.some.inj H
                        exact z_vret rfl dX12_next_372 rfl rfl
      · replace H := ot c25 H
        refine g_aload_n dX12_next_199 rfl rfl ?_
        refine e_iconst (v := (2 : Int32)) dX12_next_200 (by decide) ?_
        refine e_putI (((hY16.sI).sI).t 0 rfl) fpX12_260_13 rfl dX12_next_201 ?_
        refine g_aload_n dX12_next_204 rfl rfl ?_
        refine e_lconst (v := (0 : Int64)) dX12_next_205 (by decide) ?_
        refine e_putL ((((hY16.sI).sI).sI).t 0 rfl) fpX12_267_13 rfl dX12_next_206 ?_
        refine e_iconst (v := (0 : Int32)) dX12_next_209 (by decide) ?_
        refine e_istore_n dX12_next_210 (Nat.le_of_ble_eq_true rfl) rfl rfl ?_
        replace H := ob H; obtain ⟨q80, c81, H⟩ := H
        have e82 := p_X12_next_211 1000 c81
        have hY83 := ((((hY16.sI).sI).sI).sL).pr okM e82
        refine e_wk (lk1 (lk0 (lk1 lkn))) (w_X12_next_211 d 1000 ((((hY16.sI).sI).sI).sL) c81 ?_)
        refine g_aload_n dX12_next_286 rfl rfl ?_
        refine e_iload_n dX12_next_287 rfl ?_
        refine e_iconst (v := (4 : Int32)) dX12_next_288 (by decide) ?_
        refine e_icmp_le (tgt := 296) dX12_next_289 (by decide) (fun c84 => ?_) (fun c84 => ?_)
        · replace H := ot c84 H
          refine e_iconst (v := (2 : Int32)) dX12_next_296 (by decide) ?_
          refine e_putI (hY83.t 0 rfl) fpX12_260_13 rfl dX12_next_297 ?_
          refine e_goto (tgt := 372) dX12_next_300 (by decide) ?_
          obtain rfl := Option.some.inj H
          exact z_vret rfl dX12_next_372 rfl rfl
        · replace H := of_ c84 H
          refine e_iconst (v := (4 : Int32)) dX12_next_292 (by decide) ?_
          refine e_goto (tgt := 297) dX12_next_293 (by decide) ?_
          refine e_putI (hY83.t 0 rfl) fpX12_260_13 rfl dX12_next_297 ?_
          refine e_goto (tgt := 372) dX12_next_300 (by decide) ?_
          obtain rfl := Option.some.inj H
          exact z_vret rfl dX12_next_372 rfl rfl
    · replace H := ot c22 H
      refine g_aload_n dX12_next_95 rfl rfl ?_
      refine e_iconst (v := (1 : Int32)) dX12_next_96 (by decide) ?_
      refine e_putI (((hY16.sI).sI).t 0 rfl) fpX12_260_13 rfl dX12_next_97 ?_
      refine g_aload_n dX12_next_100 rfl rfl ?_
      refine e_lconst (v := (0 : Int64)) dX12_next_101 (by decide) ?_
      refine e_putL ((((hY16.sI).sI).sI).t 0 rfl) fpX12_267_13 rfl dX12_next_102 ?_
      refine e_iconst (v := (0 : Int32)) dX12_next_105 (by decide) ?_
      refine e_istore_n dX12_next_106 (Nat.le_of_ble_eq_true rfl) rfl rfl ?_
      replace H := ob H; obtain ⟨q107, c108, H⟩ := H
      have e109 := p_X12_next_107 1000 c108
      have hY110 := ((((hY16.sI).sI).sI).sL).pr okM e109
      refine e_wk (lk1 (lk0 (lk1 lkn))) (w_X12_next_107 d 1000 ((((hY16.sI).sI).sI).sL) c108 ?_)
      refine e_goto (tgt := 372) dX12_next_182 (by decide) ?_
      obtain rfl := Option.some.inj H
      exact z_vret rfl dX12_next_372 rfl rfl
  · replace H := of_ c19 H
    refine g_aload_n dX12_next_65 rfl rfl ?_
    refine e_iconst (v := (0 : Int32)) dX12_next_66 (by decide) ?_
    refine e_putI (((hY16.sI).sI).t 0 rfl) fpX12_260_13 rfl dX12_next_67 ?_
    refine g_aload_n dX12_next_70 rfl rfl ?_
    refine g_aload_n dX12_next_71 rfl rfl ?_
    refine e_getI ((((hY16.sI).sI).sI).t 0 rfl) flX12_245_13 dX12_next_72 rfl ?_
    refine e_putI ((((hY16.sI).sI).sI).t 0 rfl) fpX12_257_13 rfl dX12_next_75 ?_
    replace H := obh H; obtain ⟨h111, e112, H⟩ := H
    refine e_hq e112 ?_
    have hY113 := kY e112 ((((hY16.sI).sI).sI).sI)
    refine e_goto (tgt := 372) dX12_next_78 (by decide) ?_
    obtain rfl := Option.some.inj H
    exact z_vret rfl dX12_next_372 rfl rfl
-- X12_isWord
def f_X12_isWord (p1 : Int64) (h : HS) : Option Bool := (if (hI h 60 33) = 0 then (if (hI h 60 28) = (1 : Int32) then (if (hL h 60 30) = p1 then (some true) else (some false)) else (some false)) else (some false))
set_option maxHeartbeats 4000000 in
set_option maxRecDepth 20000 in
theorem t_X12_isWord {G : GE} (d : Nat) {p1 : Int64} {h : HS} {q : Bool} (hY : LY TM h) (H : f_X12_isWord p1 h = some q) : CE G (d + 0) yX12_isWord miX12_isWord [.ref 60, .long p1] h (some (.int (b2i q))) (h) := by
  unfold f_X12_isWord at H
  refine ce_of rfl (by decide) (fun q => by first | rfl | cases q) (Nat.le_of_ble_eq_true rfl) rfl ?_
  refine g_aload_n dX12_isWord_0 rfl rfl ?_
  refine e_getI (hY.t 0 rfl) flX12_283_13 dX12_isWord_1 rfl ?_
  refine e_if_ne (tgt := 28) dX12_isWord_4 (by decide) (fun c1 => ?_) (fun c1 => ?_)
  · replace H := of_ c1 H
    refine e_iconst (v := (0 : Int32)) dX12_isWord_28 (by decide) ?_
    obtain rfl := Option.some.inj H
    exact z_iret rfl rfl dX12_isWord_29 rfl rfl
  · replace H := ot c1 H
    refine g_aload_n dX12_isWord_7 rfl rfl ?_
    refine e_getI (hY.t 0 rfl) flX12_260_13 dX12_isWord_8 rfl ?_
    refine e_iconst (v := (1 : Int32)) dX12_isWord_11 (by decide) ?_
    refine e_icmp_ne (tgt := 28) dX12_isWord_12 (by decide) (fun c2 => ?_) (fun c2 => ?_)
    · replace H := of_ c2 H
      refine e_iconst (v := (0 : Int32)) dX12_isWord_28 (by decide) ?_
      obtain rfl := Option.some.inj H
      exact z_iret rfl rfl dX12_isWord_29 rfl rfl
    · replace H := ot c2 H
      refine g_aload_n dX12_isWord_15 rfl rfl ?_
      refine e_getL (hY.t 0 rfl) flX12_267_13 dX12_isWord_16 rfl ?_
      refine e_lload_n dX12_isWord_19 rfl ?_
      refine e_lc_ne (tgt := 28) dX12_isWord_20 dX12_isWord_21 (by decide) (fun c3 => ?_) (fun c3 => ?_)
      · replace H := of_ c3 H
        refine e_iconst (v := (0 : Int32)) dX12_isWord_28 (by decide) ?_
        obtain rfl := Option.some.inj H
        exact z_iret rfl rfl dX12_isWord_29 rfl rfl
      · replace H := ot c3 H
        refine e_iconst (v := (1 : Int32)) dX12_isWord_24 (by decide) ?_
        refine e_goto (tgt := 29) dX12_isWord_25 (by decide) ?_
        obtain rfl := Option.some.inj H
        exact z_iret rfl rfl dX12_isWord_29 rfl rfl
-- X12_fail
def f_X12_fail  (h : HS) : Option HS := (if (hI h 60 33) = 0 then (some (sI (sI h 60 33 (1 : Int32)) 60 34 (hI (sI h 60 33 (1 : Int32)) 60 29))) else (some h))
set_option maxHeartbeats 4000000 in
set_option maxRecDepth 20000 in
theorem p_X12_fail  {h : HS} {q : HS} (H : f_X12_fail h = some q) : Pr h q := by
  unfold f_X12_fail at H
  replace H := oi H; obtain ⟨c1, H⟩ | ⟨c1, H⟩ := H
  · obtain rfl := Option.some.inj H
    exact ((Pr.rf.sI).sI)
  · obtain rfl := Option.some.inj H
    exact Pr.rf
set_option maxHeartbeats 4000000 in
set_option maxRecDepth 20000 in
theorem t_X12_fail {G : GE} (d : Nat)  {h : HS} {q : HS} (hY : LY TM h) (H : f_X12_fail h = some q) : CE G (d + 0) yX12_fail miX12_fail [.ref 60] h (none) (q) := by
  unfold f_X12_fail at H
  refine ce_of rfl (by decide) (fun q => by first | rfl | cases q) (Nat.le_of_ble_eq_true rfl) rfl ?_
  refine g_aload_n dX12_fail_0 rfl rfl ?_
  refine e_getI (hY.t 0 rfl) flX12_283_13 dX12_fail_1 rfl ?_
  refine e_if_ne (tgt := 20) dX12_fail_4 (by decide) (fun c1 => ?_) (fun c1 => ?_)
  · replace H := of_ c1 H
    obtain rfl := Option.some.inj H
    exact z_vret rfl dX12_fail_20 rfl rfl
  · replace H := ot c1 H
    refine g_aload_n dX12_fail_7 rfl rfl ?_
    refine e_iconst (v := (1 : Int32)) dX12_fail_8 (by decide) ?_
    refine e_putZ (hY.t 0 rfl) fpX12_283_13 rfl (Or.inr rfl) dX12_fail_9 ?_
    refine g_aload_n dX12_fail_12 rfl rfl ?_
    refine g_aload_n dX12_fail_13 rfl rfl ?_
    refine e_getI ((hY.sI).t 0 rfl) flX12_257_13 dX12_fail_14 rfl ?_
    refine e_putI ((hY.sI).t 0 rfl) fpX12_287_13 rfl dX12_fail_17 ?_
    obtain rfl := Option.some.inj H
    exact z_vret rfl dX12_fail_20 rfl rfl
-- X12_opens
def f_X12_opens  (h : HS) : Option (Bool × HS) := (if (hI h 60 32) = (5 : Int32) then (Option.bind (f_X12_fail h) (fun q6 => (some (false, q6)))) else (Option.bind (f_X12_next (sI h 60 32 ((hI h 60 32) + (1 : Int32)))) (fun q2 => (some (true, q2)))))
set_option maxHeartbeats 4000000 in
set_option maxRecDepth 20000 in
theorem p_X12_opens  {h : HS} {q : (Bool × HS)} (H : f_X12_opens h = some q) : Pr h q.2 := by
  unfold f_X12_opens at H
  replace H := oi H; obtain ⟨c1, H⟩ | ⟨c1, H⟩ := H
  · replace H := ob H; obtain ⟨q6, c7, H⟩ := H
    have e8 := p_X12_fail c7
    obtain rfl := Option.some.inj H
    exact e8
  · replace H := ob H; obtain ⟨q2, c3, H⟩ := H
    have e4 := p_X12_next c3
    obtain rfl := Option.some.inj H
    exact ((Pr.rf.sI).tr e4)
set_option maxHeartbeats 4000000 in
set_option maxRecDepth 20000 in
theorem t_X12_opens {G : GE} (d : Nat)  {h : HS} {q : (Bool × HS)} (hY : LY TM h) (H : f_X12_opens h = some q) : CE G (d + 2) yX12_opens miX12_opens [.ref 60] h (some (.int (b2i q.1))) (q.2) := by
  unfold f_X12_opens at H
  refine ce_of rfl (by decide) (fun q => by first | rfl | cases q) (Nat.le_of_ble_eq_true rfl) rfl ?_
  refine g_aload_n dX12_opens_0 rfl rfl ?_
  refine e_getI (hY.t 0 rfl) flX12_290_13 dX12_opens_1 rfl ?_
  refine e_iconst (v := (5 : Int32)) dX12_opens_4 (by decide) ?_
  refine e_icmp_ne (tgt := 14) dX12_opens_5 (by decide) (fun c1 => ?_) (fun c1 => ?_)
  · replace H := of_ c1 H
    refine g_aload_n dX12_opens_14 rfl rfl ?_
    refine e_dup dX12_opens_15 rfl ?_
    refine e_getI (hY.t 0 rfl) flX12_290_13 dX12_opens_16 rfl ?_
    refine e_iconst (v := (1 : Int32)) dX12_opens_19 (by decide) ?_
    refine e_iadd dX12_opens_20 ?_
    refine e_putI (hY.t 0 rfl) fpX12_290_13 rfl dX12_opens_21 ?_
    refine g_aload_n dX12_opens_24 rfl rfl ?_
    replace H := ob H; obtain ⟨q2, c3, H⟩ := H
    refine v0 ((hY.sI).t 0 rfl) (by decide) rfl rfl lmX12_296 liX12_next lvX12_X12_next msX12_next dX12_opens_25 (t_X12_next (d + 0) (hY.sI) c3) rfl (Nat.le_of_ble_eq_true rfl) (Nat.le_refl _) ?_
    have e4 := p_X12_next c3
    have hY5 := (hY.sI).pr okM e4
    refine e_iconst (v := (1 : Int32)) dX12_opens_28 (by decide) ?_
    obtain rfl := Option.some.inj H
    exact z_iret rfl rfl dX12_opens_29 rfl rfl
  · replace H := ot c1 H
    refine g_aload_n dX12_opens_8 rfl rfl ?_
    replace H := ob H; obtain ⟨q6, c7, H⟩ := H
    refine v0 (hY.t 0 rfl) (by decide) rfl rfl lmX12_293 liX12_fail lvX12_X12_fail msX12_fail dX12_opens_9 (t_X12_fail (d + 1) hY c7) rfl (Nat.le_of_ble_eq_true rfl) (Nat.le_refl _) ?_
    have e8 := p_X12_fail c7
    have hY9 := hY.pr okM e8
    refine e_iconst (v := (0 : Int32)) dX12_opens_12 (by decide) ?_
    obtain rfl := Option.some.inj H
    exact z_iret rfl rfl dX12_opens_13 rfl rfl
-- X12_isSign
def f_X12_isSign (p1 : Int32) (h : HS) : Option Bool := (if (hI h 60 33) = 0 then (if (hI h 60 28) = (3 : Int32) then (if (hL h 60 30) = p1.toInt64 then (some true) else (some false)) else (some false)) else (some false))
set_option maxHeartbeats 4000000 in
set_option maxRecDepth 20000 in
theorem t_X12_isSign {G : GE} (d : Nat) {p1 : Int32} {h : HS} {q : Bool} (hY : LY TM h) (H : f_X12_isSign p1 h = some q) : CE G (d + 0) yX12_isSign miX12_isSign [.ref 60, .int p1] h (some (.int (b2i q))) (h) := by
  unfold f_X12_isSign at H
  refine ce_of rfl (by decide) (fun q => by first | rfl | cases q) (Nat.le_of_ble_eq_true rfl) rfl ?_
  refine g_aload_n dX12_isSign_0 rfl rfl ?_
  refine e_getI (hY.t 0 rfl) flX12_283_13 dX12_isSign_1 rfl ?_
  refine e_if_ne (tgt := 29) dX12_isSign_4 (by decide) (fun c1 => ?_) (fun c1 => ?_)
  · replace H := of_ c1 H
    refine e_iconst (v := (0 : Int32)) dX12_isSign_29 (by decide) ?_
    obtain rfl := Option.some.inj H
    exact z_iret rfl rfl dX12_isSign_30 rfl rfl
  · replace H := ot c1 H
    refine g_aload_n dX12_isSign_7 rfl rfl ?_
    refine e_getI (hY.t 0 rfl) flX12_260_13 dX12_isSign_8 rfl ?_
    refine e_iconst (v := (3 : Int32)) dX12_isSign_11 (by decide) ?_
    refine e_icmp_ne (tgt := 29) dX12_isSign_12 (by decide) (fun c2 => ?_) (fun c2 => ?_)
    · replace H := of_ c2 H
      refine e_iconst (v := (0 : Int32)) dX12_isSign_29 (by decide) ?_
      obtain rfl := Option.some.inj H
      exact z_iret rfl rfl dX12_isSign_30 rfl rfl
    · replace H := ot c2 H
      refine g_aload_n dX12_isSign_15 rfl rfl ?_
      refine e_getL (hY.t 0 rfl) flX12_267_13 dX12_isSign_16 rfl ?_
      refine e_iload_n dX12_isSign_19 rfl ?_
      refine e_i2l dX12_isSign_20 ?_
      refine e_lc_ne (tgt := 29) dX12_isSign_21 dX12_isSign_22 (by decide) (fun c3 => ?_) (fun c3 => ?_)
      · replace H := of_ c3 H
        refine e_iconst (v := (0 : Int32)) dX12_isSign_29 (by decide) ?_
        obtain rfl := Option.some.inj H
        exact z_iret rfl rfl dX12_isSign_30 rfl rfl
      · replace H := ot c3 H
        refine e_iconst (v := (1 : Int32)) dX12_isSign_25 (by decide) ?_
        refine e_goto (tgt := 30) dX12_isSign_26 (by decide) ?_
        obtain rfl := Option.some.inj H
        exact z_iret rfl rfl dX12_isSign_30 rfl rfl
-- X12_name
def f_X12_name  (h : HS) : Option (Int32 × HS) := (Option.bind (f_X12_isWord (298288 : Int64) h) (fun q1 => (if q1 = true then (some ((hI h 60 36), h)) else (Option.bind (f_X12_isWord (8863997 : Int64) h) (fun q4 => (if q4 = true then (if ixb (hI h 60 35) 8 = true then (some ((hI h 67 (hI h 60 35).toNatClampNeg), h)) else none) else (Option.bind (f_X12_isWord (43056 : Int64) h) (fun q7 => (if q7 = true then (if ixb (hI h 60 35) 8 = true then (some ((hI h 68 (hI h 60 35).toNatClampNeg), h)) else none) else (Option.bind (f_X12_isWord (10199809 : Int64) h) (fun q10 => (if q10 = true then (if ixb (hI h 60 35) 8 = true then (some ((hI h 69 (hI h 60 35).toNatClampNeg), h)) else none) else (Option.bind (f_X12_isWord (17186 : Int64) h) (fun q13 => (if q13 = true then (some ((hI h 60 37), h)) else (Option.bind (f_X12_isWord (10989829 : Int64) h) (fun q16 => (if q16 = true then (some ((hI h 60 38), h)) else (Option.bind (f_X12_fail h) (fun q19 => (some ((0 : Int32), q19))))))))))))))))))))))
set_option maxHeartbeats 4000000 in
set_option maxRecDepth 20000 in
theorem p_X12_name  {h : HS} {q : (Int32 × HS)} (H : f_X12_name h = some q) : Pr h q.2 := by
  unfold f_X12_name at H
  replace H := ob H; obtain ⟨q1, c2, H⟩ := H
  replace H := oi H; obtain ⟨c3, H⟩ | ⟨c3, H⟩ := H
  · obtain rfl := Option.some.inj H
    exact Pr.rf
  · replace H := ob H; obtain ⟨q4, c5, H⟩ := H
    replace H := oi H; obtain ⟨c6, H⟩ | ⟨c6, H⟩ := H
    · replace H := og H; obtain ⟨g25, H⟩ := H
      obtain rfl := Option.some.inj H
      exact Pr.rf
    · replace H := ob H; obtain ⟨q7, c8, H⟩ := H
      replace H := oi H; obtain ⟨c9, H⟩ | ⟨c9, H⟩ := H
      · replace H := og H; obtain ⟨g24, H⟩ := H
        obtain rfl := Option.some.inj H
        exact Pr.rf
      · replace H := ob H; obtain ⟨q10, c11, H⟩ := H
        replace H := oi H; obtain ⟨c12, H⟩ | ⟨c12, H⟩ := H
        · replace H := og H; obtain ⟨g23, H⟩ := H
          obtain rfl := Option.some.inj H
          exact Pr.rf
        · replace H := ob H; obtain ⟨q13, c14, H⟩ := H
          replace H := oi H; obtain ⟨c15, H⟩ | ⟨c15, H⟩ := H
          · obtain rfl := Option.some.inj H
            exact Pr.rf
          · replace H := ob H; obtain ⟨q16, c17, H⟩ := H
            replace H := oi H; obtain ⟨c18, H⟩ | ⟨c18, H⟩ := H
            · obtain rfl := Option.some.inj H
              exact Pr.rf
            · replace H := ob H; obtain ⟨q19, c20, H⟩ := H
              have e21 := p_X12_fail c20
              obtain rfl := Option.some.inj H
              exact e21
set_option maxHeartbeats 4000000 in
set_option maxRecDepth 20000 in
theorem t_X12_name {G : GE} (d : Nat)  {h : HS} {q : (Int32 × HS)} (hY : LY TM h) (H : f_X12_name h = some q) : CE G (d + 1) yX12_name miX12_name [.ref 60] h (some (.int q.1)) (q.2) := by
  unfold f_X12_name at H
  refine ce_of rfl (by decide) (fun q => by first | rfl | cases q) (Nat.le_of_ble_eq_true rfl) rfl ?_
  refine g_aload_n dX12_name_0 rfl rfl ?_
  refine e_ldc2 (v := (298288 : Int64)) lkX12_299 dX12_name_1 ?_
  replace H := ob H; obtain ⟨q1, c2, H⟩ := H
  refine v1 (hY.t 0 rfl) (by decide) rfl rfl lmX12_301 liX12_isWord lvX12_X12_isWord msX12_isWord dX12_name_4 (t_X12_isWord (d + 0) hY c2) rfl (Nat.le_of_ble_eq_true rfl) (Nat.le_refl _) ?_
  refine e_ifB_eq (tgt := 15) dX12_name_7 (by decide) (fun c3 => ?_) (fun c3 => ?_)
  · replace H := of_ (nb c3) H
    refine g_aload_n dX12_name_15 rfl rfl ?_
    refine e_ldc2 (v := (8863997 : Int64)) lkX12_308 dX12_name_16 ?_
    replace H := ob H; obtain ⟨q4, c5, H⟩ := H
    refine v1 (hY.t 0 rfl) (by decide) rfl rfl lmX12_301 liX12_isWord lvX12_X12_isWord msX12_isWord dX12_name_19 (t_X12_isWord (d + 0) hY c5) rfl (Nat.le_of_ble_eq_true rfl) (Nat.le_refl _) ?_
    refine e_ifB_eq (tgt := 35) dX12_name_22 (by decide) (fun c6 => ?_) (fun c6 => ?_)
    · replace H := of_ (nb c6) H
      refine g_aload_n dX12_name_35 rfl rfl ?_
      refine e_ldc2 (v := (43056 : Int64)) lkX12_313 dX12_name_36 ?_
      replace H := ob H; obtain ⟨q7, c8, H⟩ := H
      refine v1 (hY.t 0 rfl) (by decide) rfl rfl lmX12_301 liX12_isWord lvX12_X12_isWord msX12_isWord dX12_name_39 (t_X12_isWord (d + 0) hY c8) rfl (Nat.le_of_ble_eq_true rfl) (Nat.le_refl _) ?_
      refine e_ifB_eq (tgt := 55) dX12_name_42 (by decide) (fun c9 => ?_) (fun c9 => ?_)
      · replace H := of_ (nb c9) H
        refine g_aload_n dX12_name_55 rfl rfl ?_
        refine e_ldc2 (v := (10199809 : Int64)) lkX12_315 dX12_name_56 ?_
        replace H := ob H; obtain ⟨q10, c11, H⟩ := H
        refine v1 (hY.t 0 rfl) (by decide) rfl rfl lmX12_301 liX12_isWord lvX12_X12_isWord msX12_isWord dX12_name_59 (t_X12_isWord (d + 0) hY c11) rfl (Nat.le_of_ble_eq_true rfl) (Nat.le_refl _) ?_
        refine e_ifB_eq (tgt := 75) dX12_name_62 (by decide) (fun c12 => ?_) (fun c12 => ?_)
        · replace H := of_ (nb c12) H
          refine g_aload_n dX12_name_75 rfl rfl ?_
          refine e_ldc2 (v := (17186 : Int64)) lkX12_317 dX12_name_76 ?_
          replace H := ob H; obtain ⟨q13, c14, H⟩ := H
          refine v1 (hY.t 0 rfl) (by decide) rfl rfl lmX12_301 liX12_isWord lvX12_X12_isWord msX12_isWord dX12_name_79 (t_X12_isWord (d + 0) hY c14) rfl (Nat.le_of_ble_eq_true rfl) (Nat.le_refl _) ?_
          refine e_ifB_eq (tgt := 90) dX12_name_82 (by decide) (fun c15 => ?_) (fun c15 => ?_)
          · replace H := of_ (nb c15) H
            refine g_aload_n dX12_name_90 rfl rfl ?_
            refine e_ldc2 (v := (10989829 : Int64)) lkX12_322 dX12_name_91 ?_
            replace H := ob H; obtain ⟨q16, c17, H⟩ := H
            refine v1 (hY.t 0 rfl) (by decide) rfl rfl lmX12_301 liX12_isWord lvX12_X12_isWord msX12_isWord dX12_name_94 (t_X12_isWord (d + 0) hY c17) rfl (Nat.le_of_ble_eq_true rfl) (Nat.le_refl _) ?_
            refine e_ifB_eq (tgt := 105) dX12_name_97 (by decide) (fun c18 => ?_) (fun c18 => ?_)
            · replace H := of_ (nb c18) H
              refine g_aload_n dX12_name_105 rfl rfl ?_
              replace H := ob H; obtain ⟨q19, c20, H⟩ := H
              refine v0 (hY.t 0 rfl) (by decide) rfl rfl lmX12_293 liX12_fail lvX12_X12_fail msX12_fail dX12_name_106 (t_X12_fail (d + 0) hY c20) rfl (Nat.le_of_ble_eq_true rfl) (Nat.le_refl _) ?_
              have e21 := p_X12_fail c20
              have hY22 := hY.pr okM e21
              refine e_iconst (v := (0 : Int32)) dX12_name_109 (by decide) ?_
              obtain rfl := Option.some.inj H
              exact z_iret rfl rfl dX12_name_110 rfl rfl
            · replace H := ot c18 H
              refine g_aload_n dX12_name_100 rfl rfl ?_
              refine e_getI (hY.t 0 rfl) flX12_324_13 dX12_name_101 rfl ?_
              obtain rfl := Option.some.inj H
              exact z_iret rfl rfl dX12_name_104 rfl rfl
          · replace H := ot c15 H
            refine g_aload_n dX12_name_85 rfl rfl ?_
            refine e_getI (hY.t 0 rfl) flX12_319_13 dX12_name_86 rfl ?_
            obtain rfl := Option.some.inj H
            exact z_iret rfl rfl dX12_name_89 rfl rfl
        · replace H := ot c12 H
          refine g_aload_n dX12_name_65 rfl rfl ?_
          refine e_getR (hY.t 0 rfl) flX12_38_13 dX12_name_66 rfl (hY.r 8 rfl) ?_
          refine g_aload_n dX12_name_69 rfl rfl ?_
          refine e_getI (hY.t 0 rfl) flX12_310_13 dX12_name_70 rfl ?_
          replace H := og H; obtain ⟨g23, H⟩ := H
          refine e_iald (hY.t 9 rfl) (ixb_y (hY.n 9 rfl) g23) dX12_name_73 ?_
          obtain rfl := Option.some.inj H
          exact z_iret rfl rfl dX12_name_74 rfl rfl
      · replace H := ot c9 H
        refine g_aload_n dX12_name_45 rfl rfl ?_
        refine e_getR (hY.t 0 rfl) flX12_35_13 dX12_name_46 rfl (hY.r 7 rfl) ?_
        refine g_aload_n dX12_name_49 rfl rfl ?_
        refine e_getI (hY.t 0 rfl) flX12_310_13 dX12_name_50 rfl ?_
        replace H := og H; obtain ⟨g24, H⟩ := H
        refine e_iald (hY.t 8 rfl) (ixb_y (hY.n 8 rfl) g24) dX12_name_53 ?_
        obtain rfl := Option.some.inj H
        exact z_iret rfl rfl dX12_name_54 rfl rfl
    · replace H := ot c6 H
      refine g_aload_n dX12_name_25 rfl rfl ?_
      refine e_getR (hY.t 0 rfl) flX12_32_13 dX12_name_26 rfl (hY.r 6 rfl) ?_
      refine g_aload_n dX12_name_29 rfl rfl ?_
      refine e_getI (hY.t 0 rfl) flX12_310_13 dX12_name_30 rfl ?_
      replace H := og H; obtain ⟨g25, H⟩ := H
      refine e_iald (hY.t 7 rfl) (ixb_y (hY.n 7 rfl) g25) dX12_name_33 ?_
      obtain rfl := Option.some.inj H
      exact z_iret rfl rfl dX12_name_34 rfl rfl
  · replace H := ot c3 H
    refine g_aload_n dX12_name_10 rfl rfl ?_
    refine e_getI (hY.t 0 rfl) flX12_305_13 dX12_name_11 rfl ?_
    obtain rfl := Option.some.inj H
    exact z_iret rfl rfl dX12_name_14 rfl rfl
