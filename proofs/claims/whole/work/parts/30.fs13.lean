-- X12_hoursOf
def f_X12_hoursOf (p1 : Int32) (h : HS) : Option (Int32 × HS) := (Option.bind (f_X12_read (hI h 60 4) p1 (0 : Int32) (0 : Int32) (0 : Int32) (2 : Int32) h) (fun q1 => (if (1 : Int32) ≤ q1.1 then (if q1.1 ≤ (99 : Int32) then (some (q1.1, q1.2)) else (some ((99 : Int32), q1.2))) else (some ((1 : Int32), q1.2)))))
set_option maxHeartbeats 4000000 in
set_option maxRecDepth 20000 in
theorem p_X12_hoursOf {p1 : Int32} {h : HS} {q : (Int32 × HS)} (H : f_X12_hoursOf p1 h = some q) : Pr h q.2 := by
  unfold f_X12_hoursOf at H
  replace H := ob H; obtain ⟨q1, c2, H⟩ := H
  have e3 := p_X12_read c2
  replace H := oi H; obtain ⟨c5, H⟩ | ⟨c5, H⟩ := H
  · replace H := oi H; obtain ⟨c6, H⟩ | ⟨c6, H⟩ := H
    · obtain rfl := Option.some.inj H
      exact e3
    · obtain rfl := Option.some.inj H
      exact e3
  · obtain rfl := Option.some.inj H
    exact e3
set_option maxHeartbeats 4000000 in
set_option maxRecDepth 20000 in
theorem t_X12_hoursOf {G : GE} (d : Nat) {p1 : Int32} {h : HS} {q : (Int32 × HS)} (hY : LY TM h) (H : f_X12_hoursOf p1 h = some q) : CE G (d + 65) yX12_hoursOf miX12_hoursOf [.ref 60, .int p1] h (some (.int q.1)) (q.2) := by
  unfold f_X12_hoursOf at H
  refine ce_of rfl (by decide) (fun q => by first | rfl | cases q) (Nat.le_of_ble_eq_true rfl) rfl ?_
  refine g_aload_n dX12_hoursOf_0 rfl rfl ?_
  refine g_aload_n dX12_hoursOf_1 rfl rfl ?_
  refine e_getI (hY.t 0 rfl) flX12_149_13 dX12_hoursOf_2 rfl ?_
  refine e_iload_n dX12_hoursOf_5 rfl ?_
  refine e_iconst (v := (0 : Int32)) dX12_hoursOf_6 (by decide) ?_
  refine e_iconst (v := (0 : Int32)) dX12_hoursOf_7 (by decide) ?_
  refine e_iconst (v := (0 : Int32)) dX12_hoursOf_8 (by decide) ?_
  refine e_iconst (v := (2 : Int32)) dX12_hoursOf_9 (by decide) ?_
  replace H := ob H; obtain ⟨q1, c2, H⟩ := H
  refine v1 (hY.t 0 rfl) (by decide) rfl rfl lmX12_152 liX12_read lvX12_X12_read msX12_read dX12_hoursOf_10 (t_X12_read (d + 0) hY c2) rfl (Nat.le_of_ble_eq_true rfl) (Nat.le_refl _) ?_
  have e3 := p_X12_read c2
  have hY4 := hY.pr okM e3
  refine e_istore_n dX12_hoursOf_13 (Nat.le_of_ble_eq_true rfl) rfl rfl ?_
  refine e_iload_n dX12_hoursOf_14 rfl ?_
  refine e_iconst (v := (1 : Int32)) dX12_hoursOf_15 (by decide) ?_
  refine e_icmp_ge (tgt := 23) dX12_hoursOf_16 (by decide) (fun c5 => ?_) (fun c5 => ?_)
  · replace H := ot c5 H
    refine e_iload_n dX12_hoursOf_23 rfl ?_
    refine e_bipush (v := (99 : Int32)) dX12_hoursOf_24 (by decide) ?_
    refine e_icmp_le (tgt := 34) dX12_hoursOf_26 (by decide) (fun c6 => ?_) (fun c6 => ?_)
    · replace H := ot c6 H
      refine e_iload_n dX12_hoursOf_34 rfl ?_
      obtain rfl := Option.some.inj H
      exact z_iret rfl rfl dX12_hoursOf_35 rfl rfl
    · replace H := of_ c6 H
      refine e_bipush (v := (99 : Int32)) dX12_hoursOf_29 (by decide) ?_
      refine e_goto (tgt := 35) dX12_hoursOf_31 (by decide) ?_
      obtain rfl := Option.some.inj H
      exact z_iret rfl rfl dX12_hoursOf_35 rfl rfl
  · replace H := of_ c5 H
    refine e_iconst (v := (1 : Int32)) dX12_hoursOf_19 (by decide) ?_
    refine e_goto (tgt := 35) dX12_hoursOf_20 (by decide) ?_
    obtain rfl := Option.some.inj H
    exact z_iret rfl rfl dX12_hoursOf_35 rfl rfl
-- X12_told
def f_X12_told (p1 : Int32) (p2 : Int32) (h : HS) : Option (Int32 × HS) := (Option.bind (f_X12_isStall p1 h) (fun q1 => (if q1 = true then (if p2 = (0 : Int32) then (if ixb p1 8 = true then (some ((hI h 64 p1.toNatClampNeg), h)) else none) else (if p2 = (1 : Int32) then (if ixb p1 8 = true then (some ((hI h 65 p1.toNatClampNeg), h)) else none) else (if p2 = (2 : Int32) then (if ixb p1 8 = true then (some ((hI h 66 p1.toNatClampNeg), h)) else none) else (if p2 = (3 : Int32) then (if ixb p1 8 = true then (some ((hI h 67 p1.toNatClampNeg), h)) else none) else (if p2 = (4 : Int32) then (if ixb p1 8 = true then (some ((hI h 68 p1.toNatClampNeg), h)) else none) else (if p2 = (5 : Int32) then (if ixb p1 8 = true then (some ((hI h 69 p1.toNatClampNeg), h)) else none) else (if p2 = (6 : Int32) then (if ixb p1 8 = true then (some ((hI h 70 p1.toNatClampNeg), h)) else none) else (if p2 = (7 : Int32) then (Option.bind (f_X12_seenOf p1 h) (fun q17 => (some (q17, h)))) else (if p2 = (8 : Int32) then (Option.bind (f_X12_hoursOf p1 h) (fun q13 => (some (q13.1, q13.2)))) else (some ((-5 : Int32), h))))))))))) else (some ((-5 : Int32), h)))))
set_option maxHeartbeats 4000000 in
set_option maxRecDepth 20000 in
theorem p_X12_told {p1 : Int32} {p2 : Int32} {h : HS} {q : (Int32 × HS)} (H : f_X12_told p1 p2 h = some q) : Pr h q.2 := by
  unfold f_X12_told at H
  replace H := ob H; obtain ⟨q1, c2, H⟩ := H
  replace H := oi H; obtain ⟨c3, H⟩ | ⟨c3, H⟩ := H
  · replace H := oi H; obtain ⟨k4, H⟩ | ⟨k4, H⟩ := H
    · replace H := og H; obtain ⟨g25, H⟩ := H
      obtain rfl := Option.some.inj H
      exact Pr.rf
    · replace H := oi H; obtain ⟨k5, H⟩ | ⟨k5, H⟩ := H
      · replace H := og H; obtain ⟨g24, H⟩ := H
        obtain rfl := Option.some.inj H
        exact Pr.rf
      · replace H := oi H; obtain ⟨k6, H⟩ | ⟨k6, H⟩ := H
        · replace H := og H; obtain ⟨g23, H⟩ := H
          obtain rfl := Option.some.inj H
          exact Pr.rf
        · replace H := oi H; obtain ⟨k7, H⟩ | ⟨k7, H⟩ := H
          · replace H := og H; obtain ⟨g22, H⟩ := H
            obtain rfl := Option.some.inj H
            exact Pr.rf
          · replace H := oi H; obtain ⟨k8, H⟩ | ⟨k8, H⟩ := H
            · replace H := og H; obtain ⟨g21, H⟩ := H
              obtain rfl := Option.some.inj H
              exact Pr.rf
            · replace H := oi H; obtain ⟨k9, H⟩ | ⟨k9, H⟩ := H
              · replace H := og H; obtain ⟨g20, H⟩ := H
                obtain rfl := Option.some.inj H
                exact Pr.rf
              · replace H := oi H; obtain ⟨k10, H⟩ | ⟨k10, H⟩ := H
                · replace H := og H; obtain ⟨g19, H⟩ := H
                  obtain rfl := Option.some.inj H
                  exact Pr.rf
                · replace H := oi H; obtain ⟨k11, H⟩ | ⟨k11, H⟩ := H
                  · replace H := ob H; obtain ⟨q17, c18, H⟩ := H
                    obtain rfl := Option.some.inj H
                    exact Pr.rf
                  · replace H := oi H; obtain ⟨k12, H⟩ | ⟨k12, H⟩ := H
                    · replace H := ob H; obtain ⟨q13, c14, H⟩ := H
                      have e15 := p_X12_hoursOf c14
                      obtain rfl := Option.some.inj H
                      exact e15
                    · obtain rfl := Option.some.inj H
                      exact Pr.rf
  · obtain rfl := Option.some.inj H
    exact Pr.rf
set_option maxHeartbeats 4000000 in
set_option maxRecDepth 20000 in
theorem t_X12_told {G : GE} (d : Nat) {p1 : Int32} {p2 : Int32} {h : HS} {q : (Int32 × HS)} (hY : LY TM h) (H : f_X12_told p1 p2 h = some q) : CE G (d + 66) yX12_told miX12_told [.ref 60, .int p1, .int p2] h (some (.int q.1)) (q.2) := by
  unfold f_X12_told at H
  refine ce_of rfl (by decide) (fun q => by first | rfl | cases q) (Nat.le_of_ble_eq_true rfl) rfl ?_
  refine g_aload_n dX12_told_0 rfl rfl ?_
  refine e_iload_n dX12_told_1 rfl ?_
  replace H := ob H; obtain ⟨q1, c2, H⟩ := H
  refine v1 (hY.t 0 rfl) (by decide) rfl rfl lmX12_142 liX12_isStall lvX12_X12_isStall msX12_isStall dX12_told_2 (t_X12_isStall (d + 64) hY c2) rfl (Nat.le_of_ble_eq_true rfl) (Nat.le_refl _) ?_
  refine e_ifB_ne (tgt := 11) dX12_told_5 (by decide) (fun c3 => ?_) (fun c3 => ?_)
  · replace H := ot c3 H
    refine e_iload_n dX12_told_11 rfl ?_
    by_cases k4 : p2 = (0 : Int32)
    · replace H := ot k4 H
      refine e_tableIn (off := 52) (tgt := 64) dX12_told_12 (by rw [k4]; decide) (by rw [k4]; decide) (by rw [k4]; rfl) (by decide) ?_
      refine g_aload_n dX12_told_64 rfl rfl ?_
      refine e_getR (hY.t 0 rfl) flX12_23_13 dX12_told_65 rfl (hY.r 3 rfl) ?_
      refine e_iload_n dX12_told_68 rfl ?_
      replace H := og H; obtain ⟨g25, H⟩ := H
      refine e_iald (hY.t 4 rfl) (ixb_y (hY.n 4 rfl) g25) dX12_told_69 ?_
      obtain rfl := Option.some.inj H
      exact z_iret rfl rfl dX12_told_70 rfl rfl
    · replace H := of_ k4 H
      by_cases k5 : p2 = (1 : Int32)
      · replace H := ot k5 H
        refine e_tableIn (off := 59) (tgt := 71) dX12_told_12 (by rw [k5]; decide) (by rw [k5]; decide) (by rw [k5]; rfl) (by decide) ?_
        refine g_aload_n dX12_told_71 rfl rfl ?_
        refine e_getR (hY.t 0 rfl) flX12_26_13 dX12_told_72 rfl (hY.r 4 rfl) ?_
        refine e_iload_n dX12_told_75 rfl ?_
        replace H := og H; obtain ⟨g24, H⟩ := H
        refine e_iald (hY.t 5 rfl) (ixb_y (hY.n 5 rfl) g24) dX12_told_76 ?_
        obtain rfl := Option.some.inj H
        exact z_iret rfl rfl dX12_told_77 rfl rfl
      · replace H := of_ k5 H
        by_cases k6 : p2 = (2 : Int32)
        · replace H := ot k6 H
          refine e_tableIn (off := 66) (tgt := 78) dX12_told_12 (by rw [k6]; decide) (by rw [k6]; decide) (by rw [k6]; rfl) (by decide) ?_
          refine g_aload_n dX12_told_78 rfl rfl ?_
          refine e_getR (hY.t 0 rfl) flX12_29_13 dX12_told_79 rfl (hY.r 5 rfl) ?_
          refine e_iload_n dX12_told_82 rfl ?_
          replace H := og H; obtain ⟨g23, H⟩ := H
          refine e_iald (hY.t 6 rfl) (ixb_y (hY.n 6 rfl) g23) dX12_told_83 ?_
          obtain rfl := Option.some.inj H
          exact z_iret rfl rfl dX12_told_84 rfl rfl
        · replace H := of_ k6 H
          by_cases k7 : p2 = (3 : Int32)
          · replace H := ot k7 H
            refine e_tableIn (off := 73) (tgt := 85) dX12_told_12 (by rw [k7]; decide) (by rw [k7]; decide) (by rw [k7]; rfl) (by decide) ?_
            refine g_aload_n dX12_told_85 rfl rfl ?_
            refine e_getR (hY.t 0 rfl) flX12_32_13 dX12_told_86 rfl (hY.r 6 rfl) ?_
            refine e_iload_n dX12_told_89 rfl ?_
            replace H := og H; obtain ⟨g22, H⟩ := H
            refine e_iald (hY.t 7 rfl) (ixb_y (hY.n 7 rfl) g22) dX12_told_90 ?_
            obtain rfl := Option.some.inj H
            exact z_iret rfl rfl dX12_told_91 rfl rfl
          · replace H := of_ k7 H
            by_cases k8 : p2 = (4 : Int32)
            · replace H := ot k8 H
              refine e_tableIn (off := 80) (tgt := 92) dX12_told_12 (by rw [k8]; decide) (by rw [k8]; decide) (by rw [k8]; rfl) (by decide) ?_
              refine g_aload_n dX12_told_92 rfl rfl ?_
              refine e_getR (hY.t 0 rfl) flX12_35_13 dX12_told_93 rfl (hY.r 7 rfl) ?_
              refine e_iload_n dX12_told_96 rfl ?_
              replace H := og H; obtain ⟨g21, H⟩ := H
              refine e_iald (hY.t 8 rfl) (ixb_y (hY.n 8 rfl) g21) dX12_told_97 ?_
              obtain rfl := Option.some.inj H
              exact z_iret rfl rfl dX12_told_98 rfl rfl
            · replace H := of_ k8 H
              by_cases k9 : p2 = (5 : Int32)
              · replace H := ot k9 H
                refine e_tableIn (off := 87) (tgt := 99) dX12_told_12 (by rw [k9]; decide) (by rw [k9]; decide) (by rw [k9]; rfl) (by decide) ?_
                refine g_aload_n dX12_told_99 rfl rfl ?_
                refine e_getR (hY.t 0 rfl) flX12_38_13 dX12_told_100 rfl (hY.r 8 rfl) ?_
                refine e_iload_n dX12_told_103 rfl ?_
                replace H := og H; obtain ⟨g20, H⟩ := H
                refine e_iald (hY.t 9 rfl) (ixb_y (hY.n 9 rfl) g20) dX12_told_104 ?_
                obtain rfl := Option.some.inj H
                exact z_iret rfl rfl dX12_told_105 rfl rfl
              · replace H := of_ k9 H
                by_cases k10 : p2 = (6 : Int32)
                · replace H := ot k10 H
                  refine e_tableIn (off := 94) (tgt := 106) dX12_told_12 (by rw [k10]; decide) (by rw [k10]; decide) (by rw [k10]; rfl) (by decide) ?_
                  refine g_aload_n dX12_told_106 rfl rfl ?_
                  refine e_getR (hY.t 0 rfl) flX12_41_13 dX12_told_107 rfl (hY.r 9 rfl) ?_
                  refine e_iload_n dX12_told_110 rfl ?_
                  replace H := og H; obtain ⟨g19, H⟩ := H
                  refine e_iald (hY.t 10 rfl) (ixb_y (hY.n 10 rfl) g19) dX12_told_111 ?_
                  obtain rfl := Option.some.inj H
                  exact z_iret rfl rfl dX12_told_112 rfl rfl
                · replace H := of_ k10 H
                  by_cases k11 : p2 = (7 : Int32)
                  · replace H := ot k11 H
                    refine e_tableIn (off := 101) (tgt := 113) dX12_told_12 (by rw [k11]; decide) (by rw [k11]; decide) (by rw [k11]; rfl) (by decide) ?_
                    refine g_aload_n dX12_told_113 rfl rfl ?_
                    refine e_iload_n dX12_told_114 rfl ?_
                    replace H := ob H; obtain ⟨q17, c18, H⟩ := H
                    refine v1 (hY.t 0 rfl) (by decide) rfl rfl lmX12_156 liX12_seenOf lvX12_X12_seenOf msX12_seenOf dX12_told_115 (t_X12_seenOf (d + 65) hY c18) rfl (Nat.le_of_ble_eq_true rfl) (Nat.le_refl _) ?_
                    obtain rfl := Option.some.inj H
                    exact z_iret rfl rfl dX12_told_118 rfl rfl
                  · replace H := of_ k11 H
                    by_cases k12 : p2 = (8 : Int32)
                    · replace H := ot k12 H
                      refine e_tableIn (off := 107) (tgt := 119) dX12_told_12 (by rw [k12]; decide) (by rw [k12]; decide) (by rw [k12]; rfl) (by decide) ?_
                      refine g_aload_n dX12_told_119 rfl rfl ?_
                      refine e_iload_n dX12_told_120 rfl ?_
                      replace H := ob H; obtain ⟨q13, c14, H⟩ := H
                      refine v1 (hY.t 0 rfl) (by decide) rfl rfl lmX12_160 liX12_hoursOf lvX12_X12_hoursOf msX12_hoursOf dX12_told_121 (t_X12_hoursOf (d + 0) hY c14) rfl (Nat.le_of_ble_eq_true rfl) (Nat.le_refl _) ?_
                      have e15 := p_X12_hoursOf c14
                      have hY16 := hY.pr okM e15
                      obtain rfl := Option.some.inj H
                      exact z_iret rfl rfl dX12_told_124 rfl rfl
                    · replace H := of_ k12 H
                      refine e_tableOut (tgt := 125) dX12_told_12 (by have q0 : p2.toInt ≠ 0 := i32_ne k4; have q1 : p2.toInt ≠ 1 := i32_ne k5; have q2 : p2.toInt ≠ 2 := i32_ne k6; have q3 : p2.toInt ≠ 3 := i32_ne k7; have q4 : p2.toInt ≠ 4 := i32_ne k8; have q5 : p2.toInt ≠ 5 := i32_ne k9; have q6 : p2.toInt ≠ 6 := i32_ne k10; have q7 : p2.toInt ≠ 7 := i32_ne k11; have q8 : p2.toInt ≠ 8 := i32_ne k12; omega) (by decide) ?_
                      refine e_bipush (v := (-5 : Int32)) dX12_told_125 (by decide) ?_
                      obtain rfl := Option.some.inj H
                      exact z_iret rfl rfl dX12_told_127 rfl rfl
  · replace H := of_ (nb c3) H
    refine e_bipush (v := (-5 : Int32)) dX12_told_8 (by decide) ?_
    obtain rfl := Option.some.inj H
    exact z_iret rfl rfl dX12_told_10 rfl rfl
-- X12_plain
def f_X12_plain (p0 : Int32) : Option Int32 := (if 0 ≤ p0 then (some p0) else (some (-p0)))
set_option maxHeartbeats 4000000 in
set_option maxRecDepth 20000 in
theorem t_X12_plain {G : GE} (d : Nat) {p0 : Int32} {h : HS} {q : Int32} (H : f_X12_plain p0 = some q) : CE G (d + 0) yX12_plain miX12_plain [.int p0] h (some (.int q)) (h) := by
  unfold f_X12_plain at H
  refine ce_of rfl (by decide) (fun q => by first | rfl | cases q) (Nat.le_of_ble_eq_true rfl) rfl ?_
  refine e_iload_n dX12_plain_0 rfl ?_
  refine e_if_ge (tgt := 9) dX12_plain_1 (by decide) (fun c1 => ?_) (fun c1 => ?_)
  · replace H := ot c1 H
    refine e_iload_n dX12_plain_9 rfl ?_
    obtain rfl := Option.some.inj H
    exact z_iret rfl rfl dX12_plain_10 rfl rfl
  · replace H := of_ c1 H
    refine e_iload_n dX12_plain_4 rfl ?_
    refine e_ineg dX12_plain_5 ?_
    refine e_goto (tgt := 10) dX12_plain_6 (by decide) ?_
    obtain rfl := Option.some.inj H
    exact z_iret rfl rfl dX12_plain_10 rfl rfl
-- X12_isIn
def f_X12_isIn (p0 : Int32) (p1 : Int32) (p2 : Int32) : Option Bool := (Option.bind (f_X12_plain p1) (fun q1 => (if p0 < q1 then (some false) else (Option.bind (f_X12_plain p2) (fun q4 => (if p0 < q4 then (some false) else (some true)))))))
set_option maxHeartbeats 4000000 in
set_option maxRecDepth 20000 in
theorem t_X12_isIn {G : GE} (d : Nat) {p0 : Int32} {p1 : Int32} {p2 : Int32} {h : HS} {q : Bool} (H : f_X12_isIn p0 p1 p2 = some q) : CE G (d + 1) yX12_isIn miX12_isIn [.int p0, .int p1, .int p2] h (some (.int (b2i q))) (h) := by
  unfold f_X12_isIn at H
  refine ce_of rfl (by decide) (fun q => by first | rfl | cases q) (Nat.le_of_ble_eq_true rfl) rfl ?_
  refine e_iload_n dX12_isIn_0 rfl ?_
  replace H := ob H; obtain ⟨q1, c2, H⟩ := H
  refine s1 lmX12_163 lsX12_plain msX12_plain dX12_isIn_1 (t_X12_plain (d + 0) c2) rfl (Nat.le_of_ble_eq_true rfl) (Nat.le_refl _) ?_
  refine e_iload_n dX12_isIn_4 rfl ?_
  refine e_icmp_gt (tgt := 20) dX12_isIn_5 (by decide) (fun c3 => ?_) (fun c3 => ?_)
  · replace H := ot c3 H
    refine e_iconst (v := (0 : Int32)) dX12_isIn_20 (by decide) ?_
    obtain rfl := Option.some.inj H
    exact z_iret rfl rfl dX12_isIn_21 rfl rfl
  · replace H := of_ c3 H
    refine e_iload_n dX12_isIn_8 rfl ?_
    replace H := ob H; obtain ⟨q4, c5, H⟩ := H
    refine s1 lmX12_163 lsX12_plain msX12_plain dX12_isIn_9 (t_X12_plain (d + 0) c5) rfl (Nat.le_of_ble_eq_true rfl) (Nat.le_refl _) ?_
    refine e_iload_n dX12_isIn_12 rfl ?_
    refine e_icmp_gt (tgt := 20) dX12_isIn_13 (by decide) (fun c6 => ?_) (fun c6 => ?_)
    · replace H := ot c6 H
      refine e_iconst (v := (0 : Int32)) dX12_isIn_20 (by decide) ?_
      obtain rfl := Option.some.inj H
      exact z_iret rfl rfl dX12_isIn_21 rfl rfl
    · replace H := of_ c6 H
      refine e_iconst (v := (1 : Int32)) dX12_isIn_16 (by decide) ?_
      refine e_goto (tgt := 21) dX12_isIn_17 (by decide) ?_
      obtain rfl := Option.some.inj H
      exact z_iret rfl rfl dX12_isIn_21 rfl rfl
-- X12_isWon
def f_X12_isWon (p0 : Int32) (p1 : Int32) (p2 : Int32) (p3 : Int32) (p4 : Int32) : Option Bool := (if p0 = (1 : Int32) then (Option.bind (f_X12_isIn (p1 / (2 : Int32)) p3 p4) (fun q32 => (some q32))) else (if p0 = (2 : Int32) then (Option.bind (f_X12_isIn p1 p3 p4) (fun q28 => (if q28 = true then (if p3 < 0 then (some false) else (some true)) else (some false)))) else (if p0 = (3 : Int32) then (Option.bind (f_X12_isIn p1 p3 p4) (fun q19 => (if q19 = true then (if p3 < 0 then (some false) else (if p2 = (1 : Int32) then (if p3 = 0 then (some false) else (if p4 = 0 then (some false) else (some true))) else (if p3 = 0 then (if p4 = 0 then (some false) else (some true)) else (some true)))) else (some false)))) else (if p0 = (4 : Int32) then (Option.bind (f_X12_isIn p1 p3 p4) (fun q15 => (if q15 = true then (if (((p3 + ((2 : Int32) * p4)) + p2) - ((p3 + ((2 : Int32) * p4)) + p2) / (3 : Int32) * (3 : Int32)) = 0 then (some true) else (some false)) else (some false)))) else (if p0 = (5 : Int32) then (if p2 = (1 : Int32) then (Option.bind (f_X12_isIn (p1 / (2 : Int32)) p3 p4) (fun q11 => (if q11 = true then (if p3 = 0 then (some true) else (some false)) else (some false)))) else (Option.bind (f_X12_isIn p1 p3 p4) (fun q9 => (some q9)))) else (Option.bind (f_X12_isIn p1 p3 p4) (fun q6 => (some q6))))))))
set_option maxHeartbeats 4000000 in
set_option maxRecDepth 20000 in
theorem t_X12_isWon {G : GE} (d : Nat) {p0 : Int32} {p1 : Int32} {p2 : Int32} {p3 : Int32} {p4 : Int32} {h : HS} {q : Bool} (H : f_X12_isWon p0 p1 p2 p3 p4 = some q) : CE G (d + 2) yX12_isWon miX12_isWon [.int p0, .int p1, .int p2, .int p3, .int p4] h (some (.int (b2i q))) (h) := by
  unfold f_X12_isWon at H
  refine ce_of rfl (by decide) (fun q => by first | rfl | cases q) (Nat.le_of_ble_eq_true rfl) rfl ?_
  refine e_iload_n dX12_isWon_0 rfl ?_
  by_cases k1 : p0 = (1 : Int32)
  · replace H := ot k1 H
    refine e_tableIn (off := 35) (tgt := 36) dX12_isWon_1 (by rw [k1]; decide) (by rw [k1]; decide) (by rw [k1]; rfl) (by decide) ?_
    refine e_iload_n dX12_isWon_36 rfl ?_
    refine e_iconst (v := (2 : Int32)) dX12_isWon_37 (by decide) ?_
    refine e_idiv dX12_isWon_38 (by decide) ?_
    refine e_iload_n dX12_isWon_39 rfl ?_
    refine e_iload dX12_isWon_40 rfl ?_
    replace H := ob H; obtain ⟨q32, c33, H⟩ := H
    refine s1 lmX12_166 lsX12_isIn msX12_isIn dX12_isWon_42 (t_X12_isIn (d + 0) c33) rfl (Nat.le_of_ble_eq_true rfl) (Nat.le_refl _) ?_
    obtain rfl := Option.some.inj H
    exact z_bret rfl dX12_isWon_45 rfl rfl
  · replace H := of_ k1 H
    by_cases k2 : p0 = (2 : Int32)
    · replace H := ot k2 H
      refine e_tableIn (off := 45) (tgt := 46) dX12_isWon_1 (by rw [k2]; decide) (by rw [k2]; decide) (by rw [k2]; rfl) (by decide) ?_
      refine e_iload_n dX12_isWon_46 rfl ?_
      refine e_iload_n dX12_isWon_47 rfl ?_
      refine e_iload dX12_isWon_48 rfl ?_
      replace H := ob H; obtain ⟨q28, c29, H⟩ := H
      refine s1 lmX12_166 lsX12_isIn msX12_isIn dX12_isWon_50 (t_X12_isIn (d + 0) c29) rfl (Nat.le_of_ble_eq_true rfl) (Nat.le_refl _) ?_
      refine e_ifB_eq (tgt := 64) dX12_isWon_53 (by decide) (fun c30 => ?_) (fun c30 => ?_)
      · replace H := of_ (nb c30) H
        refine e_iconst (v := (0 : Int32)) dX12_isWon_64 (by decide) ?_
        obtain rfl := Option.some.inj H
        exact z_iret rfl rfl dX12_isWon_65 rfl rfl
      · replace H := ot c30 H
        refine e_iload_n dX12_isWon_56 rfl ?_
        refine e_if_lt (tgt := 64) dX12_isWon_57 (by decide) (fun c31 => ?_) (fun c31 => ?_)
        · replace H := ot c31 H
          refine e_iconst (v := (0 : Int32)) dX12_isWon_64 (by decide) ?_
          obtain rfl := Option.some.inj H
          exact z_iret rfl rfl dX12_isWon_65 rfl rfl
        · replace H := of_ c31 H
          refine e_iconst (v := (1 : Int32)) dX12_isWon_60 (by decide) ?_
          refine e_goto (tgt := 65) dX12_isWon_61 (by decide) ?_
          obtain rfl := Option.some.inj H
          exact z_iret rfl rfl dX12_isWon_65 rfl rfl
    · replace H := of_ k2 H
      by_cases k3 : p0 = (3 : Int32)
      · replace H := ot k3 H
        refine e_tableIn (off := 65) (tgt := 66) dX12_isWon_1 (by rw [k3]; decide) (by rw [k3]; decide) (by rw [k3]; rfl) (by decide) ?_
        refine e_iload_n dX12_isWon_66 rfl ?_
        refine e_iload_n dX12_isWon_67 rfl ?_
        refine e_iload dX12_isWon_68 rfl ?_
        replace H := ob H; obtain ⟨q19, c20, H⟩ := H
        refine s1 lmX12_166 lsX12_isIn msX12_isIn dX12_isWon_70 (t_X12_isIn (d + 0) c20) rfl (Nat.le_of_ble_eq_true rfl) (Nat.le_refl _) ?_
        refine e_ifB_eq (tgt := 110) dX12_isWon_73 (by decide) (fun c21 => ?_) (fun c21 => ?_)
        · replace H := of_ (nb c21) H
          refine e_iconst (v := (0 : Int32)) dX12_isWon_110 (by decide) ?_
          obtain rfl := Option.some.inj H
          exact z_iret rfl rfl dX12_isWon_111 rfl rfl
        · replace H := ot c21 H
          refine e_iload_n dX12_isWon_76 rfl ?_
          refine e_if_lt (tgt := 110) dX12_isWon_77 (by decide) (fun c22 => ?_) (fun c22 => ?_)
          · replace H := ot c22 H
            refine e_iconst (v := (0 : Int32)) dX12_isWon_110 (by decide) ?_
            obtain rfl := Option.some.inj H
            exact z_iret rfl rfl dX12_isWon_111 rfl rfl
          · replace H := of_ c22 H
            refine e_iload_n dX12_isWon_80 rfl ?_
            refine e_iconst (v := (1 : Int32)) dX12_isWon_81 (by decide) ?_
            refine e_icmp_ne (tgt := 97) dX12_isWon_82 (by decide) (fun c23 => ?_) (fun c23 => ?_)
            · replace H := of_ c23 H
              refine e_iload_n dX12_isWon_97 rfl ?_
              refine e_if_ne (tgt := 106) dX12_isWon_98 (by decide) (fun c24 => ?_) (fun c24 => ?_)
              · replace H := of_ c24 H
                refine e_iconst (v := (1 : Int32)) dX12_isWon_106 (by decide) ?_
                refine e_goto (tgt := 111) dX12_isWon_107 (by decide) ?_
                obtain rfl := Option.some.inj H
                exact z_iret rfl rfl dX12_isWon_111 rfl rfl
              · replace H := ot c24 H
                refine e_iload dX12_isWon_101 rfl ?_
                refine e_if_eq (tgt := 110) dX12_isWon_103 (by decide) (fun c25 => ?_) (fun c25 => ?_)
                · replace H := ot c25 H
                  refine e_iconst (v := (0 : Int32)) dX12_isWon_110 (by decide) ?_
                  obtain rfl := Option.some.inj H
                  exact z_iret rfl rfl dX12_isWon_111 rfl rfl
                · replace H := of_ c25 H
                  refine e_iconst (v := (1 : Int32)) dX12_isWon_106 (by decide) ?_
                  refine e_goto (tgt := 111) dX12_isWon_107 (by decide) ?_
                  obtain rfl := Option.some.inj H
                  exact z_iret rfl rfl dX12_isWon_111 rfl rfl
            · replace H := ot c23 H
              refine e_iload_n dX12_isWon_85 rfl ?_
              refine e_if_eq (tgt := 110) dX12_isWon_86 (by decide) (fun c26 => ?_) (fun c26 => ?_)
              · replace H := ot c26 H
                refine e_iconst (v := (0 : Int32)) dX12_isWon_110 (by decide) ?_
                obtain rfl := Option.some.inj H
                exact z_iret rfl rfl dX12_isWon_111 rfl rfl
              · replace H := of_ c26 H
                refine e_iload dX12_isWon_89 rfl ?_
                refine e_if_eq (tgt := 110) dX12_isWon_91 (by decide) (fun c27 => ?_) (fun c27 => ?_)
                · replace H := ot c27 H
                  refine e_iconst (v := (0 : Int32)) dX12_isWon_110 (by decide) ?_
                  obtain rfl := Option.some.inj H
                  exact z_iret rfl rfl dX12_isWon_111 rfl rfl
                · replace H := of_ c27 H
                  refine e_goto (tgt := 106) dX12_isWon_94 (by decide) ?_
                  refine e_iconst (v := (1 : Int32)) dX12_isWon_106 (by decide) ?_
                  refine e_goto (tgt := 111) dX12_isWon_107 (by decide) ?_
                  obtain rfl := Option.some.inj H
                  exact z_iret rfl rfl dX12_isWon_111 rfl rfl
      · replace H := of_ k3 H
        by_cases k4 : p0 = (4 : Int32)
        · replace H := ot k4 H
          refine e_tableIn (off := 111) (tgt := 112) dX12_isWon_1 (by rw [k4]; decide) (by rw [k4]; decide) (by rw [k4]; rfl) (by decide) ?_
          refine e_iload_n dX12_isWon_112 rfl ?_
          refine e_iload_n dX12_isWon_113 rfl ?_
          refine e_iload dX12_isWon_114 rfl ?_
          replace H := ob H; obtain ⟨q15, c16, H⟩ := H
          refine s1 lmX12_166 lsX12_isIn msX12_isIn dX12_isWon_116 (t_X12_isIn (d + 0) c16) rfl (Nat.le_of_ble_eq_true rfl) (Nat.le_refl _) ?_
          refine e_ifB_eq (tgt := 139) dX12_isWon_119 (by decide) (fun c17 => ?_) (fun c17 => ?_)
          · replace H := of_ (nb c17) H
            refine e_iconst (v := (0 : Int32)) dX12_isWon_139 (by decide) ?_
            obtain rfl := Option.some.inj H
            exact z_iret rfl rfl dX12_isWon_140 rfl rfl
          · replace H := ot c17 H
            refine e_iload_n dX12_isWon_122 rfl ?_
            refine e_iconst (v := (2 : Int32)) dX12_isWon_123 (by decide) ?_
            refine e_iload dX12_isWon_124 rfl ?_
            refine e_imul dX12_isWon_126 ?_
            refine e_iadd dX12_isWon_127 ?_
            refine e_iload_n dX12_isWon_128 rfl ?_
            refine e_iadd dX12_isWon_129 ?_
            refine e_iconst (v := (3 : Int32)) dX12_isWon_130 (by decide) ?_
            refine e_irem dX12_isWon_131 (by decide) ?_
            refine e_if_ne (tgt := 139) dX12_isWon_132 (by decide) (fun c18 => ?_) (fun c18 => ?_)
            · replace H := of_ c18 H
              refine e_iconst (v := (0 : Int32)) dX12_isWon_139 (by decide) ?_
              obtain rfl := Option.some.inj H
              exact z_iret rfl rfl dX12_isWon_140 rfl rfl
            · replace H := ot c18 H
              refine e_iconst (v := (1 : Int32)) dX12_isWon_135 (by decide) ?_
              refine e_goto (tgt := 140) dX12_isWon_136 (by decide) ?_
              obtain rfl := Option.some.inj H
              exact z_iret rfl rfl dX12_isWon_140 rfl rfl
        · replace H := of_ k4 H
          by_cases k5 : p0 = (5 : Int32)
          · replace H := ot k5 H
            refine e_tableIn (off := 140) (tgt := 141) dX12_isWon_1 (by rw [k5]; decide) (by rw [k5]; decide) (by rw [k5]; rfl) (by decide) ?_
            refine e_iload_n dX12_isWon_141 rfl ?_
            refine e_iconst (v := (1 : Int32)) dX12_isWon_142 (by decide) ?_
            refine e_icmp_ne (tgt := 170) dX12_isWon_143 (by decide) (fun c8 => ?_) (fun c8 => ?_)
            · replace H := of_ c8 H
              refine e_iload_n dX12_isWon_170 rfl ?_
              refine e_iload_n dX12_isWon_171 rfl ?_
              refine e_iload dX12_isWon_172 rfl ?_
              replace H := ob H; obtain ⟨q9, c10, H⟩ := H
              refine s1 lmX12_166 lsX12_isIn msX12_isIn dX12_isWon_174 (t_X12_isIn (d + 0) c10) rfl (Nat.le_of_ble_eq_true rfl) (Nat.le_refl _) ?_
              obtain rfl := Option.some.inj H
              exact z_bret rfl dX12_isWon_177 rfl rfl
            · replace H := ot c8 H
              refine e_iload_n dX12_isWon_146 rfl ?_
              refine e_iconst (v := (2 : Int32)) dX12_isWon_147 (by decide) ?_
              refine e_idiv dX12_isWon_148 (by decide) ?_
              refine e_iload_n dX12_isWon_149 rfl ?_
              refine e_iload dX12_isWon_150 rfl ?_
              replace H := ob H; obtain ⟨q11, c12, H⟩ := H
              refine s1 lmX12_166 lsX12_isIn msX12_isIn dX12_isWon_152 (t_X12_isIn (d + 0) c12) rfl (Nat.le_of_ble_eq_true rfl) (Nat.le_refl _) ?_
              refine e_ifB_eq (tgt := 166) dX12_isWon_155 (by decide) (fun c13 => ?_) (fun c13 => ?_)
              · replace H := of_ (nb c13) H
                refine e_iconst (v := (0 : Int32)) dX12_isWon_166 (by decide) ?_
                refine e_goto (tgt := 177) dX12_isWon_167 (by decide) ?_
                obtain rfl := Option.some.inj H
                exact z_iret rfl rfl dX12_isWon_177 rfl rfl
              · replace H := ot c13 H
                refine e_iload_n dX12_isWon_158 rfl ?_
                refine e_if_ne (tgt := 166) dX12_isWon_159 (by decide) (fun c14 => ?_) (fun c14 => ?_)
                · replace H := of_ c14 H
                  refine e_iconst (v := (0 : Int32)) dX12_isWon_166 (by decide) ?_
                  refine e_goto (tgt := 177) dX12_isWon_167 (by decide) ?_
                  obtain rfl := Option.some.inj H
                  exact z_iret rfl rfl dX12_isWon_177 rfl rfl
                · replace H := ot c14 H
                  refine e_iconst (v := (1 : Int32)) dX12_isWon_162 (by decide) ?_
                  refine e_goto (tgt := 177) dX12_isWon_163 (by decide) ?_
                  obtain rfl := Option.some.inj H
                  exact z_iret rfl rfl dX12_isWon_177 rfl rfl
          · replace H := of_ k5 H
            refine e_tableOut (tgt := 178) dX12_isWon_1 (by have q1 : p0.toInt ≠ 1 := i32_ne k1; have q2 : p0.toInt ≠ 2 := i32_ne k2; have q3 : p0.toInt ≠ 3 := i32_ne k3; have q4 : p0.toInt ≠ 4 := i32_ne k4; have q5 : p0.toInt ≠ 5 := i32_ne k5; omega) (by decide) ?_
            refine e_iload_n dX12_isWon_178 rfl ?_
            refine e_iload_n dX12_isWon_179 rfl ?_
            refine e_iload dX12_isWon_180 rfl ?_
            replace H := ob H; obtain ⟨q6, c7, H⟩ := H
            refine s1 lmX12_166 lsX12_isIn msX12_isIn dX12_isWon_182 (t_X12_isIn (d + 0) c7) rfl (Nat.le_of_ble_eq_true rfl) (Nat.le_refl _) ?_
            obtain rfl := Option.some.inj H
            exact z_bret rfl dX12_isWon_185 rfl rfl
-- X12_wins
def f_X12_wins (p1 : Int32) (p2 : Int32) (p3 : Int32) (h : HS) : Option Int32 := (Option.bind (f_X12_isStall p1 h) (fun q1 => (if q1 = true then (Option.bind (f_X12_in p2.toInt64 (-40 : Int64) (40 : Int64)) (fun q4 => (if q4 = true then (Option.bind (f_X12_in p3.toInt64 (-40 : Int64) (40 : Int64)) (fun q7 => (if q7 = true then (if ixb p1 8 = true then (if ixb p1 8 = true then (if ixb p1 8 = true then (Option.bind (f_X12_isWon (hI h 64 p1.toNatClampNeg) (hI h 66 p1.toNatClampNeg) (hI h 70 p1.toNatClampNeg) p2 p3) (fun q13 => (if q13 = true then (some (1 : Int32)) else (some (0 : Int32))))) else none) else none) else none) else (some (-2 : Int32))))) else (some (-2 : Int32))))) else (some (-2 : Int32)))))
set_option maxHeartbeats 4000000 in
set_option maxRecDepth 20000 in
theorem t_X12_wins {G : GE} (d : Nat) {p1 : Int32} {p2 : Int32} {p3 : Int32} {h : HS} {q : Int32} (hY : LY TM h) (H : f_X12_wins p1 p2 p3 h = some q) : CE G (d + 3) yX12_wins miX12_wins [.ref 60, .int p1, .int p2, .int p3] h (some (.int q)) (h) := by
  unfold f_X12_wins at H
  refine ce_of rfl (by decide) (fun q => by first | rfl | cases q) (Nat.le_of_ble_eq_true rfl) rfl ?_
  refine g_aload_n dX12_wins_0 rfl rfl ?_
  refine e_iload_n dX12_wins_1 rfl ?_
  replace H := ob H; obtain ⟨q1, c2, H⟩ := H
  refine v1 (hY.t 0 rfl) (by decide) rfl rfl lmX12_142 liX12_isStall lvX12_X12_isStall msX12_isStall dX12_wins_2 (t_X12_isStall (d + 1) hY c2) rfl (Nat.le_of_ble_eq_true rfl) (Nat.le_refl _) ?_
  refine e_ifB_eq (tgt := 70) dX12_wins_5 (by decide) (fun c3 => ?_) (fun c3 => ?_)
  · replace H := of_ (nb c3) H
    refine e_bipush (v := (-2 : Int32)) dX12_wins_70 (by decide) ?_
    obtain rfl := Option.some.inj H
    exact z_iret rfl rfl dX12_wins_72 rfl rfl
  · replace H := ot c3 H
    refine e_iload_n dX12_wins_8 rfl ?_
    refine e_i2l dX12_wins_9 ?_
    refine e_ldc2 (v := (-40 : Int64)) lkX12_170 dX12_wins_10 ?_
    refine e_ldc2 (v := (40 : Int64)) lkX12_172 dX12_wins_13 ?_
    replace H := ob H; obtain ⟨q4, c5, H⟩ := H
    refine s1 lmX12_125 lsX12_in msX12_in dX12_wins_16 (t_X12_in (d + 2) c5) rfl (Nat.le_of_ble_eq_true rfl) (Nat.le_refl _) ?_
    refine e_ifB_eq (tgt := 70) dX12_wins_19 (by decide) (fun c6 => ?_) (fun c6 => ?_)
    · replace H := of_ (nb c6) H
      refine e_bipush (v := (-2 : Int32)) dX12_wins_70 (by decide) ?_
      obtain rfl := Option.some.inj H
      exact z_iret rfl rfl dX12_wins_72 rfl rfl
    · replace H := ot c6 H
      refine e_iload_n dX12_wins_22 rfl ?_
      refine e_i2l dX12_wins_23 ?_
      refine e_ldc2 (v := (-40 : Int64)) lkX12_170 dX12_wins_24 ?_
      refine e_ldc2 (v := (40 : Int64)) lkX12_172 dX12_wins_27 ?_
      replace H := ob H; obtain ⟨q7, c8, H⟩ := H
      refine s1 lmX12_125 lsX12_in msX12_in dX12_wins_30 (t_X12_in (d + 2) c8) rfl (Nat.le_of_ble_eq_true rfl) (Nat.le_refl _) ?_
      refine e_ifB_eq (tgt := 70) dX12_wins_33 (by decide) (fun c9 => ?_) (fun c9 => ?_)
      · replace H := of_ (nb c9) H
        refine e_bipush (v := (-2 : Int32)) dX12_wins_70 (by decide) ?_
        obtain rfl := Option.some.inj H
        exact z_iret rfl rfl dX12_wins_72 rfl rfl
      · replace H := ot c9 H
        refine g_aload_n dX12_wins_36 rfl rfl ?_
        refine e_getR (hY.t 0 rfl) flX12_23_13 dX12_wins_37 rfl (hY.r 3 rfl) ?_
        refine e_iload_n dX12_wins_40 rfl ?_
        replace H := og H; obtain ⟨g10, H⟩ := H
        refine e_iald (hY.t 4 rfl) (ixb_y (hY.n 4 rfl) g10) dX12_wins_41 ?_
        refine g_aload_n dX12_wins_42 rfl rfl ?_
        refine e_getR (hY.t 0 rfl) flX12_29_13 dX12_wins_43 rfl (hY.r 5 rfl) ?_
        refine e_iload_n dX12_wins_46 rfl ?_
        replace H := og H; obtain ⟨g11, H⟩ := H
        refine e_iald (hY.t 6 rfl) (ixb_y (hY.n 6 rfl) g11) dX12_wins_47 ?_
        refine g_aload_n dX12_wins_48 rfl rfl ?_
        refine e_getR (hY.t 0 rfl) flX12_41_13 dX12_wins_49 rfl (hY.r 9 rfl) ?_
        refine e_iload_n dX12_wins_52 rfl ?_
        replace H := og H; obtain ⟨g12, H⟩ := H
        refine e_iald (hY.t 10 rfl) (ixb_y (hY.n 10 rfl) g12) dX12_wins_53 ?_
        refine e_iload_n dX12_wins_54 rfl ?_
        refine e_iload_n dX12_wins_55 rfl ?_
        replace H := ob H; obtain ⟨q13, c14, H⟩ := H
        refine s1 lmX12_174 lsX12_isWon msX12_isWon dX12_wins_56 (t_X12_isWon (d + 0) c14) rfl (Nat.le_of_ble_eq_true rfl) (Nat.le_refl _) ?_
        refine e_ifB_eq (tgt := 66) dX12_wins_59 (by decide) (fun c15 => ?_) (fun c15 => ?_)
        · replace H := of_ (nb c15) H
          refine e_iconst (v := (0 : Int32)) dX12_wins_66 (by decide) ?_
          refine e_goto (tgt := 72) dX12_wins_67 (by decide) ?_
          obtain rfl := Option.some.inj H
          exact z_iret rfl rfl dX12_wins_72 rfl rfl
        · replace H := ot c15 H
          refine e_iconst (v := (1 : Int32)) dX12_wins_62 (by decide) ?_
          refine e_goto (tgt := 72) dX12_wins_63 (by decide) ?_
          obtain rfl := Option.some.inj H
          exact z_iret rfl rfl dX12_wins_72 rfl rfl
-- X12_hand
def f_X12_hand (p1 : Int32) (p2 : Int32) (p3 : Int32) (h : HS) : Option (Int32 × HS) := (Option.bind (f_X12_in p1.toInt64 (-5 : Int64) (5 : Int64)) (fun q1 => (if q1 = true then (Option.bind (f_X12_in p2.toInt64 (-5 : Int64) (5 : Int64)) (fun q4 => (if q4 = true then (Option.bind (f_X12_in p3.toInt64 (0 : Int64) (5 : Int64)) (fun q7 => (if q7 = true then (if (hI h 60 18) = (6 : Int32) then (some ((-4 : Int32), h)) else (if ixb (hI h 60 18) 6 = true then (if ixb (hI (sI h 71 (hI h 60 18).toNatClampNeg p1) 60 18) 6 = true then (if ixb (hI (sI (sI h 71 (hI h 60 18).toNatClampNeg p1) 72 (hI (sI h 71 (hI h 60 18).toNatClampNeg p1) 60 18).toNatClampNeg p2) 60 18) 6 = true then (bh (sI (sI (sI h 71 (hI h 60 18).toNatClampNeg p1) 72 (hI (sI h 71 (hI h 60 18).toNatClampNeg p1) 60 18).toNatClampNeg p2) 73 (hI (sI (sI h 71 (hI h 60 18).toNatClampNeg p1) 72 (hI (sI h 71 (hI h 60 18).toNatClampNeg p1) 60 18).toNatClampNeg p2) 60 18).toNatClampNeg p3) (fun h14 => (some (((hI (sI h14 60 18 ((hI h14 60 18) + (1 : Int32))) 60 18) - (1 : Int32)), (sI h14 60 18 ((hI h14 60 18) + (1 : Int32))))))) else none) else none) else none)) else (some ((-2 : Int32), h))))) else (some ((-2 : Int32), h))))) else (some ((-2 : Int32), h)))))
set_option maxHeartbeats 4000000 in
set_option maxRecDepth 20000 in
theorem p_X12_hand {p1 : Int32} {p2 : Int32} {p3 : Int32} {h : HS} {q : (Int32 × HS)} (H : f_X12_hand p1 p2 p3 h = some q) : Pr h q.2 := by
  unfold f_X12_hand at H
  replace H := ob H; obtain ⟨q1, c2, H⟩ := H
  replace H := oi H; obtain ⟨c3, H⟩ | ⟨c3, H⟩ := H
  · replace H := ob H; obtain ⟨q4, c5, H⟩ := H
    replace H := oi H; obtain ⟨c6, H⟩ | ⟨c6, H⟩ := H
    · replace H := ob H; obtain ⟨q7, c8, H⟩ := H
      replace H := oi H; obtain ⟨c9, H⟩ | ⟨c9, H⟩ := H
      · replace H := oi H; obtain ⟨c10, H⟩ | ⟨c10, H⟩ := H
        · obtain rfl := Option.some.inj H
          exact Pr.rf
        · replace H := og H; obtain ⟨g11, H⟩ := H
          replace H := og H; obtain ⟨g12, H⟩ := H
          replace H := og H; obtain ⟨g13, H⟩ := H
          replace H := obh H; obtain ⟨h14, e15, H⟩ := H
          obtain rfl := Option.some.inj H
          exact ((kP e15 (((Pr.rf.sI).sI).sI)).sI)
      · obtain rfl := Option.some.inj H
        exact Pr.rf
    · obtain rfl := Option.some.inj H
      exact Pr.rf
  · obtain rfl := Option.some.inj H
    exact Pr.rf
set_option maxHeartbeats 4000000 in
set_option maxRecDepth 20000 in
theorem t_X12_hand {G : GE} (d : Nat) {p1 : Int32} {p2 : Int32} {p3 : Int32} {h : HS} {q : (Int32 × HS)} (hY : LY TM h) (H : f_X12_hand p1 p2 p3 h = some q) : CE G (d + 1) yX12_hand miX12_hand [.ref 60, .int p1, .int p2, .int p3] h (some (.int q.1)) (q.2) := by
  unfold f_X12_hand at H
  refine ce_of rfl (by decide) (fun q => by first | rfl | cases q) (Nat.le_of_ble_eq_true rfl) rfl ?_
  refine e_iload_n dX12_hand_0 rfl ?_
  refine e_i2l dX12_hand_1 ?_
  refine e_ldc2 (v := (-5 : Int64)) lkX12_178 dX12_hand_2 ?_
  refine e_ldc2 (v := (5 : Int64)) lkX12_132 dX12_hand_5 ?_
  replace H := ob H; obtain ⟨q1, c2, H⟩ := H
  refine s1 lmX12_125 lsX12_in msX12_in dX12_hand_8 (t_X12_in (d + 0) c2) rfl (Nat.le_of_ble_eq_true rfl) (Nat.le_refl _) ?_
  refine e_ifB_eq (tgt := 40) dX12_hand_11 (by decide) (fun c3 => ?_) (fun c3 => ?_)
  · replace H := of_ (nb c3) H
    refine e_bipush (v := (-2 : Int32)) dX12_hand_40 (by decide) ?_
    obtain rfl := Option.some.inj H
    exact z_iret rfl rfl dX12_hand_42 rfl rfl
  · replace H := ot c3 H
    refine e_iload_n dX12_hand_14 rfl ?_
    refine e_i2l dX12_hand_15 ?_
    refine e_ldc2 (v := (-5 : Int64)) lkX12_178 dX12_hand_16 ?_
    refine e_ldc2 (v := (5 : Int64)) lkX12_132 dX12_hand_19 ?_
    replace H := ob H; obtain ⟨q4, c5, H⟩ := H
    refine s1 lmX12_125 lsX12_in msX12_in dX12_hand_22 (t_X12_in (d + 0) c5) rfl (Nat.le_of_ble_eq_true rfl) (Nat.le_refl _) ?_
    refine e_ifB_eq (tgt := 40) dX12_hand_25 (by decide) (fun c6 => ?_) (fun c6 => ?_)
    · replace H := of_ (nb c6) H
      refine e_bipush (v := (-2 : Int32)) dX12_hand_40 (by decide) ?_
      obtain rfl := Option.some.inj H
      exact z_iret rfl rfl dX12_hand_42 rfl rfl
    · replace H := ot c6 H
      refine e_iload_n dX12_hand_28 rfl ?_
      refine e_i2l dX12_hand_29 ?_
      refine e_lconst (v := (0 : Int64)) dX12_hand_30 (by decide) ?_
      refine e_ldc2 (v := (5 : Int64)) lkX12_132 dX12_hand_31 ?_
      replace H := ob H; obtain ⟨q7, c8, H⟩ := H
      refine s1 lmX12_125 lsX12_in msX12_in dX12_hand_34 (t_X12_in (d + 0) c8) rfl (Nat.le_of_ble_eq_true rfl) (Nat.le_refl _) ?_
      refine e_ifB_ne (tgt := 43) dX12_hand_37 (by decide) (fun c9 => ?_) (fun c9 => ?_)
      · replace H := ot c9 H
        refine g_aload_n dX12_hand_43 rfl rfl ?_
        refine e_getI (hY.t 0 rfl) flX12_129_13 dX12_hand_44 rfl ?_
        refine e_bipush (v := (6 : Int32)) dX12_hand_47 (by decide) ?_
        refine e_icmp_ne (tgt := 55) dX12_hand_49 (by decide) (fun c10 => ?_) (fun c10 => ?_)
        · replace H := of_ c10 H
          refine g_aload_n dX12_hand_55 rfl rfl ?_
          refine e_getR (hY.t 0 rfl) flX12_44_13 dX12_hand_56 rfl (hY.r 10 rfl) ?_
          refine g_aload_n dX12_hand_59 rfl rfl ?_
          refine e_getI (hY.t 0 rfl) flX12_129_13 dX12_hand_60 rfl ?_
          refine e_iload_n dX12_hand_63 rfl ?_
          replace H := og H; obtain ⟨g11, H⟩ := H
          refine e_iast (hY.t 11 rfl) (ixb_y (hY.n 11 rfl) g11) dX12_hand_64 ?_
          refine g_aload_n dX12_hand_65 rfl rfl ?_
          refine e_getR ((hY.sI).t 0 rfl) flX12_47_13 dX12_hand_66 rfl ((hY.sI).r 11 rfl) ?_
          refine g_aload_n dX12_hand_69 rfl rfl ?_
          refine e_getI ((hY.sI).t 0 rfl) flX12_129_13 dX12_hand_70 rfl ?_
          refine e_iload_n dX12_hand_73 rfl ?_
          replace H := og H; obtain ⟨g12, H⟩ := H
          refine e_iast ((hY.sI).t 12 rfl) (ixb_y ((hY.sI).n 12 rfl) g12) dX12_hand_74 ?_
          refine g_aload_n dX12_hand_75 rfl rfl ?_
          refine e_getR (((hY.sI).sI).t 0 rfl) flX12_50_13 dX12_hand_76 rfl (((hY.sI).sI).r 12 rfl) ?_
          refine g_aload_n dX12_hand_79 rfl rfl ?_
          refine e_getI (((hY.sI).sI).t 0 rfl) flX12_129_13 dX12_hand_80 rfl ?_
          refine e_iload_n dX12_hand_83 rfl ?_
          replace H := og H; obtain ⟨g13, H⟩ := H
          refine e_iast (((hY.sI).sI).t 13 rfl) (ixb_y (((hY.sI).sI).n 13 rfl) g13) dX12_hand_84 ?_
          replace H := obh H; obtain ⟨h14, e15, H⟩ := H
          refine e_hq e15 ?_
          have hY16 := kY e15 (((hY.sI).sI).sI)
          refine g_aload_n dX12_hand_85 rfl rfl ?_
          refine e_dup dX12_hand_86 rfl ?_
          refine e_getI (hY16.t 0 rfl) flX12_129_13 dX12_hand_87 rfl ?_
          refine e_iconst (v := (1 : Int32)) dX12_hand_90 (by decide) ?_
          refine e_iadd dX12_hand_91 ?_
          refine e_putI (hY16.t 0 rfl) fpX12_129_13 rfl dX12_hand_92 ?_
          refine g_aload_n dX12_hand_95 rfl rfl ?_
          refine e_getI ((hY16.sI).t 0 rfl) flX12_129_13 dX12_hand_96 rfl ?_
          refine e_iconst (v := (1 : Int32)) dX12_hand_99 (by decide) ?_
          refine e_isub dX12_hand_100 ?_
          obtain rfl := Option.some.inj H
          exact z_iret rfl rfl dX12_hand_101 rfl rfl
        · replace H := ot c10 H
          refine e_bipush (v := (-4 : Int32)) dX12_hand_52 (by decide) ?_
          obtain rfl := Option.some.inj H
          exact z_iret rfl rfl dX12_hand_54 rfl rfl
      · replace H := of_ (nb c9) H
        refine e_bipush (v := (-2 : Int32)) dX12_hand_40 (by decide) ?_
        obtain rfl := Option.some.inj H
        exact z_iret rfl rfl dX12_hand_42 rfl rfl
-- X12_allOf
def f_X12_allOf (p1 : Int32) (h : HS) : Option Int32 := (if ixb p1 6 = true then (if ixb p1 6 = true then (some ((((2 : Int32) * (hI h 73 p1.toNatClampNeg)) + (1 : Int32)) * (((2 : Int32) * (hI h 73 p1.toNatClampNeg)) + (1 : Int32)))) else none) else none)
set_option maxHeartbeats 4000000 in
set_option maxRecDepth 20000 in
theorem t_X12_allOf {G : GE} (d : Nat) {p1 : Int32} {h : HS} {q : Int32} (hY : LY TM h) (H : f_X12_allOf p1 h = some q) : CE G (d + 0) yX12_allOf miX12_allOf [.ref 60, .int p1] h (some (.int q)) (h) := by
  unfold f_X12_allOf at H
  refine ce_of rfl (by decide) (fun q => by first | rfl | cases q) (Nat.le_of_ble_eq_true rfl) rfl ?_
  refine e_iconst (v := (2 : Int32)) dX12_allOf_0 (by decide) ?_
  refine g_aload_n dX12_allOf_1 rfl rfl ?_
  refine e_getR (hY.t 0 rfl) flX12_50_13 dX12_allOf_2 rfl (hY.r 12 rfl) ?_
  refine e_iload_n dX12_allOf_5 rfl ?_
  replace H := og H; obtain ⟨g1, H⟩ := H
  refine e_iald (hY.t 13 rfl) (ixb_y (hY.n 13 rfl) g1) dX12_allOf_6 ?_
  refine e_imul dX12_allOf_7 ?_
  refine e_iconst (v := (1 : Int32)) dX12_allOf_8 (by decide) ?_
  refine e_iadd dX12_allOf_9 ?_
  refine e_iconst (v := (2 : Int32)) dX12_allOf_10 (by decide) ?_
  refine g_aload_n dX12_allOf_11 rfl rfl ?_
  refine e_getR (hY.t 0 rfl) flX12_50_13 dX12_allOf_12 rfl (hY.r 12 rfl) ?_
  refine e_iload_n dX12_allOf_15 rfl ?_
  replace H := og H; obtain ⟨g2, H⟩ := H
  refine e_iald (hY.t 13 rfl) (ixb_y (hY.n 13 rfl) g2) dX12_allOf_16 ?_
  refine e_imul dX12_allOf_17 ?_
  refine e_iconst (v := (1 : Int32)) dX12_allOf_18 (by decide) ?_
  refine e_iadd dX12_allOf_19 ?_
  refine e_imul dX12_allOf_20 ?_
  obtain rfl := Option.some.inj H
  exact z_iret rfl rfl dX12_allOf_21 rfl rfl
-- X12_winsOf
def l_X12_winsOf_69 (y1 : Int32) (y3 : Int32) (y4 : Int32) (y7 : Int32) (y8 : Int32) (y9 : Int32) (y11 : Int32) (h : HS)  : Nat → Int32 → Int32 → Option Int32
  | 0, _, _ => none
  | n + 1, x10, x12 => (if y9 < x12 then (some x10) else (Option.bind (f_X12_isWon y1 y3 y4 (y7 + y11) (y8 + x12)) (fun q21 => (if q21 = true then (l_X12_winsOf_69 y1 y3 y4 y7 y8 y9 y11 h n (x10 + (1 : Int32)) (x12 + (1 : Int32))) else (l_X12_winsOf_69 y1 y3 y4 y7 y8 y9 y11 h n (x10 + (0 : Int32)) (x12 + (1 : Int32)))))))
set_option maxHeartbeats 4000000 in
set_option maxRecDepth 20000 in
theorem w_X12_winsOf_69 {G : GE} (d : Nat) {y1 : Int32} {y3 : Int32} {y4 : Int32} {y7 : Int32} {y8 : Int32} {y9 : Int32} {y11 : Int32} {h : HS} {r : Option Value} {h' : HS} (hYTM : LY TM h) : ∀ (n : Nat) {x10 : Int32} {x12 : Int32} {q : Int32}, l_X12_winsOf_69 y1 y3 y4 y7 y8 y9 y11 h n x10 x12 = some q → En G (d + 3) miX12_winsOf 112 [dum, .int y1, dum, .int y3, .int y4, dum, dum, .int y7, .int y8, .int y9, .int q, .int y11, dum] [] h r h' → En G (d + 3) miX12_winsOf 69 [dum, .int y1, dum, .int y3, .int y4, dum, dum, .int y7, .int y8, .int y9, .int x10, .int y11, .int x12] [] h r h' := by
  intro n
  induction n with
  | zero => intro x10 x12 q H kE; exact nz H
  | succ n ih =>
    intro x10 x12 q H kE
    unfold l_X12_winsOf_69 at H
    refine e_iload dX12_winsOf_69 rfl ?_
    refine e_iload dX12_winsOf_71 rfl ?_
    refine e_icmp_gt (tgt := 112) dX12_winsOf_73 (by decide) (fun c20 => ?_) (fun c20 => ?_)
    · replace H := ot c20 H
      obtain rfl := Option.some.inj H
      exact e_wk (lk1 (lk1 (lk1 (lk1 (lk1 (lk1 (lk1 (lk1 (lk1 (lk1 (lk1 (lk1 (lk0 lkn))))))))))))) kE
    · replace H := of_ c20 H
      refine e_iload dX12_winsOf_76 rfl ?_
      refine e_iload_n dX12_winsOf_78 rfl ?_
      refine e_iload_n dX12_winsOf_79 rfl ?_
      refine e_iload dX12_winsOf_80 rfl ?_
      refine e_iload dX12_winsOf_82 rfl ?_
      refine e_iload dX12_winsOf_84 rfl ?_
      refine e_iadd dX12_winsOf_86 ?_
      refine e_iload dX12_winsOf_87 rfl ?_
      refine e_iload dX12_winsOf_89 rfl ?_
      refine e_iadd dX12_winsOf_91 ?_
      replace H := ob H; obtain ⟨q21, c22, H⟩ := H
      refine s1 lmX12_174 lsX12_isWon msX12_isWon dX12_winsOf_92 (t_X12_isWon (d + 0) c22) rfl (Nat.le_of_ble_eq_true rfl) (Nat.le_refl _) ?_
      refine e_ifB_eq (tgt := 102) dX12_winsOf_95 (by decide) (fun c23 => ?_) (fun c23 => ?_)
      · replace H := of_ (nb c23) H
        refine e_iconst (v := (0 : Int32)) dX12_winsOf_102 (by decide) ?_
        refine e_iadd dX12_winsOf_103 ?_
        refine e_istore dX12_winsOf_104 (Nat.le_of_ble_eq_true rfl) rfl rfl ?_
        refine e_iinc dX12_winsOf_106 rfl (ii_ (by decide : Int32.ofInt (1) = (1 : Int32))) (Nat.le_of_ble_eq_true rfl) rfl rfl ?_
        refine e_goto (tgt := 69) dX12_winsOf_109 (by decide) ?_
        exact e_wk (lk1 (lk1 (lk1 (lk1 (lk1 (lk1 (lk1 (lk1 (lk1 (lk1 (lk1 (lk1 (lk1 lkn))))))))))))) (ih H kE)
      · replace H := ot c23 H
        refine e_iconst (v := (1 : Int32)) dX12_winsOf_98 (by decide) ?_
        refine e_goto (tgt := 103) dX12_winsOf_99 (by decide) ?_
        refine e_iadd dX12_winsOf_103 ?_
        refine e_istore dX12_winsOf_104 (Nat.le_of_ble_eq_true rfl) rfl rfl ?_
        refine e_iinc dX12_winsOf_106 rfl (ii_ (by decide : Int32.ofInt (1) = (1 : Int32))) (Nat.le_of_ble_eq_true rfl) rfl rfl ?_
        refine e_goto (tgt := 69) dX12_winsOf_109 (by decide) ?_
        exact e_wk (lk1 (lk1 (lk1 (lk1 (lk1 (lk1 (lk1 (lk1 (lk1 (lk1 (lk1 (lk1 (lk1 lkn))))))))))))) (ih H kE)
def l_X12_winsOf_57 (y1 : Int32) (y3 : Int32) (y4 : Int32) (y7 : Int32) (y8 : Int32) (y9 : Int32) (h : HS)  : Nat → Int32 → Int32 → Option Int32
  | 0, _, _ => none
  | n + 1, x10, x11 => (if y9 < x11 then (some x10) else (Option.bind (l_X12_winsOf_69 y1 y3 y4 y7 y8 y9 x11 h 1000 x10 (-y9)) (fun q24 => (l_X12_winsOf_57 y1 y3 y4 y7 y8 y9 h n q24 (x11 + (1 : Int32))))))
set_option maxHeartbeats 4000000 in
set_option maxRecDepth 20000 in
theorem w_X12_winsOf_57 {G : GE} (d : Nat) {y1 : Int32} {y3 : Int32} {y4 : Int32} {y7 : Int32} {y8 : Int32} {y9 : Int32} {h : HS} {r : Option Value} {h' : HS} (hYTM : LY TM h) : ∀ (n : Nat) {x10 : Int32} {x11 : Int32} {q : Int32}, l_X12_winsOf_57 y1 y3 y4 y7 y8 y9 h n x10 x11 = some q → En G (d + 3) miX12_winsOf 118 [dum, dum, dum, dum, dum, dum, dum, dum, dum, dum, .int q, dum, dum] [] h r h' → En G (d + 3) miX12_winsOf 57 [dum, .int y1, dum, .int y3, .int y4, dum, dum, .int y7, .int y8, .int y9, .int x10, .int x11, dum] [] h r h' := by
  intro n
  induction n with
  | zero => intro x10 x11 q H kE; exact nz H
  | succ n ih =>
    intro x10 x11 q H kE
    unfold l_X12_winsOf_57 at H
    refine e_iload dX12_winsOf_57 rfl ?_
    refine e_iload dX12_winsOf_59 rfl ?_
    refine e_icmp_gt (tgt := 118) dX12_winsOf_61 (by decide) (fun c15 => ?_) (fun c15 => ?_)
    · replace H := ot c15 H
      obtain rfl := Option.some.inj H
      exact e_wk (lk1 (lk0 (lk1 (lk0 (lk0 (lk1 (lk1 (lk0 (lk0 (lk0 (lk1 (lk0 (lk1 lkn))))))))))))) kE
    · replace H := of_ c15 H
      refine e_iload dX12_winsOf_64 rfl ?_
      refine e_ineg dX12_winsOf_66 ?_
      refine e_istore dX12_winsOf_67 (Nat.le_of_ble_eq_true rfl) rfl rfl ?_
      replace H := ob H; obtain ⟨q24, c25, H⟩ := H
      refine e_wk (lk1 (lk1 (lk1 (lk1 (lk1 (lk1 (lk1 (lk1 (lk1 (lk1 (lk1 (lk1 (lk1 lkn))))))))))))) (w_X12_winsOf_69 d hYTM 1000 c25 ?_)
      refine e_iinc dX12_winsOf_112 rfl (ii_ (by decide : Int32.ofInt (1) = (1 : Int32))) (Nat.le_of_ble_eq_true rfl) rfl rfl ?_
      refine e_goto (tgt := 57) dX12_winsOf_115 (by decide) ?_
      exact e_wk (lk1 (lk1 (lk1 (lk1 (lk1 (lk1 (lk1 (lk1 (lk1 (lk1 (lk1 (lk1 (lk1 lkn))))))))))))) (ih H kE)
def f_X12_winsOf (p1 : Int32) (p2 : Int32) (p3 : Int32) (p4 : Int32) (p5 : Int32) (p6 : Int32) (h : HS) : Option Int32 := (if ixb p5 6 = true then (if ixb p5 6 = true then (if ixb p5 6 = true then (Option.bind (l_X12_winsOf_57 p1 p3 p4 (((p6 / (100 : Int32)) + (hI h 71 p5.toNatClampNeg)) - (p2 / (100 : Int32))) (((p6 - p6 / (100 : Int32) * (100 : Int32)) + (hI h 72 p5.toNatClampNeg)) - (p2 - p2 / (100 : Int32) * (100 : Int32))) (hI h 73 p5.toNatClampNeg) h 1000 (0 : Int32) (-(hI h 73 p5.toNatClampNeg))) (fun q26 => (some q26))) else none) else none) else none)
set_option maxHeartbeats 4000000 in
set_option maxRecDepth 20000 in
theorem t_X12_winsOf {G : GE} (d : Nat) {p1 : Int32} {p2 : Int32} {p3 : Int32} {p4 : Int32} {p5 : Int32} {p6 : Int32} {h : HS} {q : Int32} (hY : LY TM h) (H : f_X12_winsOf p1 p2 p3 p4 p5 p6 h = some q) : CE G (d + 3) yX12_winsOf miX12_winsOf [.ref 60, .int p1, .int p2, .int p3, .int p4, .int p5, .int p6] h (some (.int q)) (h) := by
  unfold f_X12_winsOf at H
  refine ce_of rfl (by decide) (fun q => by first | rfl | cases q) (Nat.le_of_ble_eq_true rfl) rfl ?_
  refine e_iload dX12_winsOf_0 rfl ?_
  refine e_bipush (v := (100 : Int32)) dX12_winsOf_2 (by decide) ?_
  refine e_idiv dX12_winsOf_4 (by decide) ?_
  refine g_aload_n dX12_winsOf_5 rfl rfl ?_
  refine e_getR (hY.t 0 rfl) flX12_44_13 dX12_winsOf_6 rfl (hY.r 10 rfl) ?_
  refine e_iload dX12_winsOf_9 rfl ?_
  replace H := og H; obtain ⟨g1, H⟩ := H
  refine e_iald (hY.t 11 rfl) (ixb_y (hY.n 11 rfl) g1) dX12_winsOf_11 ?_
  refine e_iadd dX12_winsOf_12 ?_
  refine e_iload_n dX12_winsOf_13 rfl ?_
  refine e_bipush (v := (100 : Int32)) dX12_winsOf_14 (by decide) ?_
  refine e_idiv dX12_winsOf_16 (by decide) ?_
  refine e_isub dX12_winsOf_17 ?_
  refine e_istore dX12_winsOf_18 (Nat.le_of_ble_eq_true rfl) rfl rfl ?_
  refine e_iload dX12_winsOf_20 rfl ?_
  refine e_bipush (v := (100 : Int32)) dX12_winsOf_22 (by decide) ?_
  refine e_irem dX12_winsOf_24 (by decide) ?_
  refine g_aload_n dX12_winsOf_25 rfl rfl ?_
  refine e_getR (hY.t 0 rfl) flX12_47_13 dX12_winsOf_26 rfl (hY.r 11 rfl) ?_
  refine e_iload dX12_winsOf_29 rfl ?_
  replace H := og H; obtain ⟨g2, H⟩ := H
  refine e_iald (hY.t 12 rfl) (ixb_y (hY.n 12 rfl) g2) dX12_winsOf_31 ?_
  refine e_iadd dX12_winsOf_32 ?_
  refine e_iload_n dX12_winsOf_33 rfl ?_
  refine e_bipush (v := (100 : Int32)) dX12_winsOf_34 (by decide) ?_
  refine e_irem dX12_winsOf_36 (by decide) ?_
  refine e_isub dX12_winsOf_37 ?_
  refine e_istore dX12_winsOf_38 (Nat.le_of_ble_eq_true rfl) rfl rfl ?_
  refine g_aload_n dX12_winsOf_40 rfl rfl ?_
  refine e_getR (hY.t 0 rfl) flX12_50_13 dX12_winsOf_41 rfl (hY.r 12 rfl) ?_
  refine e_iload dX12_winsOf_44 rfl ?_
  replace H := og H; obtain ⟨g3, H⟩ := H
  refine e_iald (hY.t 13 rfl) (ixb_y (hY.n 13 rfl) g3) dX12_winsOf_46 ?_
  refine e_istore dX12_winsOf_47 (Nat.le_of_ble_eq_true rfl) rfl rfl ?_
  refine e_iconst (v := (0 : Int32)) dX12_winsOf_49 (by decide) ?_
  refine e_istore dX12_winsOf_50 (Nat.le_of_ble_eq_true rfl) rfl rfl ?_
  refine e_iload dX12_winsOf_52 rfl ?_
  refine e_ineg dX12_winsOf_54 ?_
  refine e_istore dX12_winsOf_55 (Nat.le_of_ble_eq_true rfl) rfl rfl ?_
  replace H := ob H; obtain ⟨q26, c27, H⟩ := H
  refine e_wk (lk0 (lk1 (lk0 (lk1 (lk1 (lk0 (lk0 (lk1 (lk1 (lk1 (lk1 (lk1 (lk1 lkn))))))))))))) (w_X12_winsOf_57 d hY 1000 c27 ?_)
  refine e_iload dX12_winsOf_118 rfl ?_
  obtain rfl := Option.some.inj H
  exact z_iret rfl rfl dX12_winsOf_120 rfl rfl
-- X12_winsAt
def f_X12_winsAt (p1 : Int32) (p2 : Int32) (p3 : Int32) (h : HS) : Option Int32 := (if ixb p1 8 = true then (if ixb p1 8 = true then (if ixb p1 8 = true then (if ixb p1 8 = true then (Option.bind (f_X12_winsOf (hI h 64 p1.toNatClampNeg) (hI h 65 p1.toNatClampNeg) (hI h 66 p1.toNatClampNeg) (hI h 70 p1.toNatClampNeg) p2 p3 h) (fun q5 => (some q5))) else none) else none) else none) else none)
set_option maxHeartbeats 4000000 in
set_option maxRecDepth 20000 in
theorem t_X12_winsAt {G : GE} (d : Nat) {p1 : Int32} {p2 : Int32} {p3 : Int32} {h : HS} {q : Int32} (hY : LY TM h) (H : f_X12_winsAt p1 p2 p3 h = some q) : CE G (d + 4) yX12_winsAt miX12_winsAt [.ref 60, .int p1, .int p2, .int p3] h (some (.int q)) (h) := by
  unfold f_X12_winsAt at H
  refine ce_of rfl (by decide) (fun q => by first | rfl | cases q) (Nat.le_of_ble_eq_true rfl) rfl ?_
  refine g_aload_n dX12_winsAt_0 rfl rfl ?_
  refine g_aload_n dX12_winsAt_1 rfl rfl ?_
  refine e_getR (hY.t 0 rfl) flX12_23_13 dX12_winsAt_2 rfl (hY.r 3 rfl) ?_
  refine e_iload_n dX12_winsAt_5 rfl ?_
  replace H := og H; obtain ⟨g1, H⟩ := H
  refine e_iald (hY.t 4 rfl) (ixb_y (hY.n 4 rfl) g1) dX12_winsAt_6 ?_
  refine g_aload_n dX12_winsAt_7 rfl rfl ?_
  refine e_getR (hY.t 0 rfl) flX12_26_13 dX12_winsAt_8 rfl (hY.r 4 rfl) ?_
  refine e_iload_n dX12_winsAt_11 rfl ?_
  replace H := og H; obtain ⟨g2, H⟩ := H
  refine e_iald (hY.t 5 rfl) (ixb_y (hY.n 5 rfl) g2) dX12_winsAt_12 ?_
  refine g_aload_n dX12_winsAt_13 rfl rfl ?_
  refine e_getR (hY.t 0 rfl) flX12_29_13 dX12_winsAt_14 rfl (hY.r 5 rfl) ?_
  refine e_iload_n dX12_winsAt_17 rfl ?_
  replace H := og H; obtain ⟨g3, H⟩ := H
  refine e_iald (hY.t 6 rfl) (ixb_y (hY.n 6 rfl) g3) dX12_winsAt_18 ?_
  refine g_aload_n dX12_winsAt_19 rfl rfl ?_
  refine e_getR (hY.t 0 rfl) flX12_41_13 dX12_winsAt_20 rfl (hY.r 9 rfl) ?_
  refine e_iload_n dX12_winsAt_23 rfl ?_
  replace H := og H; obtain ⟨g4, H⟩ := H
  refine e_iald (hY.t 10 rfl) (ixb_y (hY.n 10 rfl) g4) dX12_winsAt_24 ?_
  refine e_iload_n dX12_winsAt_25 rfl ?_
  refine e_iload_n dX12_winsAt_26 rfl ?_
  replace H := ob H; obtain ⟨q5, c6, H⟩ := H
  refine v1 (hY.t 0 rfl) (by decide) rfl rfl lmX12_180 liX12_winsOf lvX12_X12_winsOf msX12_winsOf dX12_winsAt_27 (t_X12_winsOf (d + 0) hY c6) rfl (Nat.le_of_ble_eq_true rfl) (Nat.le_refl _) ?_
  obtain rfl := Option.some.inj H
  exact z_iret rfl rfl dX12_winsAt_30 rfl rfl
-- X12_common
def l_X12_common_17  : Nat → Int64 → Int64 → Option Int64
  | 0, _, _ => none
  | n + 1, x4, x6 => (if x6 = (0 : Int64) then (some x4) else (if ¬ x6 = 0 then (l_X12_common_17  n x6 (x4 - x4 / x6 * x6)) else none))
set_option maxHeartbeats 4000000 in
set_option maxRecDepth 20000 in
theorem w_X12_common_17 {G : GE} (d : Nat)  {h : HS} {r : Option Value} {h' : HS}  : ∀ (n : Nat) {x4 : Int64} {x6 : Int64} {q : Int64}, l_X12_common_17  n x4 x6 = some q → En G (d + 0) miX12_common 42 [dum, dum, dum, dum, .long q, dum, dum, dum, dum, dum] [] h r h' → En G (d + 0) miX12_common 17 [dum, dum, dum, dum, .long x4, dum, .long x6, dum, dum, dum] [] h r h' := by
  intro n
  induction n with
  | zero => intro x4 x6 q H kE; exact nz H
  | succ n ih =>
    intro x4 x6 q H kE
    unfold l_X12_common_17 at H
    refine e_lload dX12_common_17 rfl ?_
    refine e_lconst (v := (0 : Int64)) dX12_common_19 (by decide) ?_
    refine e_lc_eq (tgt := 42) dX12_common_20 dX12_common_21 (by decide) (fun c7 => ?_) (fun c7 => ?_)
    · replace H := ot c7 H
      obtain rfl := Option.some.inj H
      exact e_wk (lk1 (lk1 (lk1 (lk1 (lk1 (lk1 (lk0 (lk1 (lk1 (lk1 lkn)))))))))) kE
    · replace H := of_ c7 H
      refine e_lload dX12_common_24 rfl ?_
      refine e_lload dX12_common_26 rfl ?_
      replace H := og H; obtain ⟨g8, H⟩ := H
      refine e_lrem dX12_common_28 g8 ?_
      refine e_lstore dX12_common_29 (Nat.le_of_ble_eq_true rfl) rfl rfl ?_
      refine e_lload dX12_common_31 rfl ?_
      refine e_lstore dX12_common_33 (Nat.le_of_ble_eq_true rfl) rfl rfl ?_
      refine e_lload dX12_common_35 rfl ?_
      refine e_lstore dX12_common_37 (Nat.le_of_ble_eq_true rfl) rfl rfl ?_
      refine e_goto (tgt := 17) dX12_common_39 (by decide) ?_
      exact e_wk (lk1 (lk1 (lk1 (lk1 (lk1 (lk1 (lk1 (lk1 (lk0 (lk1 lkn)))))))))) (ih H kE)
def f_X12_common (p0 : Int64) (p1 : Int64) : Option Int64 := (Option.bind (if (0 : Int64) ≤ p0 then (some p0) else (some (-p0))) (fun q2 => (Option.bind (l_X12_common_17  1000 q2 p1) (fun q9 => (some q9)))))
set_option maxHeartbeats 4000000 in
set_option maxRecDepth 20000 in
theorem t_X12_common {G : GE} (d : Nat) {p0 : Int64} {p1 : Int64} {h : HS} {q : Int64} (H : f_X12_common p0 p1 = some q) : CE G (d + 0) yX12_common miX12_common [.long p0, .long p1] h (some (.long q)) (h) := by
  unfold f_X12_common at H
  refine ce_of rfl (by decide) (fun q => by first | rfl | cases q) (Nat.le_of_ble_eq_true rfl) rfl ?_
  refine e_lload_n dX12_common_0 rfl ?_
  refine e_lconst (v := (0 : Int64)) dX12_common_1 (by decide) ?_
  replace H := ob H; obtain ⟨q2, c4, H⟩ := H
  have k3 : En G (d + 0) miX12_common 12 [dum, dum, .long p1, dum, dum, dum, dum, dum, dum, dum] [.long q2] h (some (.long q)) (h) := by
    refine e_lstore dX12_common_12 (Nat.le_of_ble_eq_true rfl) rfl rfl ?_
    refine e_lload_n dX12_common_14 rfl ?_
    refine e_lstore dX12_common_15 (Nat.le_of_ble_eq_true rfl) rfl rfl ?_
    replace H := ob H; obtain ⟨q9, c10, H⟩ := H
    refine e_wk (lk1 (lk1 (lk0 (lk1 (lk1 (lk1 (lk1 (lk1 (lk1 (lk1 lkn)))))))))) (w_X12_common_17 d 1000 c10 ?_)
    refine e_lload dX12_common_42 rfl ?_
    obtain rfl := Option.some.inj H
    exact z_lret rfl dX12_common_44 rfl rfl
  replace H := c4
  refine e_lc_ge (tgt := 11) dX12_common_2 dX12_common_3 (by decide) (fun c1 => ?_) (fun c1 => ?_)
  · replace H := ot c1 H
    refine e_lload_n dX12_common_11 rfl ?_
    obtain rfl := Option.some.inj H
    exact e_wk (lk0 (lk1 (lk1 (lk1 (lk1 (lk1 (lk1 (lk1 (lk1 (lk1 lkn)))))))))) k3
  · replace H := of_ c1 H
    refine e_lload_n dX12_common_6 rfl ?_
    refine e_lneg dX12_common_7 ?_
    refine e_goto (tgt := 12) dX12_common_8 (by decide) ?_
    obtain rfl := Option.some.inj H
    exact e_wk (lk0 (lk1 (lk1 (lk1 (lk1 (lk1 (lk1 (lk1 (lk1 (lk1 lkn)))))))))) k3
-- X12_lowest
def f_X12_lowest (p0 : Int64) (p1 : Int64) (p2 : Int32) : Option Int64 := (Option.bind (if p2 = 0 then (some p0) else (some p1)) (fun q2 => (Option.bind (f_X12_common p0 p1) (fun q5 => (if ¬ q5 = 0 then (some (q2 / q5)) else none)))))
set_option maxHeartbeats 4000000 in
set_option maxRecDepth 20000 in
theorem t_X12_lowest {G : GE} (d : Nat) {p0 : Int64} {p1 : Int64} {p2 : Int32} {h : HS} {q : Int64} (H : f_X12_lowest p0 p1 p2 = some q) : CE G (d + 1) yX12_lowest miX12_lowest [.long p0, .long p1, .int p2] h (some (.long q)) (h) := by
  unfold f_X12_lowest at H
  refine ce_of rfl (by decide) (fun q => by first | rfl | cases q) (Nat.le_of_ble_eq_true rfl) rfl ?_
  refine e_iload dX12_lowest_0 rfl ?_
  replace H := ob H; obtain ⟨q2, c4, H⟩ := H
  have k3 : En G (d + 1) miX12_lowest 10 [.long p0, dum, .long p1, dum, dum] [.long q2] h (some (.long q)) (h) := by
    refine e_lload_n dX12_lowest_10 rfl ?_
    refine e_lload_n dX12_lowest_11 rfl ?_
    replace H := ob H; obtain ⟨q5, c6, H⟩ := H
    refine s1 lmX12_183 lsX12_common msX12_common dX12_lowest_12 (t_X12_common (d + 0) c6) rfl (Nat.le_of_ble_eq_true rfl) (Nat.le_refl _) ?_
    replace H := og H; obtain ⟨g7, H⟩ := H
    refine e_ldiv dX12_lowest_15 g7 ?_
    obtain rfl := Option.some.inj H
    exact z_lret rfl dX12_lowest_16 rfl rfl
  replace H := c4
  refine e_if_ne (tgt := 9) dX12_lowest_2 (by decide) (fun c1 => ?_) (fun c1 => ?_)
  · replace H := of_ c1 H
    refine e_lload_n dX12_lowest_9 rfl ?_
    obtain rfl := Option.some.inj H
    exact e_wk (lk1 (lk1 (lk1 (lk1 (lk0 lkn))))) k3
  · replace H := ot c1 H
    refine e_lload_n dX12_lowest_5 rfl ?_
    refine e_goto (tgt := 10) dX12_lowest_6 (by decide) ?_
    obtain rfl := Option.some.inj H
    exact e_wk (lk1 (lk1 (lk1 (lk1 (lk0 lkn))))) k3
-- X12_isPart
def f_X12_isPart (p0 : Int32) : Option Bool := (Option.bind (f_X12_in p0.toInt64 (0 : Int64) (1 : Int64)) (fun q1 => (some q1)))
set_option maxHeartbeats 4000000 in
set_option maxRecDepth 20000 in
theorem t_X12_isPart {G : GE} (d : Nat) {p0 : Int32} {h : HS} {q : Bool} (H : f_X12_isPart p0 = some q) : CE G (d + 1) yX12_isPart miX12_isPart [.int p0] h (some (.int (b2i q))) (h) := by
  unfold f_X12_isPart at H
  refine ce_of rfl (by decide) (fun q => by first | rfl | cases q) (Nat.le_of_ble_eq_true rfl) rfl ?_
  refine e_iload_n dX12_isPart_0 rfl ?_
  refine e_i2l dX12_isPart_1 ?_
  refine e_lconst (v := (0 : Int64)) dX12_isPart_2 (by decide) ?_
  refine e_lconst (v := (1 : Int64)) dX12_isPart_3 (by decide) ?_
  replace H := ob H; obtain ⟨q1, c2, H⟩ := H
  refine s1 lmX12_125 lsX12_in msX12_in dX12_isPart_4 (t_X12_in (d + 0) c2) rfl (Nat.le_of_ble_eq_true rfl) (Nat.le_refl _) ?_
  obtain rfl := Option.some.inj H
  exact z_bret rfl dX12_isPart_7 rfl rfl
-- X12_odds
def f_X12_odds (p1 : Int32) (p2 : Int32) (p3 : Int32) (p4 : Int32) (h : HS) : Option Int64 := (Option.bind (f_X12_isStall p1 h) (fun q1 => (if q1 = true then (Option.bind (f_X12_isHand p2 h) (fun q4 => (if q4 = true then (Option.bind (f_X12_isPlace p3) (fun q7 => (if q7 = true then (Option.bind (f_X12_isPart p4) (fun q10 => (if q10 = true then (Option.bind (f_X12_winsAt p1 p2 p3 h) (fun q13 => (Option.bind (f_X12_allOf p2 h) (fun q15 => (Option.bind (f_X12_lowest q13.toInt64 q15.toInt64 p4) (fun q17 => (some q17))))))) else (some (-4611686018427387904 : Int64))))) else (some (-4611686018427387904 : Int64))))) else (some (-4611686018427387904 : Int64))))) else (some (-4611686018427387904 : Int64)))))
set_option maxHeartbeats 4000000 in
set_option maxRecDepth 20000 in
theorem t_X12_odds {G : GE} (d : Nat) {p1 : Int32} {p2 : Int32} {p3 : Int32} {p4 : Int32} {h : HS} {q : Int64} (hY : LY TM h) (H : f_X12_odds p1 p2 p3 p4 h = some q) : CE G (d + 5) yX12_odds miX12_odds [.ref 60, .int p1, .int p2, .int p3, .int p4] h (some (.long q)) (h) := by
  unfold f_X12_odds at H
  refine ce_of rfl (by decide) (fun q => by first | rfl | cases q) (Nat.le_of_ble_eq_true rfl) rfl ?_
  refine g_aload_n dX12_odds_0 rfl rfl ?_
  refine e_iload_n dX12_odds_1 rfl ?_
  replace H := ob H; obtain ⟨q1, c2, H⟩ := H
  refine v1 (hY.t 0 rfl) (by decide) rfl rfl lmX12_142 liX12_isStall lvX12_X12_isStall msX12_isStall dX12_odds_2 (t_X12_isStall (d + 3) hY c2) rfl (Nat.le_of_ble_eq_true rfl) (Nat.le_refl _) ?_
  refine e_ifB_eq (tgt := 53) dX12_odds_5 (by decide) (fun c3 => ?_) (fun c3 => ?_)
  · replace H := of_ (nb c3) H
    refine e_ldc2 (v := (-4611686018427387904 : Int64)) lkX12_204 dX12_odds_53 ?_
    obtain rfl := Option.some.inj H
    exact z_lret rfl dX12_odds_56 rfl rfl
  · replace H := ot c3 H
    refine g_aload_n dX12_odds_8 rfl rfl ?_
    refine e_iload_n dX12_odds_9 rfl ?_
    replace H := ob H; obtain ⟨q4, c5, H⟩ := H
    refine v1 (hY.t 0 rfl) (by decide) rfl rfl lmX12_187 liX12_isHand lvX12_X12_isHand msX12_isHand dX12_odds_10 (t_X12_isHand (d + 3) hY c5) rfl (Nat.le_of_ble_eq_true rfl) (Nat.le_refl _) ?_
    refine e_ifB_eq (tgt := 53) dX12_odds_13 (by decide) (fun c6 => ?_) (fun c6 => ?_)
    · replace H := of_ (nb c6) H
      refine e_ldc2 (v := (-4611686018427387904 : Int64)) lkX12_204 dX12_odds_53 ?_
      obtain rfl := Option.some.inj H
      exact z_lret rfl dX12_odds_56 rfl rfl
    · replace H := ot c6 H
      refine e_iload_n dX12_odds_16 rfl ?_
      replace H := ob H; obtain ⟨q7, c8, H⟩ := H
      refine s1 lmX12_134 lsX12_isPlace msX12_isPlace dX12_odds_17 (t_X12_isPlace (d + 4) c8) rfl (Nat.le_of_ble_eq_true rfl) (Nat.le_refl _) ?_
      refine e_ifB_eq (tgt := 53) dX12_odds_20 (by decide) (fun c9 => ?_) (fun c9 => ?_)
      · replace H := of_ (nb c9) H
        refine e_ldc2 (v := (-4611686018427387904 : Int64)) lkX12_204 dX12_odds_53 ?_
        obtain rfl := Option.some.inj H
        exact z_lret rfl dX12_odds_56 rfl rfl
      · replace H := ot c9 H
        refine e_iload dX12_odds_23 rfl ?_
        replace H := ob H; obtain ⟨q10, c11, H⟩ := H
        refine s1 lmX12_190 lsX12_isPart msX12_isPart dX12_odds_25 (t_X12_isPart (d + 3) c11) rfl (Nat.le_of_ble_eq_true rfl) (Nat.le_refl _) ?_
        refine e_ifB_eq (tgt := 53) dX12_odds_28 (by decide) (fun c12 => ?_) (fun c12 => ?_)
        · replace H := of_ (nb c12) H
          refine e_ldc2 (v := (-4611686018427387904 : Int64)) lkX12_204 dX12_odds_53 ?_
          obtain rfl := Option.some.inj H
          exact z_lret rfl dX12_odds_56 rfl rfl
        · replace H := ot c12 H
          refine g_aload_n dX12_odds_31 rfl rfl ?_
          refine e_iload_n dX12_odds_32 rfl ?_
          refine e_iload_n dX12_odds_33 rfl ?_
          refine e_iload_n dX12_odds_34 rfl ?_
          replace H := ob H; obtain ⟨q13, c14, H⟩ := H
          refine v1 (hY.t 0 rfl) (by decide) rfl rfl lmX12_193 liX12_winsAt lvX12_X12_winsAt msX12_winsAt dX12_odds_35 (t_X12_winsAt (d + 0) hY c14) rfl (Nat.le_of_ble_eq_true rfl) (Nat.le_refl _) ?_
          refine e_i2l dX12_odds_38 ?_
          refine g_aload_n dX12_odds_39 rfl rfl ?_
          refine e_iload_n dX12_odds_40 rfl ?_
          replace H := ob H; obtain ⟨q15, c16, H⟩ := H
          refine v1 (hY.t 0 rfl) (by decide) rfl rfl lmX12_197 liX12_allOf lvX12_X12_allOf msX12_allOf dX12_odds_41 (t_X12_allOf (d + 4) hY c16) rfl (Nat.le_of_ble_eq_true rfl) (Nat.le_refl _) ?_
          refine e_i2l dX12_odds_44 ?_
          refine e_iload dX12_odds_45 rfl ?_
          replace H := ob H; obtain ⟨q17, c18, H⟩ := H
          refine s1 lmX12_200 lsX12_lowest msX12_lowest dX12_odds_47 (t_X12_lowest (d + 3) c18) rfl (Nat.le_of_ble_eq_true rfl) (Nat.le_refl _) ?_
          refine e_goto (tgt := 56) dX12_odds_50 (by decide) ?_
          obtain rfl := Option.some.inj H
          exact z_lret rfl dX12_odds_56 rfl rfl
-- X12_bestOf
def l_X12_bestOf_16 (y1 : Int32) (y2 : Int32) (y3 : Int32) (y4 : Int32) (y5 : Int32) (y7 : Int32)  : Nat → Int32 → Int32 → HS → Option (Int32 × HS)
  | 0, _, _, _ => none
  | n + 1, x6, x8, h => (if (20 : Int32) ≤ x8 then (some (x6, h)) else (Option.bind (f_X12_winsOf y1 y2 y3 y4 y5 (((100 : Int32) * x8) + y7) h) (fun q20 => (if x6 < q20 then (l_X12_bestOf_16 y1 y2 y3 y4 y5 y7 n q20 (x8 + (1 : Int32)) (sI h 60 19 (((100 : Int32) * x8) + y7))) else (l_X12_bestOf_16 y1 y2 y3 y4 y5 y7 n x6 (x8 + (1 : Int32)) h)))))
set_option maxHeartbeats 4000000 in
set_option maxRecDepth 20000 in
theorem p_X12_bestOf_16 {y1 : Int32} {y2 : Int32} {y3 : Int32} {y4 : Int32} {y5 : Int32} {y7 : Int32} : ∀ (n : Nat) {x6 : Int32} {x8 : Int32} {h : HS} {q : (Int32 × HS)}, l_X12_bestOf_16 y1 y2 y3 y4 y5 y7 n x6 x8 h = some q → Pr h q.2 := by
  intro n
  induction n with
  | zero => intro x6 x8 h q H; exact nz H
  | succ n ih =>
    intro x6 x8 h q H
    unfold l_X12_bestOf_16 at H
    replace H := oi H; obtain ⟨c19, H⟩ | ⟨c19, H⟩ := H
    · obtain rfl := Option.some.inj H
      exact Pr.rf
    · replace H := ob H; obtain ⟨q20, c21, H⟩ := H
      replace H := oi H; obtain ⟨c22, H⟩ | ⟨c22, H⟩ := H
      · exact (Pr.rf.sI).tr (ih H)
      · exact id (ih H)
set_option maxHeartbeats 4000000 in
set_option maxRecDepth 20000 in
theorem w_X12_bestOf_16 {G : GE} (d : Nat) {y1 : Int32} {y2 : Int32} {y3 : Int32} {y4 : Int32} {y5 : Int32} {y7 : Int32} {r : Option Value} {h' : HS}  : ∀ (n : Nat) {x6 : Int32} {x8 : Int32} {h : HS} {q : (Int32 × HS)}, LY TM h → l_X12_bestOf_16 y1 y2 y3 y4 y5 y7 n x6 x8 h = some q → En G (d + 4) miX12_bestOf 76 [.ref 60, .int y1, .int y2, .int y3, .int y4, .int y5, .int q.1, .int y7, dum, dum] [] q.2 r h' → En G (d + 4) miX12_bestOf 16 [.ref 60, .int y1, .int y2, .int y3, .int y4, .int y5, .int x6, .int y7, .int x8, dum] [] h r h' := by
  intro n
  induction n with
  | zero => intro x6 x8 h q hYTM H kE; exact nz H
  | succ n ih =>
    intro x6 x8 h q hYTM H kE
    unfold l_X12_bestOf_16 at H
    refine e_iload dX12_bestOf_16 rfl ?_
    refine e_bipush (v := (20 : Int32)) dX12_bestOf_18 (by decide) ?_
    refine e_icmp_ge (tgt := 76) dX12_bestOf_20 (by decide) (fun c19 => ?_) (fun c19 => ?_)
    · replace H := ot c19 H
      obtain rfl := Option.some.inj H
      exact e_wk (lk1 (lk1 (lk1 (lk1 (lk1 (lk1 (lk1 (lk1 (lk0 (lk1 lkn)))))))))) kE
    · replace H := of_ c19 H
      refine g_aload_n dX12_bestOf_23 rfl rfl ?_
      refine e_iload_n dX12_bestOf_24 rfl ?_
      refine e_iload_n dX12_bestOf_25 rfl ?_
      refine e_iload_n dX12_bestOf_26 rfl ?_
      refine e_iload dX12_bestOf_27 rfl ?_
      refine e_iload dX12_bestOf_29 rfl ?_
      refine e_bipush (v := (100 : Int32)) dX12_bestOf_31 (by decide) ?_
      refine e_iload dX12_bestOf_33 rfl ?_
      refine e_imul dX12_bestOf_35 ?_
      refine e_iload dX12_bestOf_36 rfl ?_
      refine e_iadd dX12_bestOf_38 ?_
      replace H := ob H; obtain ⟨q20, c21, H⟩ := H
      refine v1 (hYTM.t 0 rfl) (by decide) rfl rfl lmX12_180 liX12_winsOf lvX12_X12_winsOf msX12_winsOf dX12_bestOf_39 (t_X12_winsOf (d + 0) hYTM c21) rfl (Nat.le_of_ble_eq_true rfl) (Nat.le_refl _) ?_
      refine e_istore dX12_bestOf_42 (Nat.le_of_ble_eq_true rfl) rfl rfl ?_
      refine e_iload dX12_bestOf_44 rfl ?_
      refine e_iload dX12_bestOf_46 rfl ?_
      refine e_icmp_gt (tgt := 54) dX12_bestOf_48 (by decide) (fun c22 => ?_) (fun c22 => ?_)
      · replace H := ot c22 H
        refine e_iload dX12_bestOf_54 rfl ?_
        refine e_istore dX12_bestOf_56 (Nat.le_of_ble_eq_true rfl) rfl rfl ?_
        refine g_aload_n dX12_bestOf_58 rfl rfl ?_
        refine e_bipush (v := (100 : Int32)) dX12_bestOf_59 (by decide) ?_
        refine e_iload dX12_bestOf_61 rfl ?_
        refine e_imul dX12_bestOf_63 ?_
        refine e_iload dX12_bestOf_64 rfl ?_
        refine e_iadd dX12_bestOf_66 ?_
        refine e_putI (hYTM.t 0 rfl) fpX12_206_13 rfl dX12_bestOf_67 ?_
        refine e_iinc dX12_bestOf_70 rfl (ii_ (by decide : Int32.ofInt (1) = (1 : Int32))) (Nat.le_of_ble_eq_true rfl) rfl rfl ?_
        refine e_goto (tgt := 16) dX12_bestOf_73 (by decide) ?_
        exact e_wk (lk1 (lk1 (lk1 (lk1 (lk1 (lk1 (lk1 (lk1 (lk1 (lk0 lkn)))))))))) (ih (hYTM.sI) H kE)
      · replace H := of_ c22 H
        refine e_goto (tgt := 70) dX12_bestOf_51 (by decide) ?_
        refine e_iinc dX12_bestOf_70 rfl (ii_ (by decide : Int32.ofInt (1) = (1 : Int32))) (Nat.le_of_ble_eq_true rfl) rfl rfl ?_
        refine e_goto (tgt := 16) dX12_bestOf_73 (by decide) ?_
        exact e_wk (lk1 (lk1 (lk1 (lk1 (lk1 (lk1 (lk1 (lk1 (lk1 (lk0 lkn)))))))))) (ih hYTM H kE)
def l_X12_bestOf_6 (y1 : Int32) (y2 : Int32) (y3 : Int32) (y4 : Int32) (y5 : Int32)  : Nat → Int32 → Int32 → HS → Option (Int32 × HS)
  | 0, _, _, _ => none
  | n + 1, x6, x7, h => (if (20 : Int32) ≤ x7 then (some (x6, h)) else (Option.bind (l_X12_bestOf_16 y1 y2 y3 y4 y5 x7 1000 x6 (0 : Int32) h) (fun q23 => (l_X12_bestOf_6 y1 y2 y3 y4 y5 n q23.1 (x7 + (1 : Int32)) q23.2))))
set_option maxHeartbeats 4000000 in
set_option maxRecDepth 20000 in
theorem p_X12_bestOf_6 {y1 : Int32} {y2 : Int32} {y3 : Int32} {y4 : Int32} {y5 : Int32} : ∀ (n : Nat) {x6 : Int32} {x7 : Int32} {h : HS} {q : (Int32 × HS)}, l_X12_bestOf_6 y1 y2 y3 y4 y5 n x6 x7 h = some q → Pr h q.2 := by
  intro n
  induction n with
  | zero => intro x6 x7 h q H; exact nz H
  | succ n ih =>
    intro x6 x7 h q H
    unfold l_X12_bestOf_6 at H
    replace H := oi H; obtain ⟨c14, H⟩ | ⟨c14, H⟩ := H
    · obtain rfl := Option.some.inj H
      exact Pr.rf
    · replace H := ob H; obtain ⟨q23, c24, H⟩ := H
      have e25 := p_X12_bestOf_16 1000 c24
      exact e25.tr (ih H)
set_option maxHeartbeats 4000000 in
set_option maxRecDepth 20000 in
theorem w_X12_bestOf_6 {G : GE} (d : Nat) {y1 : Int32} {y2 : Int32} {y3 : Int32} {y4 : Int32} {y5 : Int32} {r : Option Value} {h' : HS}  : ∀ (n : Nat) {x6 : Int32} {x7 : Int32} {h : HS} {q : (Int32 × HS)}, LY TM h → l_X12_bestOf_6 y1 y2 y3 y4 y5 n x6 x7 h = some q → En G (d + 4) miX12_bestOf 82 [dum, dum, dum, dum, dum, dum, .int q.1, dum, dum, dum] [] q.2 r h' → En G (d + 4) miX12_bestOf 6 [.ref 60, .int y1, .int y2, .int y3, .int y4, .int y5, .int x6, .int x7, dum, dum] [] h r h' := by
  intro n
  induction n with
  | zero => intro x6 x7 h q hYTM H kE; exact nz H
  | succ n ih =>
    intro x6 x7 h q hYTM H kE
    unfold l_X12_bestOf_6 at H
    refine e_iload dX12_bestOf_6 rfl ?_
    refine e_bipush (v := (20 : Int32)) dX12_bestOf_8 (by decide) ?_
    refine e_icmp_ge (tgt := 82) dX12_bestOf_10 (by decide) (fun c14 => ?_) (fun c14 => ?_)
    · replace H := ot c14 H
      obtain rfl := Option.some.inj H
      exact e_wk (lk0 (lk0 (lk0 (lk0 (lk0 (lk0 (lk1 (lk0 (lk1 (lk1 lkn)))))))))) kE
    · replace H := of_ c14 H
      refine e_iconst (v := (0 : Int32)) dX12_bestOf_13 (by decide) ?_
      refine e_istore dX12_bestOf_14 (Nat.le_of_ble_eq_true rfl) rfl rfl ?_
      replace H := ob H; obtain ⟨q23, c24, H⟩ := H
      have e25 := p_X12_bestOf_16 1000 c24
      have hY26 := hYTM.pr okM e25
      refine e_wk (lk1 (lk1 (lk1 (lk1 (lk1 (lk1 (lk1 (lk1 (lk1 (lk1 lkn)))))))))) (w_X12_bestOf_16 d 1000 hYTM c24 ?_)
      refine e_iinc dX12_bestOf_76 rfl (ii_ (by decide : Int32.ofInt (1) = (1 : Int32))) (Nat.le_of_ble_eq_true rfl) rfl rfl ?_
      refine e_goto (tgt := 6) dX12_bestOf_79 (by decide) ?_
      exact e_wk (lk1 (lk1 (lk1 (lk1 (lk1 (lk1 (lk1 (lk1 (lk1 (lk1 lkn)))))))))) (ih hY26 H kE)
def f_X12_bestOf (p1 : Int32) (p2 : Int32) (p3 : Int32) (p4 : Int32) (p5 : Int32) (h : HS) : Option (Int32 × HS) := (Option.bind (l_X12_bestOf_6 p1 p2 p3 p4 p5 1000 (-1 : Int32) (0 : Int32) h) (fun q27 => (some (q27.1, q27.2))))
set_option maxHeartbeats 4000000 in
set_option maxRecDepth 20000 in
theorem p_X12_bestOf {p1 : Int32} {p2 : Int32} {p3 : Int32} {p4 : Int32} {p5 : Int32} {h : HS} {q : (Int32 × HS)} (H : f_X12_bestOf p1 p2 p3 p4 p5 h = some q) : Pr h q.2 := by
  unfold f_X12_bestOf at H
  replace H := ob H; obtain ⟨q27, c28, H⟩ := H
  have e29 := p_X12_bestOf_6 1000 c28
  obtain rfl := Option.some.inj H
  exact e29
set_option maxHeartbeats 4000000 in
set_option maxRecDepth 20000 in
theorem t_X12_bestOf {G : GE} (d : Nat) {p1 : Int32} {p2 : Int32} {p3 : Int32} {p4 : Int32} {p5 : Int32} {h : HS} {q : (Int32 × HS)} (hY : LY TM h) (H : f_X12_bestOf p1 p2 p3 p4 p5 h = some q) : CE G (d + 4) yX12_bestOf miX12_bestOf [.ref 60, .int p1, .int p2, .int p3, .int p4, .int p5] h (some (.int q.1)) (q.2) := by
  unfold f_X12_bestOf at H
  refine ce_of rfl (by decide) (fun q => by first | rfl | cases q) (Nat.le_of_ble_eq_true rfl) rfl ?_
  refine e_iconst (v := (-1 : Int32)) dX12_bestOf_0 (by decide) ?_
  refine e_istore dX12_bestOf_1 (Nat.le_of_ble_eq_true rfl) rfl rfl ?_
  refine e_iconst (v := (0 : Int32)) dX12_bestOf_3 (by decide) ?_
  refine e_istore dX12_bestOf_4 (Nat.le_of_ble_eq_true rfl) rfl rfl ?_
  replace H := ob H; obtain ⟨q27, c28, H⟩ := H
  have e29 := p_X12_bestOf_6 1000 c28
  have hY30 := hY.pr okM e29
  refine e_wk (lk1 (lk1 (lk1 (lk1 (lk1 (lk1 (lk1 (lk1 (lk1 (lk1 lkn)))))))))) (w_X12_bestOf_6 d 1000 hY c28 ?_)
  refine e_iload dX12_bestOf_82 rfl ?_
  obtain rfl := Option.some.inj H
  exact z_iret rfl rfl dX12_bestOf_84 rfl rfl
-- X12_bestAt
def f_X12_bestAt (p1 : Int32) (p2 : Int32) (h : HS) : Option (Int32 × HS) := (if ixb p1 8 = true then (if ixb p1 8 = true then (if ixb p1 8 = true then (if ixb p1 8 = true then (Option.bind (f_X12_bestOf (hI h 64 p1.toNatClampNeg) (hI h 65 p1.toNatClampNeg) (hI h 66 p1.toNatClampNeg) (hI h 70 p1.toNatClampNeg) p2 h) (fun q5 => (some (q5.1, q5.2)))) else none) else none) else none) else none)
set_option maxHeartbeats 4000000 in
set_option maxRecDepth 20000 in
theorem p_X12_bestAt {p1 : Int32} {p2 : Int32} {h : HS} {q : (Int32 × HS)} (H : f_X12_bestAt p1 p2 h = some q) : Pr h q.2 := by
  unfold f_X12_bestAt at H
  replace H := og H; obtain ⟨g1, H⟩ := H
  replace H := og H; obtain ⟨g2, H⟩ := H
  replace H := og H; obtain ⟨g3, H⟩ := H
  replace H := og H; obtain ⟨g4, H⟩ := H
  replace H := ob H; obtain ⟨q5, c6, H⟩ := H
  have e7 := p_X12_bestOf c6
  obtain rfl := Option.some.inj H
  exact e7
set_option maxHeartbeats 4000000 in
set_option maxRecDepth 20000 in
theorem t_X12_bestAt {G : GE} (d : Nat) {p1 : Int32} {p2 : Int32} {h : HS} {q : (Int32 × HS)} (hY : LY TM h) (H : f_X12_bestAt p1 p2 h = some q) : CE G (d + 5) yX12_bestAt miX12_bestAt [.ref 60, .int p1, .int p2] h (some (.int q.1)) (q.2) := by
  unfold f_X12_bestAt at H
  refine ce_of rfl (by decide) (fun q => by first | rfl | cases q) (Nat.le_of_ble_eq_true rfl) rfl ?_
  refine g_aload_n dX12_bestAt_0 rfl rfl ?_
  refine g_aload_n dX12_bestAt_1 rfl rfl ?_
  refine e_getR (hY.t 0 rfl) flX12_23_13 dX12_bestAt_2 rfl (hY.r 3 rfl) ?_
  refine e_iload_n dX12_bestAt_5 rfl ?_
  replace H := og H; obtain ⟨g1, H⟩ := H
  refine e_iald (hY.t 4 rfl) (ixb_y (hY.n 4 rfl) g1) dX12_bestAt_6 ?_
  refine g_aload_n dX12_bestAt_7 rfl rfl ?_
  refine e_getR (hY.t 0 rfl) flX12_26_13 dX12_bestAt_8 rfl (hY.r 4 rfl) ?_
  refine e_iload_n dX12_bestAt_11 rfl ?_
  replace H := og H; obtain ⟨g2, H⟩ := H
  refine e_iald (hY.t 5 rfl) (ixb_y (hY.n 5 rfl) g2) dX12_bestAt_12 ?_
  refine g_aload_n dX12_bestAt_13 rfl rfl ?_
  refine e_getR (hY.t 0 rfl) flX12_29_13 dX12_bestAt_14 rfl (hY.r 5 rfl) ?_
  refine e_iload_n dX12_bestAt_17 rfl ?_
  replace H := og H; obtain ⟨g3, H⟩ := H
  refine e_iald (hY.t 6 rfl) (ixb_y (hY.n 6 rfl) g3) dX12_bestAt_18 ?_
  refine g_aload_n dX12_bestAt_19 rfl rfl ?_
  refine e_getR (hY.t 0 rfl) flX12_41_13 dX12_bestAt_20 rfl (hY.r 9 rfl) ?_
  refine e_iload_n dX12_bestAt_23 rfl ?_
  replace H := og H; obtain ⟨g4, H⟩ := H
  refine e_iald (hY.t 10 rfl) (ixb_y (hY.n 10 rfl) g4) dX12_bestAt_24 ?_
  refine e_iload_n dX12_bestAt_25 rfl ?_
  replace H := ob H; obtain ⟨q5, c6, H⟩ := H
  refine v1 (hY.t 0 rfl) (by decide) rfl rfl lmX12_209 liX12_bestOf lvX12_X12_bestOf msX12_bestOf dX12_bestAt_26 (t_X12_bestOf (d + 0) hY c6) rfl (Nat.le_of_ble_eq_true rfl) (Nat.le_refl _) ?_
  have e7 := p_X12_bestOf c6
  have hY8 := hY.pr okM e7
  obtain rfl := Option.some.inj H
  exact z_iret rfl rfl dX12_bestAt_29 rfl rfl
-- X12_best
def f_X12_best (p1 : Int32) (p2 : Int32) (p3 : Int32) (h : HS) : Option (Int64 × HS) := (Option.bind (f_X12_isStall p1 h) (fun q1 => (if q1 = true then (Option.bind (f_X12_isHand p2 h) (fun q4 => (if q4 = true then (Option.bind (f_X12_in p3.toInt64 (0 : Int64) (2 : Int64)) (fun q7 => (if q7 = true then (Option.bind (f_X12_bestAt p1 p2 h) (fun q10 => (if p3 = 0 then (some ((hI q10.2 60 19).toInt64, q10.2)) else (Option.bind (f_X12_allOf p2 q10.2) (fun q15 => (Option.bind (f_X12_lowest q10.1.toInt64 q15.toInt64 (p3 - (1 : Int32))) (fun q17 => (some (q17, q10.2))))))))) else (some ((-4611686018427387904 : Int64), h))))) else (some ((-4611686018427387904 : Int64), h))))) else (some ((-4611686018427387904 : Int64), h)))))
set_option maxHeartbeats 4000000 in
set_option maxRecDepth 20000 in
theorem p_X12_best {p1 : Int32} {p2 : Int32} {p3 : Int32} {h : HS} {q : (Int64 × HS)} (H : f_X12_best p1 p2 p3 h = some q) : Pr h q.2 := by
  unfold f_X12_best at H
  replace H := ob H; obtain ⟨q1, c2, H⟩ := H
  replace H := oi H; obtain ⟨c3, H⟩ | ⟨c3, H⟩ := H
  · replace H := ob H; obtain ⟨q4, c5, H⟩ := H
    replace H := oi H; obtain ⟨c6, H⟩ | ⟨c6, H⟩ := H
    · replace H := ob H; obtain ⟨q7, c8, H⟩ := H
      replace H := oi H; obtain ⟨c9, H⟩ | ⟨c9, H⟩ := H
      · replace H := ob H; obtain ⟨q10, c11, H⟩ := H
        have e12 := p_X12_bestAt c11
        replace H := oi H; obtain ⟨c14, H⟩ | ⟨c14, H⟩ := H
        · obtain rfl := Option.some.inj H
          exact e12
        · replace H := ob H; obtain ⟨q15, c16, H⟩ := H
          replace H := ob H; obtain ⟨q17, c18, H⟩ := H
          obtain rfl := Option.some.inj H
          exact e12
      · obtain rfl := Option.some.inj H
        exact Pr.rf
    · obtain rfl := Option.some.inj H
      exact Pr.rf
  · obtain rfl := Option.some.inj H
    exact Pr.rf
set_option maxHeartbeats 4000000 in
set_option maxRecDepth 20000 in
theorem t_X12_best {G : GE} (d : Nat) {p1 : Int32} {p2 : Int32} {p3 : Int32} {h : HS} {q : (Int64 × HS)} (hY : LY TM h) (H : f_X12_best p1 p2 p3 h = some q) : CE G (d + 6) yX12_best miX12_best [.ref 60, .int p1, .int p2, .int p3] h (some (.long q.1)) (q.2) := by
  unfold f_X12_best at H
  refine ce_of rfl (by decide) (fun q => by first | rfl | cases q) (Nat.le_of_ble_eq_true rfl) rfl ?_
  refine g_aload_n dX12_best_0 rfl rfl ?_
  refine e_iload_n dX12_best_1 rfl ?_
  replace H := ob H; obtain ⟨q1, c2, H⟩ := H
  refine v1 (hY.t 0 rfl) (by decide) rfl rfl lmX12_142 liX12_isStall lvX12_X12_isStall msX12_isStall dX12_best_2 (t_X12_isStall (d + 4) hY c2) rfl (Nat.le_of_ble_eq_true rfl) (Nat.le_refl _) ?_
  refine e_ifB_eq (tgt := 28) dX12_best_5 (by decide) (fun c3 => ?_) (fun c3 => ?_)
  · replace H := of_ (nb c3) H
    refine e_ldc2 (v := (-4611686018427387904 : Int64)) lkX12_204 dX12_best_28 ?_
    obtain rfl := Option.some.inj H
    exact z_lret rfl dX12_best_31 rfl rfl
  · replace H := ot c3 H
    refine g_aload_n dX12_best_8 rfl rfl ?_
    refine e_iload_n dX12_best_9 rfl ?_
    replace H := ob H; obtain ⟨q4, c5, H⟩ := H
    refine v1 (hY.t 0 rfl) (by decide) rfl rfl lmX12_187 liX12_isHand lvX12_X12_isHand msX12_isHand dX12_best_10 (t_X12_isHand (d + 4) hY c5) rfl (Nat.le_of_ble_eq_true rfl) (Nat.le_refl _) ?_
    refine e_ifB_eq (tgt := 28) dX12_best_13 (by decide) (fun c6 => ?_) (fun c6 => ?_)
    · replace H := of_ (nb c6) H
      refine e_ldc2 (v := (-4611686018427387904 : Int64)) lkX12_204 dX12_best_28 ?_
      obtain rfl := Option.some.inj H
      exact z_lret rfl dX12_best_31 rfl rfl
    · replace H := ot c6 H
      refine e_iload_n dX12_best_16 rfl ?_
      refine e_i2l dX12_best_17 ?_
      refine e_lconst (v := (0 : Int64)) dX12_best_18 (by decide) ?_
      refine e_ldc2 (v := (2 : Int64)) lkX12_213 dX12_best_19 ?_
      replace H := ob H; obtain ⟨q7, c8, H⟩ := H
      refine s1 lmX12_125 lsX12_in msX12_in dX12_best_22 (t_X12_in (d + 5) c8) rfl (Nat.le_of_ble_eq_true rfl) (Nat.le_refl _) ?_
      refine e_ifB_ne (tgt := 32) dX12_best_25 (by decide) (fun c9 => ?_) (fun c9 => ?_)
      · replace H := ot c9 H
        refine g_aload_n dX12_best_32 rfl rfl ?_
        refine e_iload_n dX12_best_33 rfl ?_
        refine e_iload_n dX12_best_34 rfl ?_
        replace H := ob H; obtain ⟨q10, c11, H⟩ := H
        refine v1 (hY.t 0 rfl) (by decide) rfl rfl lmX12_215 liX12_bestAt lvX12_X12_bestAt msX12_bestAt dX12_best_35 (t_X12_bestAt (d + 0) hY c11) rfl (Nat.le_of_ble_eq_true rfl) (Nat.le_refl _) ?_
        have e12 := p_X12_bestAt c11
        have hY13 := hY.pr okM e12
        refine e_istore dX12_best_38 (Nat.le_of_ble_eq_true rfl) rfl rfl ?_
        refine e_iload_n dX12_best_40 rfl ?_
        refine e_if_ne (tgt := 52) dX12_best_41 (by decide) (fun c14 => ?_) (fun c14 => ?_)
        · replace H := of_ c14 H
          refine e_iload dX12_best_52 rfl ?_
          refine e_i2l dX12_best_54 ?_
          refine g_aload_n dX12_best_55 rfl rfl ?_
          refine e_iload_n dX12_best_56 rfl ?_
          replace H := ob H; obtain ⟨q15, c16, H⟩ := H
          refine v1 (hY13.t 0 rfl) (by decide) rfl rfl lmX12_197 liX12_allOf lvX12_X12_allOf msX12_allOf dX12_best_57 (t_X12_allOf (d + 5) hY13 c16) rfl (Nat.le_of_ble_eq_true rfl) (Nat.le_refl _) ?_
          refine e_i2l dX12_best_60 ?_
          refine e_iload_n dX12_best_61 rfl ?_
          refine e_iconst (v := (1 : Int32)) dX12_best_62 (by decide) ?_
          refine e_isub dX12_best_63 ?_
          replace H := ob H; obtain ⟨q17, c18, H⟩ := H
          refine s1 lmX12_200 lsX12_lowest msX12_lowest dX12_best_64 (t_X12_lowest (d + 4) c18) rfl (Nat.le_of_ble_eq_true rfl) (Nat.le_refl _) ?_
          obtain rfl := Option.some.inj H
          exact z_lret rfl dX12_best_67 rfl rfl
        · replace H := ot c14 H
          refine g_aload_n dX12_best_44 rfl rfl ?_
          refine e_getI (hY13.t 0 rfl) flX12_206_13 dX12_best_45 rfl ?_
          refine e_i2l dX12_best_48 ?_
          refine e_goto (tgt := 67) dX12_best_49 (by decide) ?_
          obtain rfl := Option.some.inj H
          exact z_lret rfl dX12_best_67 rfl rfl
      · replace H := of_ (nb c9) H
        refine e_ldc2 (v := (-4611686018427387904 : Int64)) lkX12_204 dX12_best_28 ?_
        obtain rfl := Option.some.inj H
        exact z_lret rfl dX12_best_31 rfl rfl
-- X12_lotOf
def f_X12_lotOf (p0 : Int64) : Option Int64 := (some ((p0 * (48271 : Int64)) - (p0 * (48271 : Int64)) / (2147483647 : Int64) * (2147483647 : Int64)))
set_option maxHeartbeats 4000000 in
set_option maxRecDepth 20000 in
theorem t_X12_lotOf {G : GE} (d : Nat) {p0 : Int64} {h : HS} {q : Int64} (H : f_X12_lotOf p0 = some q) : CE G (d + 0) yX12_lotOf miX12_lotOf [.long p0] h (some (.long q)) (h) := by
  unfold f_X12_lotOf at H
  refine ce_of rfl (by decide) (fun q => by first | rfl | cases q) (Nat.le_of_ble_eq_true rfl) rfl ?_
  refine e_lload_n dX12_lotOf_0 rfl ?_
  refine e_ldc2 (v := (48271 : Int64)) lkX12_219 dX12_lotOf_1 ?_
  refine e_lmul dX12_lotOf_4 ?_
  refine e_ldc2 (v := (2147483647 : Int64)) lkX12_221 dX12_lotOf_5 ?_
  refine e_lrem dX12_lotOf_8 (by decide) ?_
  obtain rfl := Option.some.inj H
  exact z_lret rfl dX12_lotOf_9 rfl rfl
-- X12_wonBy
def f_X12_wonBy (p1 : Int32) (p2 : Int32) (p3 : Int32) (p4 : Int64) (h : HS) : Option Int32 := (if ixb p2 6 = true then (if ¬ (((2 : Int64) * (hI h 73 p2.toNatClampNeg).toInt64) + (1 : Int64)) = 0 then (if ixb p2 6 = true then (if ¬ (((2 : Int64) * (hI h 73 p2.toNatClampNeg).toInt64) + (1 : Int64)) = 0 then (if ¬ (((2 : Int64) * (hI h 73 p2.toNatClampNeg).toInt64) + (1 : Int64)) = 0 then (if ixb p2 6 = true then (if ixb p1 8 = true then (if ixb p1 8 = true then (if ixb p1 8 = true then (if ixb p2 6 = true then (if ixb p1 8 = true then (if ixb p2 6 = true then (if ixb p1 8 = true then (Option.bind (f_X12_isWon (hI h 64 p1.toNatClampNeg) (hI h 66 p1.toNatClampNeg) (hI h 70 p1.toNatClampNeg) ((((p3 / (100 : Int32)) + (hI h 71 p2.toNatClampNeg)) + ((p4 - p4 / (((2 : Int64) * (hI h 73 p2.toNatClampNeg).toInt64) + (1 : Int64)) * (((2 : Int64) * (hI h 73 p2.toNatClampNeg).toInt64) + (1 : Int64))).toInt32 - (hI h 73 p2.toNatClampNeg))) - ((hI h 65 p1.toNatClampNeg) / (100 : Int32))) ((((p3 - p3 / (100 : Int32) * (100 : Int32)) + (hI h 72 p2.toNatClampNeg)) + (((p4 / (((2 : Int64) * (hI h 73 p2.toNatClampNeg).toInt64) + (1 : Int64))) - (p4 / (((2 : Int64) * (hI h 73 p2.toNatClampNeg).toInt64) + (1 : Int64))) / (((2 : Int64) * (hI h 73 p2.toNatClampNeg).toInt64) + (1 : Int64)) * (((2 : Int64) * (hI h 73 p2.toNatClampNeg).toInt64) + (1 : Int64))).toInt32 - (hI h 73 p2.toNatClampNeg))) - ((hI h 65 p1.toNatClampNeg) - (hI h 65 p1.toNatClampNeg) / (100 : Int32) * (100 : Int32)))) (fun q14 => (if q14 = true then (some (1 : Int32)) else (some (0 : Int32))))) else none) else none) else none) else none) else none) else none) else none) else none) else none) else none) else none) else none) else none)
set_option maxHeartbeats 4000000 in
set_option maxRecDepth 20000 in
theorem t_X12_wonBy {G : GE} (d : Nat) {p1 : Int32} {p2 : Int32} {p3 : Int32} {p4 : Int64} {h : HS} {q : Int32} (hY : LY TM h) (H : f_X12_wonBy p1 p2 p3 p4 h = some q) : CE G (d + 3) yX12_wonBy miX12_wonBy [.ref 60, .int p1, .int p2, .int p3, .long p4] h (some (.int q)) (h) := by
  unfold f_X12_wonBy at H
  refine ce_of rfl (by decide) (fun q => by first | rfl | cases q) (Nat.le_of_ble_eq_true rfl) rfl ?_
  refine e_ldc2 (v := (2 : Int64)) lkX12_213 dX12_wonBy_0 ?_
  refine g_aload_n dX12_wonBy_3 rfl rfl ?_
  refine e_getR (hY.t 0 rfl) flX12_50_13 dX12_wonBy_4 rfl (hY.r 12 rfl) ?_
  refine e_iload_n dX12_wonBy_7 rfl ?_
  replace H := og H; obtain ⟨g1, H⟩ := H
  refine e_iald (hY.t 13 rfl) (ixb_y (hY.n 13 rfl) g1) dX12_wonBy_8 ?_
  refine e_i2l dX12_wonBy_9 ?_
  refine e_lmul dX12_wonBy_10 ?_
  refine e_lconst (v := (1 : Int64)) dX12_wonBy_11 (by decide) ?_
  refine e_ladd dX12_wonBy_12 ?_
  refine e_lstore dX12_wonBy_13 (Nat.le_of_ble_eq_true rfl) rfl rfl ?_
  refine e_lload dX12_wonBy_15 rfl ?_
  refine e_lload dX12_wonBy_17 rfl ?_
  replace H := og H; obtain ⟨g2, H⟩ := H
  refine e_lrem dX12_wonBy_19 g2 ?_
  refine e_l2i dX12_wonBy_20 ?_
  refine g_aload_n dX12_wonBy_21 rfl rfl ?_
  refine e_getR (hY.t 0 rfl) flX12_50_13 dX12_wonBy_22 rfl (hY.r 12 rfl) ?_
  refine e_iload_n dX12_wonBy_25 rfl ?_
  replace H := og H; obtain ⟨g3, H⟩ := H
  refine e_iald (hY.t 13 rfl) (ixb_y (hY.n 13 rfl) g3) dX12_wonBy_26 ?_
  refine e_isub dX12_wonBy_27 ?_
  refine e_istore dX12_wonBy_28 (Nat.le_of_ble_eq_true rfl) rfl rfl ?_
  refine e_lload dX12_wonBy_30 rfl ?_
  refine e_lload dX12_wonBy_32 rfl ?_
  replace H := og H; obtain ⟨g4, H⟩ := H
  refine e_ldiv dX12_wonBy_34 g4 ?_
  refine e_lload dX12_wonBy_35 rfl ?_
  replace H := og H; obtain ⟨g5, H⟩ := H
  refine e_lrem dX12_wonBy_37 g5 ?_
  refine e_l2i dX12_wonBy_38 ?_
  refine g_aload_n dX12_wonBy_39 rfl rfl ?_
  refine e_getR (hY.t 0 rfl) flX12_50_13 dX12_wonBy_40 rfl (hY.r 12 rfl) ?_
  refine e_iload_n dX12_wonBy_43 rfl ?_
  replace H := og H; obtain ⟨g6, H⟩ := H
  refine e_iald (hY.t 13 rfl) (ixb_y (hY.n 13 rfl) g6) dX12_wonBy_44 ?_
  refine e_isub dX12_wonBy_45 ?_
  refine e_istore dX12_wonBy_46 (Nat.le_of_ble_eq_true rfl) rfl rfl ?_
  refine g_aload_n dX12_wonBy_48 rfl rfl ?_
  refine e_getR (hY.t 0 rfl) flX12_23_13 dX12_wonBy_49 rfl (hY.r 3 rfl) ?_
  refine e_iload_n dX12_wonBy_52 rfl ?_
  replace H := og H; obtain ⟨g7, H⟩ := H
  refine e_iald (hY.t 4 rfl) (ixb_y (hY.n 4 rfl) g7) dX12_wonBy_53 ?_
  refine g_aload_n dX12_wonBy_54 rfl rfl ?_
  refine e_getR (hY.t 0 rfl) flX12_29_13 dX12_wonBy_55 rfl (hY.r 5 rfl) ?_
  refine e_iload_n dX12_wonBy_58 rfl ?_
  replace H := og H; obtain ⟨g8, H⟩ := H
  refine e_iald (hY.t 6 rfl) (ixb_y (hY.n 6 rfl) g8) dX12_wonBy_59 ?_
  refine g_aload_n dX12_wonBy_60 rfl rfl ?_
  refine e_getR (hY.t 0 rfl) flX12_41_13 dX12_wonBy_61 rfl (hY.r 9 rfl) ?_
  refine e_iload_n dX12_wonBy_64 rfl ?_
  replace H := og H; obtain ⟨g9, H⟩ := H
  refine e_iald (hY.t 10 rfl) (ixb_y (hY.n 10 rfl) g9) dX12_wonBy_65 ?_
  refine e_iload_n dX12_wonBy_66 rfl ?_
  refine e_bipush (v := (100 : Int32)) dX12_wonBy_67 (by decide) ?_
  refine e_idiv dX12_wonBy_69 (by decide) ?_
  refine g_aload_n dX12_wonBy_70 rfl rfl ?_
  refine e_getR (hY.t 0 rfl) flX12_44_13 dX12_wonBy_71 rfl (hY.r 10 rfl) ?_
  refine e_iload_n dX12_wonBy_74 rfl ?_
  replace H := og H; obtain ⟨g10, H⟩ := H
  refine e_iald (hY.t 11 rfl) (ixb_y (hY.n 11 rfl) g10) dX12_wonBy_75 ?_
  refine e_iadd dX12_wonBy_76 ?_
  refine e_iload dX12_wonBy_77 rfl ?_
  refine e_iadd dX12_wonBy_79 ?_
  refine g_aload_n dX12_wonBy_80 rfl rfl ?_
  refine e_getR (hY.t 0 rfl) flX12_26_13 dX12_wonBy_81 rfl (hY.r 4 rfl) ?_
  refine e_iload_n dX12_wonBy_84 rfl ?_
  replace H := og H; obtain ⟨g11, H⟩ := H
  refine e_iald (hY.t 5 rfl) (ixb_y (hY.n 5 rfl) g11) dX12_wonBy_85 ?_
  refine e_bipush (v := (100 : Int32)) dX12_wonBy_86 (by decide) ?_
  refine e_idiv dX12_wonBy_88 (by decide) ?_
  refine e_isub dX12_wonBy_89 ?_
  refine e_iload_n dX12_wonBy_90 rfl ?_
  refine e_bipush (v := (100 : Int32)) dX12_wonBy_91 (by decide) ?_
  refine e_irem dX12_wonBy_93 (by decide) ?_
  refine g_aload_n dX12_wonBy_94 rfl rfl ?_
  refine e_getR (hY.t 0 rfl) flX12_47_13 dX12_wonBy_95 rfl (hY.r 11 rfl) ?_
  refine e_iload_n dX12_wonBy_98 rfl ?_
  replace H := og H; obtain ⟨g12, H⟩ := H
  refine e_iald (hY.t 12 rfl) (ixb_y (hY.n 12 rfl) g12) dX12_wonBy_99 ?_
  refine e_iadd dX12_wonBy_100 ?_
  refine e_iload dX12_wonBy_101 rfl ?_
  refine e_iadd dX12_wonBy_103 ?_
  refine g_aload_n dX12_wonBy_104 rfl rfl ?_
  refine e_getR (hY.t 0 rfl) flX12_26_13 dX12_wonBy_105 rfl (hY.r 4 rfl) ?_
  refine e_iload_n dX12_wonBy_108 rfl ?_
  replace H := og H; obtain ⟨g13, H⟩ := H
  refine e_iald (hY.t 5 rfl) (ixb_y (hY.n 5 rfl) g13) dX12_wonBy_109 ?_
  refine e_bipush (v := (100 : Int32)) dX12_wonBy_110 (by decide) ?_
  refine e_irem dX12_wonBy_112 (by decide) ?_
  refine e_isub dX12_wonBy_113 ?_
  replace H := ob H; obtain ⟨q14, c15, H⟩ := H
  refine s1 lmX12_174 lsX12_isWon msX12_isWon dX12_wonBy_114 (t_X12_isWon (d + 0) c15) rfl (Nat.le_of_ble_eq_true rfl) (Nat.le_refl _) ?_
  refine e_ifB_eq (tgt := 124) dX12_wonBy_117 (by decide) (fun c16 => ?_) (fun c16 => ?_)
  · replace H := of_ (nb c16) H
    refine e_iconst (v := (0 : Int32)) dX12_wonBy_124 (by decide) ?_
    obtain rfl := Option.some.inj H
    exact z_iret rfl rfl dX12_wonBy_125 rfl rfl
  · replace H := ot c16 H
    refine e_iconst (v := (1 : Int32)) dX12_wonBy_120 (by decide) ?_
    refine e_goto (tgt := 125) dX12_wonBy_121 (by decide) ?_
    obtain rfl := Option.some.inj H
    exact z_iret rfl rfl dX12_wonBy_125 rfl rfl
-- X12_keeps
def f_X12_keeps (p1 : Int32) (p2 : Int32) (p3 : Int32) (p4 : Int32) (h : HS) : Option (Int32 × HS) := (if ixb (hI h 60 25) 60 = true then (if ixb (hI (sI h 74 (hI h 60 25).toNatClampNeg p1) 60 25) 60 = true then (if ixb (hI (sI (sI h 74 (hI h 60 25).toNatClampNeg p1) 75 (hI (sI h 74 (hI h 60 25).toNatClampNeg p1) 60 25).toNatClampNeg p2) 60 25) 60 = true then (bh (sI (sI (sI h 74 (hI h 60 25).toNatClampNeg p1) 75 (hI (sI h 74 (hI h 60 25).toNatClampNeg p1) 60 25).toNatClampNeg p2) 76 (hI (sI (sI h 74 (hI h 60 25).toNatClampNeg p1) 75 (hI (sI h 74 (hI h 60 25).toNatClampNeg p1) 60 25).toNatClampNeg p2) 60 25).toNatClampNeg p3) (fun h4 => (if ixb (hI h4 60 25) 60 = true then (if ixb p1 8 = true then (if ixb (hI (sI h4 77 (hI h4 60 25).toNatClampNeg p4) 60 25) 60 = true then (bh (sI (sI h4 77 (hI h4 60 25).toNatClampNeg p4) 78 (hI (sI h4 77 (hI h4 60 25).toNatClampNeg p4) 60 25).toNatClampNeg (hI (sI h4 77 (hI h4 60 25).toNatClampNeg p4) 70 p1.toNatClampNeg)) (fun h10 => (some (((hI (sI h10 60 25 ((hI h10 60 25) + (1 : Int32))) 60 25) - (1 : Int32)), (sI h10 60 25 ((hI h10 60 25) + (1 : Int32))))))) else none) else none) else none))) else none) else none) else none)
set_option maxHeartbeats 4000000 in
set_option maxRecDepth 20000 in
theorem p_X12_keeps {p1 : Int32} {p2 : Int32} {p3 : Int32} {p4 : Int32} {h : HS} {q : (Int32 × HS)} (H : f_X12_keeps p1 p2 p3 p4 h = some q) : Pr h q.2 := by
  unfold f_X12_keeps at H
  replace H := og H; obtain ⟨g1, H⟩ := H
  replace H := og H; obtain ⟨g2, H⟩ := H
  replace H := og H; obtain ⟨g3, H⟩ := H
  replace H := obh H; obtain ⟨h4, e5, H⟩ := H
  replace H := og H; obtain ⟨g7, H⟩ := H
  replace H := og H; obtain ⟨g8, H⟩ := H
  replace H := og H; obtain ⟨g9, H⟩ := H
  replace H := obh H; obtain ⟨h10, e11, H⟩ := H
  obtain rfl := Option.some.inj H
  exact ((kP e11 (((kP e5 (((Pr.rf.sI).sI).sI)).sI).sI)).sI)
set_option maxHeartbeats 4000000 in
set_option maxRecDepth 20000 in
theorem t_X12_keeps {G : GE} (d : Nat) {p1 : Int32} {p2 : Int32} {p3 : Int32} {p4 : Int32} {h : HS} {q : (Int32 × HS)} (hY : LY TM h) (H : f_X12_keeps p1 p2 p3 p4 h = some q) : CE G (d + 0) yX12_keeps miX12_keeps [.ref 60, .int p1, .int p2, .int p3, .int p4] h (some (.int q.1)) (q.2) := by
  unfold f_X12_keeps at H
  refine ce_of rfl (by decide) (fun q => by first | rfl | cases q) (Nat.le_of_ble_eq_true rfl) rfl ?_
  refine g_aload_n dX12_keeps_0 rfl rfl ?_
  refine e_getR (hY.t 0 rfl) flX12_53_13 dX12_keeps_1 rfl (hY.r 13 rfl) ?_
  refine g_aload_n dX12_keeps_4 rfl rfl ?_
  refine e_getI (hY.t 0 rfl) flX12_223_13 dX12_keeps_5 rfl ?_
  refine e_iload_n dX12_keeps_8 rfl ?_
  replace H := og H; obtain ⟨g1, H⟩ := H
  refine e_iast (hY.t 14 rfl) (ixb_y (hY.n 14 rfl) g1) dX12_keeps_9 ?_
  refine g_aload_n dX12_keeps_10 rfl rfl ?_
  refine e_getR ((hY.sI).t 0 rfl) flX12_56_13 dX12_keeps_11 rfl ((hY.sI).r 14 rfl) ?_
  refine g_aload_n dX12_keeps_14 rfl rfl ?_
  refine e_getI ((hY.sI).t 0 rfl) flX12_223_13 dX12_keeps_15 rfl ?_
  refine e_iload_n dX12_keeps_18 rfl ?_
  replace H := og H; obtain ⟨g2, H⟩ := H
  refine e_iast ((hY.sI).t 15 rfl) (ixb_y ((hY.sI).n 15 rfl) g2) dX12_keeps_19 ?_
  refine g_aload_n dX12_keeps_20 rfl rfl ?_
  refine e_getR (((hY.sI).sI).t 0 rfl) flX12_59_13 dX12_keeps_21 rfl (((hY.sI).sI).r 15 rfl) ?_
  refine g_aload_n dX12_keeps_24 rfl rfl ?_
  refine e_getI (((hY.sI).sI).t 0 rfl) flX12_223_13 dX12_keeps_25 rfl ?_
  refine e_iload_n dX12_keeps_28 rfl ?_
  replace H := og H; obtain ⟨g3, H⟩ := H
  refine e_iast (((hY.sI).sI).t 16 rfl) (ixb_y (((hY.sI).sI).n 16 rfl) g3) dX12_keeps_29 ?_
  replace H := obh H; obtain ⟨h4, e5, H⟩ := H
  refine e_hq e5 ?_
  have hY6 := kY e5 (((hY.sI).sI).sI)
  refine g_aload_n dX12_keeps_30 rfl rfl ?_
  refine e_getR (hY6.t 0 rfl) flX12_62_13 dX12_keeps_31 rfl (hY6.r 16 rfl) ?_
  refine g_aload_n dX12_keeps_34 rfl rfl ?_
  refine e_getI (hY6.t 0 rfl) flX12_223_13 dX12_keeps_35 rfl ?_
  refine e_iload dX12_keeps_38 rfl ?_
  replace H := og H; obtain ⟨g7, H⟩ := H
  refine e_iast (hY6.t 17 rfl) (ixb_y (hY6.n 17 rfl) g7) dX12_keeps_40 ?_
  refine g_aload_n dX12_keeps_41 rfl rfl ?_
  refine e_getR ((hY6.sI).t 0 rfl) flX12_65_13 dX12_keeps_42 rfl ((hY6.sI).r 17 rfl) ?_
  refine g_aload_n dX12_keeps_45 rfl rfl ?_
  refine e_getI ((hY6.sI).t 0 rfl) flX12_223_13 dX12_keeps_46 rfl ?_
  refine g_aload_n dX12_keeps_49 rfl rfl ?_
  refine e_getR ((hY6.sI).t 0 rfl) flX12_41_13 dX12_keeps_50 rfl ((hY6.sI).r 9 rfl) ?_
  refine e_iload_n dX12_keeps_53 rfl ?_
  replace H := og H; obtain ⟨g8, H⟩ := H
  refine e_iald ((hY6.sI).t 10 rfl) (ixb_y ((hY6.sI).n 10 rfl) g8) dX12_keeps_54 ?_
  replace H := og H; obtain ⟨g9, H⟩ := H
  refine e_iast ((hY6.sI).t 18 rfl) (ixb_y ((hY6.sI).n 18 rfl) g9) dX12_keeps_55 ?_
  replace H := obh H; obtain ⟨h10, e11, H⟩ := H
  refine e_hq e11 ?_
  have hY12 := kY e11 ((hY6.sI).sI)
  refine g_aload_n dX12_keeps_56 rfl rfl ?_
  refine e_dup dX12_keeps_57 rfl ?_
  refine e_getI (hY12.t 0 rfl) flX12_223_13 dX12_keeps_58 rfl ?_
  refine e_iconst (v := (1 : Int32)) dX12_keeps_61 (by decide) ?_
  refine e_iadd dX12_keeps_62 ?_
  refine e_putI (hY12.t 0 rfl) fpX12_223_13 rfl dX12_keeps_63 ?_
  refine g_aload_n dX12_keeps_66 rfl rfl ?_
  refine e_getI ((hY12.sI).t 0 rfl) flX12_223_13 dX12_keeps_67 rfl ?_
  refine e_iconst (v := (1 : Int32)) dX12_keeps_70 (by decide) ?_
  refine e_isub dX12_keeps_71 ?_
  obtain rfl := Option.some.inj H
  exact z_iret rfl rfl dX12_keeps_72 rfl rfl
