-- X12_fails
def f_X12_fails (p1 : Int32) (p2 : Int32) (p3 : Int32) (h : HS) : Option Int32 := (if ixb p2 8 = true then (if ¬ p3.toInt64 = 0 then (some ((p1.toInt64 * (p3 - (hI h 82 p2.toNatClampNeg)).toInt64) / p3.toInt64).toInt32) else none) else none)
set_option maxHeartbeats 4000000 in
set_option maxRecDepth 20000 in
theorem t_X12_fails {G : GE} (d : Nat) {p1 : Int32} {p2 : Int32} {p3 : Int32} {h : HS} {q : Int32} (hY : LY TM h) (H : f_X12_fails p1 p2 p3 h = some q) : CE G (d + 0) yX12_fails miX12_fails [.ref 60, .int p1, .int p2, .int p3] h (some (.int q)) (h) := by
  unfold f_X12_fails at H
  refine ce_of rfl (by decide) (fun q => by first | rfl | cases q) (Nat.le_of_ble_eq_true rfl) rfl ?_
  refine e_iload_n dX12_fails_0 rfl ?_
  refine e_i2l dX12_fails_1 ?_
  refine e_iload_n dX12_fails_2 rfl ?_
  refine g_aload_n dX12_fails_3 rfl rfl ?_
  refine e_getR (hY.t 0 rfl) flX12_77_13 dX12_fails_4 rfl (hY.r 21 rfl) ?_
  refine e_iload_n dX12_fails_7 rfl ?_
  replace H := og H; obtain ⟨g1, H⟩ := H
  refine e_iald (hY.t 22 rfl) (ixb_y (hY.n 22 rfl) g1) dX12_fails_8 ?_
  refine e_isub dX12_fails_9 ?_
  refine e_i2l dX12_fails_10 ?_
  refine e_lmul dX12_fails_11 ?_
  refine e_iload_n dX12_fails_12 rfl ?_
  refine e_i2l dX12_fails_13 ?_
  replace H := og H; obtain ⟨g2, H⟩ := H
  refine e_ldiv dX12_fails_14 g2 ?_
  refine e_l2i dX12_fails_15 ?_
  obtain rfl := Option.some.inj H
  exact z_iret rfl rfl dX12_fails_16 rfl rfl
-- X12_goes
def l_X12_goes_23 (y1 : Int32) (y2 : Int32) (y3 : Int32) (y4 : Int32) (y5 : Int32)  : Nat → Int32 → HS → Option HS
  | 0, _, _ => none
  | n + 1, x6, h => (if (hI h 60 14) ≤ x6 then (some h) else (if ixb x6 8 = true then (if (hI h 67 x6.toNatClampNeg) ≤ y5 then (if ixb x6 8 = true then (if ixb (y5 - (hI h 67 x6.toNatClampNeg)) 201 = true then (Option.bind (f_X12_fails (hI h 83 (y5 - (hI h 67 x6.toNatClampNeg)).toNatClampNeg) x6 y3 h) (fun q53 => (if ixb y5 201 = true then (if (hI h 83 y5.toNatClampNeg) ≤ q53 then (if ixb y5 201 = true then (if ixb y5 201 = true then (l_X12_goes_23 y1 y2 y3 y4 y5 n (x6 + (1 : Int32)) (sI h 83 y5.toNatClampNeg (hI h 83 y5.toNatClampNeg))) else none) else none) else (if ixb y5 201 = true then (l_X12_goes_23 y1 y2 y3 y4 y5 n (x6 + (1 : Int32)) (sI h 83 y5.toNatClampNeg q53)) else none)) else none))) else none) else none) else (l_X12_goes_23 y1 y2 y3 y4 y5 n (x6 + (1 : Int32)) h)) else none))
set_option maxHeartbeats 4000000 in
set_option maxRecDepth 20000 in
theorem p_X12_goes_23 {y1 : Int32} {y2 : Int32} {y3 : Int32} {y4 : Int32} {y5 : Int32} : ∀ (n : Nat) {x6 : Int32} {h : HS} {q : HS}, l_X12_goes_23 y1 y2 y3 y4 y5 n x6 h = some q → Pr h q := by
  intro n
  induction n with
  | zero => intro x6 h q H; exact nz H
  | succ n ih =>
    intro x6 h q H
    unfold l_X12_goes_23 at H
    replace H := oi H; obtain ⟨c48, H⟩ | ⟨c48, H⟩ := H
    · obtain rfl := Option.some.inj H
      exact Pr.rf
    · replace H := og H; obtain ⟨g49, H⟩ := H
      replace H := oi H; obtain ⟨c50, H⟩ | ⟨c50, H⟩ := H
      · replace H := og H; obtain ⟨g51, H⟩ := H
        replace H := og H; obtain ⟨g52, H⟩ := H
        replace H := ob H; obtain ⟨q53, c54, H⟩ := H
        replace H := og H; obtain ⟨g55, H⟩ := H
        replace H := oi H; obtain ⟨c56, H⟩ | ⟨c56, H⟩ := H
        · replace H := og H; obtain ⟨g57, H⟩ := H
          replace H := og H; obtain ⟨g58, H⟩ := H
          exact (Pr.rf.sI).tr (ih H)
        · replace H := og H; obtain ⟨g59, H⟩ := H
          exact (Pr.rf.sI).tr (ih H)
      · exact id (ih H)
set_option maxHeartbeats 4000000 in
set_option maxRecDepth 20000 in
theorem w_X12_goes_23 {G : GE} (d : Nat) {y1 : Int32} {y2 : Int32} {y3 : Int32} {y4 : Int32} {y5 : Int32} {r : Option Value} {h' : HS}  : ∀ (n : Nat) {x6 : Int32} {h : HS} {q : HS}, LY TM h → l_X12_goes_23 y1 y2 y3 y4 y5 n x6 h = some q → En G (d + 1) miX12_goes 108 [.ref 60, .int y1, .int y2, .int y3, .int y4, .int y5, dum, dum] [] q r h' → En G (d + 1) miX12_goes 23 [.ref 60, .int y1, .int y2, .int y3, .int y4, .int y5, .int x6, dum] [] h r h' := by
  intro n
  induction n with
  | zero => intro x6 h q hYTM H kE; exact nz H
  | succ n ih =>
    intro x6 h q hYTM H kE
    unfold l_X12_goes_23 at H
    refine e_iload dX12_goes_23 rfl ?_
    refine g_aload_n dX12_goes_25 rfl rfl ?_
    refine e_getI (hYTM.t 0 rfl) flX12_122_13 dX12_goes_26 rfl ?_
    refine e_icmp_ge (tgt := 108) dX12_goes_29 (by decide) (fun c48 => ?_) (fun c48 => ?_)
    · replace H := ot c48 H
      obtain rfl := Option.some.inj H
      exact e_wk (lk1 (lk1 (lk1 (lk1 (lk1 (lk1 (lk0 (lk1 lkn)))))))) kE
    · replace H := of_ c48 H
      refine g_aload_n dX12_goes_32 rfl rfl ?_
      refine e_getR (hYTM.t 0 rfl) flX12_32_13 dX12_goes_33 rfl (hYTM.r 6 rfl) ?_
      refine e_iload dX12_goes_36 rfl ?_
      replace H := og H; obtain ⟨g49, H⟩ := H
      refine e_iald (hYTM.t 7 rfl) (ixb_y (hYTM.n 7 rfl) g49) dX12_goes_38 ?_
      refine e_iload dX12_goes_39 rfl ?_
      refine e_icmp_le (tgt := 47) dX12_goes_41 (by decide) (fun c50 => ?_) (fun c50 => ?_)
      · replace H := ot c50 H
        refine g_aload_n dX12_goes_47 rfl rfl ?_
        refine g_aload_n dX12_goes_48 rfl rfl ?_
        refine e_getR (hYTM.t 0 rfl) flX12_80_13 dX12_goes_49 rfl (hYTM.r 22 rfl) ?_
        refine e_iload dX12_goes_52 rfl ?_
        refine g_aload_n dX12_goes_54 rfl rfl ?_
        refine e_getR (hYTM.t 0 rfl) flX12_32_13 dX12_goes_55 rfl (hYTM.r 6 rfl) ?_
        refine e_iload dX12_goes_58 rfl ?_
        replace H := og H; obtain ⟨g51, H⟩ := H
        refine e_iald (hYTM.t 7 rfl) (ixb_y (hYTM.n 7 rfl) g51) dX12_goes_60 ?_
        refine e_isub dX12_goes_61 ?_
        replace H := og H; obtain ⟨g52, H⟩ := H
        refine e_iald (hYTM.t 23 rfl) (ixb_y (hYTM.n 23 rfl) g52) dX12_goes_62 ?_
        refine e_iload dX12_goes_63 rfl ?_
        refine e_iload_n dX12_goes_65 rfl ?_
        replace H := ob H; obtain ⟨q53, c54, H⟩ := H
        refine v1 (hYTM.t 0 rfl) (by decide) rfl rfl lmX12_423 liX12_fails lvX12_X12_fails msX12_fails dX12_goes_66 (t_X12_fails (d + 0) hYTM c54) rfl (Nat.le_of_ble_eq_true rfl) (Nat.le_refl _) ?_
        refine e_istore dX12_goes_69 (Nat.le_of_ble_eq_true rfl) rfl rfl ?_
        refine g_aload_n dX12_goes_71 rfl rfl ?_
        refine e_getR (hYTM.t 0 rfl) flX12_80_13 dX12_goes_72 rfl (hYTM.r 22 rfl) ?_
        refine e_iload dX12_goes_75 rfl ?_
        refine e_iload dX12_goes_77 rfl ?_
        refine g_aload_n dX12_goes_79 rfl rfl ?_
        refine e_getR (hYTM.t 0 rfl) flX12_80_13 dX12_goes_80 rfl (hYTM.r 22 rfl) ?_
        refine e_iload dX12_goes_83 rfl ?_
        replace H := og H; obtain ⟨g55, H⟩ := H
        refine e_iald (hYTM.t 23 rfl) (ixb_y (hYTM.n 23 rfl) g55) dX12_goes_85 ?_
        refine e_icmp_ge (tgt := 94) dX12_goes_86 (by decide) (fun c56 => ?_) (fun c56 => ?_)
        · replace H := ot c56 H
          refine g_aload_n dX12_goes_94 rfl rfl ?_
          refine e_getR (hYTM.t 0 rfl) flX12_80_13 dX12_goes_95 rfl (hYTM.r 22 rfl) ?_
          refine e_iload dX12_goes_98 rfl ?_
          replace H := og H; obtain ⟨g57, H⟩ := H
          refine e_iald (hYTM.t 23 rfl) (ixb_y (hYTM.n 23 rfl) g57) dX12_goes_100 ?_
          replace H := og H; obtain ⟨g58, H⟩ := H
          refine e_iast (hYTM.t 23 rfl) (ixb_y (hYTM.n 23 rfl) g58) dX12_goes_101 ?_
          refine e_iinc dX12_goes_102 rfl (ii_ (by decide : Int32.ofInt (1) = (1 : Int32))) (Nat.le_of_ble_eq_true rfl) rfl rfl ?_
          refine e_goto (tgt := 23) dX12_goes_105 (by decide) ?_
          exact e_wk (lk1 (lk1 (lk1 (lk1 (lk1 (lk1 (lk1 (lk0 lkn)))))))) (ih (hYTM.sI) H kE)
        · replace H := of_ c56 H
          refine e_iload dX12_goes_89 rfl ?_
          refine e_goto (tgt := 101) dX12_goes_91 (by decide) ?_
          replace H := og H; obtain ⟨g59, H⟩ := H
          refine e_iast (hYTM.t 23 rfl) (ixb_y (hYTM.n 23 rfl) g59) dX12_goes_101 ?_
          refine e_iinc dX12_goes_102 rfl (ii_ (by decide : Int32.ofInt (1) = (1 : Int32))) (Nat.le_of_ble_eq_true rfl) rfl rfl ?_
          refine e_goto (tgt := 23) dX12_goes_105 (by decide) ?_
          exact e_wk (lk1 (lk1 (lk1 (lk1 (lk1 (lk1 (lk1 (lk0 lkn)))))))) (ih (hYTM.sI) H kE)
      · replace H := of_ c50 H
        refine e_goto (tgt := 102) dX12_goes_44 (by decide) ?_
        refine e_iinc dX12_goes_102 rfl (ii_ (by decide : Int32.ofInt (1) = (1 : Int32))) (Nat.le_of_ble_eq_true rfl) rfl rfl ?_
        refine e_goto (tgt := 23) dX12_goes_105 (by decide) ?_
        exact e_wk (lk1 (lk1 (lk1 (lk1 (lk1 (lk1 (lk1 (lk1 lkn)))))))) (ih hYTM H kE)
def l_X12_goes_6 (y1 : Int32) (y2 : Int32) (y3 : Int32)  : Nat → Int32 → Int32 → HS → Option (Int32 × HS)
  | 0, _, _, _ => none
  | n + 1, x4, x5, h => (if y2 < x5 then (some (x4, h)) else (if ixb x5 201 = true then (Option.bind (l_X12_goes_23 y1 y2 y3 x4 x5 1000 (0 : Int32) (sI h 83 x5.toNatClampNeg y1)) (fun q60 => (if ixb x5 201 = true then (if x4 ≤ (hI q60 83 x5.toNatClampNeg) then (l_X12_goes_6 y1 y2 y3 n x4 (x5 + (1 : Int32)) q60) else (if ixb x5 201 = true then (l_X12_goes_6 y1 y2 y3 n (hI q60 83 x5.toNatClampNeg) (x5 + (1 : Int32)) q60) else none)) else none))) else none))
set_option maxHeartbeats 4000000 in
set_option maxRecDepth 20000 in
theorem p_X12_goes_6 {y1 : Int32} {y2 : Int32} {y3 : Int32} : ∀ (n : Nat) {x4 : Int32} {x5 : Int32} {h : HS} {q : (Int32 × HS)}, l_X12_goes_6 y1 y2 y3 n x4 x5 h = some q → Pr h q.2 := by
  intro n
  induction n with
  | zero => intro x4 x5 h q H; exact nz H
  | succ n ih =>
    intro x4 x5 h q H
    unfold l_X12_goes_6 at H
    replace H := oi H; obtain ⟨c34, H⟩ | ⟨c34, H⟩ := H
    · obtain rfl := Option.some.inj H
      exact Pr.rf
    · replace H := og H; obtain ⟨g35, H⟩ := H
      replace H := ob H; obtain ⟨q60, c61, H⟩ := H
      have e62 := p_X12_goes_23 1000 c61
      replace H := og H; obtain ⟨g64, H⟩ := H
      replace H := oi H; obtain ⟨c65, H⟩ | ⟨c65, H⟩ := H
      · exact ((Pr.rf.sI).tr e62).tr (ih H)
      · replace H := og H; obtain ⟨g66, H⟩ := H
        exact ((Pr.rf.sI).tr e62).tr (ih H)
set_option maxHeartbeats 4000000 in
set_option maxRecDepth 20000 in
theorem w_X12_goes_6 {G : GE} (d : Nat) {y1 : Int32} {y2 : Int32} {y3 : Int32} {r : Option Value} {h' : HS}  : ∀ (n : Nat) {x4 : Int32} {x5 : Int32} {h : HS} {q : (Int32 × HS)}, LY TM h → l_X12_goes_6 y1 y2 y3 n x4 x5 h = some q → En G (d + 1) miX12_goes 140 [dum, dum, dum, dum, .int q.1, dum, dum, dum] [] q.2 r h' → En G (d + 1) miX12_goes 6 [.ref 60, .int y1, .int y2, .int y3, .int x4, .int x5, dum, dum] [] h r h' := by
  intro n
  induction n with
  | zero => intro x4 x5 h q hYTM H kE; exact nz H
  | succ n ih =>
    intro x4 x5 h q hYTM H kE
    unfold l_X12_goes_6 at H
    refine e_iload dX12_goes_6 rfl ?_
    refine e_iload_n dX12_goes_8 rfl ?_
    refine e_icmp_gt (tgt := 140) dX12_goes_9 (by decide) (fun c34 => ?_) (fun c34 => ?_)
    · replace H := ot c34 H
      obtain rfl := Option.some.inj H
      exact e_wk (lk0 (lk0 (lk0 (lk0 (lk1 (lk0 (lk1 (lk1 lkn)))))))) kE
    · replace H := of_ c34 H
      refine g_aload_n dX12_goes_12 rfl rfl ?_
      refine e_getR (hYTM.t 0 rfl) flX12_80_13 dX12_goes_13 rfl (hYTM.r 22 rfl) ?_
      refine e_iload dX12_goes_16 rfl ?_
      refine e_iload_n dX12_goes_18 rfl ?_
      replace H := og H; obtain ⟨g35, H⟩ := H
      refine e_iast (hYTM.t 23 rfl) (ixb_y (hYTM.n 23 rfl) g35) dX12_goes_19 ?_
      refine e_iconst (v := (0 : Int32)) dX12_goes_20 (by decide) ?_
      refine e_istore dX12_goes_21 (Nat.le_of_ble_eq_true rfl) rfl rfl ?_
      replace H := ob H; obtain ⟨q60, c61, H⟩ := H
      have e62 := p_X12_goes_23 1000 c61
      have hY63 := (hYTM.sI).pr okM e62
      refine e_wk (lk1 (lk1 (lk1 (lk1 (lk1 (lk1 (lk1 (lk1 lkn)))))))) (w_X12_goes_23 d 1000 (hYTM.sI) c61 ?_)
      refine g_aload_n dX12_goes_108 rfl rfl ?_
      refine e_getR (hY63.t 0 rfl) flX12_80_13 dX12_goes_109 rfl (hY63.r 22 rfl) ?_
      refine e_iload dX12_goes_112 rfl ?_
      replace H := og H; obtain ⟨g64, H⟩ := H
      refine e_iald (hY63.t 23 rfl) (ixb_y (hY63.n 23 rfl) g64) dX12_goes_114 ?_
      refine e_iload dX12_goes_115 rfl ?_
      refine e_icmp_ge (tgt := 130) dX12_goes_117 (by decide) (fun c65 => ?_) (fun c65 => ?_)
      · replace H := ot c65 H
        refine e_iload dX12_goes_130 rfl ?_
        refine e_istore dX12_goes_132 (Nat.le_of_ble_eq_true rfl) rfl rfl ?_
        refine e_iinc dX12_goes_134 rfl (ii_ (by decide : Int32.ofInt (1) = (1 : Int32))) (Nat.le_of_ble_eq_true rfl) rfl rfl ?_
        refine e_goto (tgt := 6) dX12_goes_137 (by decide) ?_
        exact e_wk (lk1 (lk1 (lk1 (lk1 (lk1 (lk1 (lk1 (lk1 lkn)))))))) (ih hY63 H kE)
      · replace H := of_ c65 H
        refine g_aload_n dX12_goes_120 rfl rfl ?_
        refine e_getR (hY63.t 0 rfl) flX12_80_13 dX12_goes_121 rfl (hY63.r 22 rfl) ?_
        refine e_iload dX12_goes_124 rfl ?_
        replace H := og H; obtain ⟨g66, H⟩ := H
        refine e_iald (hY63.t 23 rfl) (ixb_y (hY63.n 23 rfl) g66) dX12_goes_126 ?_
        refine e_goto (tgt := 132) dX12_goes_127 (by decide) ?_
        refine e_istore dX12_goes_132 (Nat.le_of_ble_eq_true rfl) rfl rfl ?_
        refine e_iinc dX12_goes_134 rfl (ii_ (by decide : Int32.ofInt (1) = (1 : Int32))) (Nat.le_of_ble_eq_true rfl) rfl rfl ?_
        refine e_goto (tgt := 6) dX12_goes_137 (by decide) ?_
        exact e_wk (lk1 (lk1 (lk1 (lk1 (lk1 (lk1 (lk1 (lk1 lkn)))))))) (ih hY63 H kE)
def f_X12_goes (p1 : Int32) (p2 : Int32) (p3 : Int32) (h : HS) : Option (Int32 × HS) := (Option.bind (l_X12_goes_6 p1 p2 p3 1000 p1 (0 : Int32) h) (fun q67 => (some (q67.1, q67.2))))
set_option maxHeartbeats 4000000 in
set_option maxRecDepth 20000 in
theorem p_X12_goes {p1 : Int32} {p2 : Int32} {p3 : Int32} {h : HS} {q : (Int32 × HS)} (H : f_X12_goes p1 p2 p3 h = some q) : Pr h q.2 := by
  unfold f_X12_goes at H
  replace H := ob H; obtain ⟨q67, c68, H⟩ := H
  have e69 := p_X12_goes_6 1000 c68
  obtain rfl := Option.some.inj H
  exact e69
set_option maxHeartbeats 4000000 in
set_option maxRecDepth 20000 in
theorem t_X12_goes {G : GE} (d : Nat) {p1 : Int32} {p2 : Int32} {p3 : Int32} {h : HS} {q : (Int32 × HS)} (hY : LY TM h) (H : f_X12_goes p1 p2 p3 h = some q) : CE G (d + 1) yX12_goes miX12_goes [.ref 60, .int p1, .int p2, .int p3] h (some (.int q.1)) (q.2) := by
  unfold f_X12_goes at H
  refine ce_of rfl (by decide) (fun q => by first | rfl | cases q) (Nat.le_of_ble_eq_true rfl) rfl ?_
  refine e_iload_n dX12_goes_0 rfl ?_
  refine e_istore dX12_goes_1 (Nat.le_of_ble_eq_true rfl) rfl rfl ?_
  refine e_iconst (v := (0 : Int32)) dX12_goes_3 (by decide) ?_
  refine e_istore dX12_goes_4 (Nat.le_of_ble_eq_true rfl) rfl rfl ?_
  replace H := ob H; obtain ⟨q67, c68, H⟩ := H
  have e69 := p_X12_goes_6 1000 c68
  have hY70 := hY.pr okM e69
  refine e_wk (lk1 (lk1 (lk1 (lk1 (lk1 (lk1 (lk1 (lk1 lkn)))))))) (w_X12_goes_6 d 1000 hY c68 ?_)
  refine e_iload dX12_goes_140 rfl ?_
  obtain rfl := Option.some.inj H
  exact z_iret rfl rfl dX12_goes_142 rfl rfl
-- X12_walk
def l_X12_walk_33 (y1 : Int32) (y2 : Int32) (y3 : Int32)  : Nat → Int32 → HS → Option HS
  | 0, _, _ => none
  | n + 1, x4, h => (if (hI h 60 14) ≤ x4 then (some h) else (Option.bind (f_X12_bestAt x4 y1 h) (fun q17 => (if ixb x4 8 = true then (l_X12_walk_33 y1 y2 y3 n (x4 + (1 : Int32)) (sI q17.2 82 x4.toNatClampNeg q17.1)) else none))))
set_option maxHeartbeats 4000000 in
set_option maxRecDepth 20000 in
theorem p_X12_walk_33 {y1 : Int32} {y2 : Int32} {y3 : Int32} : ∀ (n : Nat) {x4 : Int32} {h : HS} {q : HS}, l_X12_walk_33 y1 y2 y3 n x4 h = some q → Pr h q := by
  intro n
  induction n with
  | zero => intro x4 h q H; exact nz H
  | succ n ih =>
    intro x4 h q H
    unfold l_X12_walk_33 at H
    replace H := oi H; obtain ⟨c16, H⟩ | ⟨c16, H⟩ := H
    · obtain rfl := Option.some.inj H
      exact Pr.rf
    · replace H := ob H; obtain ⟨q17, c18, H⟩ := H
      have e19 := p_X12_bestAt c18
      replace H := og H; obtain ⟨g21, H⟩ := H
      exact (e19.sI).tr (ih H)
set_option maxHeartbeats 4000000 in
set_option maxRecDepth 20000 in
theorem w_X12_walk_33 {G : GE} (d : Nat) {y1 : Int32} {y2 : Int32} {y3 : Int32} {r : Option Value} {h' : HS}  : ∀ (n : Nat) {x4 : Int32} {h : HS} {q : HS}, LY TM h → l_X12_walk_33 y1 y2 y3 n x4 h = some q → En G (d + 6) miX12_walk 62 [.ref 60, .int y1, .int y2, .int y3, dum, dum, dum] [] q r h' → En G (d + 6) miX12_walk 33 [.ref 60, .int y1, .int y2, .int y3, .int x4, dum, dum] [] h r h' := by
  intro n
  induction n with
  | zero => intro x4 h q hYTM H kE; exact nz H
  | succ n ih =>
    intro x4 h q hYTM H kE
    unfold l_X12_walk_33 at H
    refine e_iload dX12_walk_33 rfl ?_
    refine g_aload_n dX12_walk_35 rfl rfl ?_
    refine e_getI (hYTM.t 0 rfl) flX12_122_13 dX12_walk_36 rfl ?_
    refine e_icmp_ge (tgt := 62) dX12_walk_39 (by decide) (fun c16 => ?_) (fun c16 => ?_)
    · replace H := ot c16 H
      obtain rfl := Option.some.inj H
      exact e_wk (lk1 (lk1 (lk1 (lk1 (lk0 (lk1 (lk1 lkn))))))) kE
    · replace H := of_ c16 H
      refine g_aload_n dX12_walk_42 rfl rfl ?_
      refine e_getR (hYTM.t 0 rfl) flX12_77_13 dX12_walk_43 rfl (hYTM.r 21 rfl) ?_
      refine e_iload dX12_walk_46 rfl ?_
      refine g_aload_n dX12_walk_48 rfl rfl ?_
      refine e_iload dX12_walk_49 rfl ?_
      refine e_iload_n dX12_walk_51 rfl ?_
      replace H := ob H; obtain ⟨q17, c18, H⟩ := H
      refine v1 (hYTM.t 0 rfl) (by decide) rfl rfl lmX12_215 liX12_bestAt lvX12_X12_bestAt msX12_bestAt dX12_walk_52 (t_X12_bestAt (d + 0) hYTM c18) rfl (Nat.le_of_ble_eq_true rfl) (Nat.le_refl _) ?_
      have e19 := p_X12_bestAt c18
      have hY20 := hYTM.pr okM e19
      replace H := og H; obtain ⟨g21, H⟩ := H
      refine e_iast (hY20.t 22 rfl) (ixb_y (hY20.n 22 rfl) g21) dX12_walk_55 ?_
      refine e_iinc dX12_walk_56 rfl (ii_ (by decide : Int32.ofInt (1) = (1 : Int32))) (Nat.le_of_ble_eq_true rfl) rfl rfl ?_
      refine e_goto (tgt := 33) dX12_walk_59 (by decide) ?_
      exact e_wk (lk1 (lk1 (lk1 (lk1 (lk1 (lk1 (lk1 lkn))))))) (ih (hY20.sI) H kE)
def l_X12_walk_91 (y2 : Int32) (y4 : Int32) (y5 : Int32)  : Nat → Int32 → HS → Option ((Int32 × HS) ⊕ HS)
  | 0, _, _ => none
  | n + 1, x6, h => (if (hI h 60 14) ≤ x6 then (some (Sum.inr h)) else (if ((1000000 : Int32)) ≤ y5 then (some (Sum.inr h)) else (if ixb x6 8 = true then (if y2 < (hI h 67 x6.toNatClampNeg) then (l_X12_walk_91 y2 y4 y5 n (x6 + (1 : Int32)) h) else (Option.bind (f_X12_fails ((1000000 : Int32)) x6 y4 h) (fun q49 => (if ixb x6 8 = true then (Option.bind (f_X12_goes q49 (y2 - (hI h 67 x6.toNatClampNeg)) y4 h) (fun q52 => (if q52.1 = y5 then (some (Sum.inl (x6, q52.2))) else (l_X12_walk_91 y2 y4 y5 n (x6 + (1 : Int32)) q52.2)))) else none)))) else none)))
set_option maxHeartbeats 4000000 in
set_option maxRecDepth 20000 in
theorem p_X12_walk_91 {y2 : Int32} {y4 : Int32} {y5 : Int32} : ∀ (n : Nat) {x6 : Int32} {h : HS} {q : ((Int32 × HS) ⊕ HS)}, l_X12_walk_91 y2 y4 y5 n x6 h = some q → Pr h (Sum.elim (fun v => v.2) (fun e => e) q) := by
  intro n
  induction n with
  | zero => intro x6 h q H; exact nz H
  | succ n ih =>
    intro x6 h q H
    unfold l_X12_walk_91 at H
    replace H := oi H; obtain ⟨c45, H⟩ | ⟨c45, H⟩ := H
    · obtain rfl := Option.some.inj H
      exact Pr.rf
    · replace H := oi H; obtain ⟨c46, H⟩ | ⟨c46, H⟩ := H
      · obtain rfl := Option.some.inj H
        exact Pr.rf
      · replace H := og H; obtain ⟨g47, H⟩ := H
        replace H := oi H; obtain ⟨c48, H⟩ | ⟨c48, H⟩ := H
        · exact id (ih H)
        · replace H := ob H; obtain ⟨q49, c50, H⟩ := H
          replace H := og H; obtain ⟨g51, H⟩ := H
          replace H := ob H; obtain ⟨q52, c53, H⟩ := H
          have e54 := p_X12_goes c53
          replace H := oi H; obtain ⟨c56, H⟩ | ⟨c56, H⟩ := H
          · obtain rfl := Option.some.inj H
            exact e54
          · exact e54.tr (ih H)
set_option maxHeartbeats 4000000 in
set_option maxRecDepth 20000 in
theorem w_X12_walk_91 {G : GE} (d : Nat) {y2 : Int32} {y4 : Int32} {y5 : Int32} {r : Option Value} {h' : HS}  : ∀ (n : Nat) {x6 : Int32} {h : HS} {q : ((Int32 × HS) ⊕ HS)}, LY TM h → l_X12_walk_91 y2 y4 y5 n x6 h = some q → (∀ v, q = Sum.inl v → r = some (.int v.1) ∧ h' = v.2) → (∀ e, q = Sum.inr e → En G (d + 6) miX12_walk 159 [dum, dum, dum, dum, dum, dum, dum] [] e r h') → En G (d + 6) miX12_walk 91 [.ref 60, dum, .int y2, dum, .int y4, .int y5, .int x6] [] h r h' := by
  intro n
  induction n with
  | zero => intro x6 h q hYTM H kR kE; exact nz H
  | succ n ih =>
    intro x6 h q hYTM H kR kE
    unfold l_X12_walk_91 at H
    refine e_iload dX12_walk_91 rfl ?_
    refine g_aload_n dX12_walk_93 rfl rfl ?_
    refine e_getI (hYTM.t 0 rfl) flX12_122_13 dX12_walk_94 rfl ?_
    refine e_icmp_ge (tgt := 159) dX12_walk_97 (by decide) (fun c45 => ?_) (fun c45 => ?_)
    · replace H := ot c45 H
      obtain rfl := Option.some.inj H
      exact e_wk (lk0 (lk1 (lk0 (lk1 (lk0 (lk0 (lk0 lkn))))))) (kE _ rfl)
    · replace H := of_ c45 H
      refine e_iload dX12_walk_100 rfl ?_
      refine e_ldcw (v := ((1000000 : Int32))) lkX12_428 dX12_walk_102 ?_
      refine e_icmp_ge (tgt := 159) dX12_walk_105 (by decide) (fun c46 => ?_) (fun c46 => ?_)
      · replace H := ot c46 H
        obtain rfl := Option.some.inj H
        exact e_wk (lk0 (lk1 (lk0 (lk1 (lk0 (lk0 (lk0 lkn))))))) (kE _ rfl)
      · replace H := of_ c46 H
        refine g_aload_n dX12_walk_108 rfl rfl ?_
        refine e_getR (hYTM.t 0 rfl) flX12_32_13 dX12_walk_109 rfl (hYTM.r 6 rfl) ?_
        refine e_iload dX12_walk_112 rfl ?_
        replace H := og H; obtain ⟨g47, H⟩ := H
        refine e_iald (hYTM.t 7 rfl) (ixb_y (hYTM.n 7 rfl) g47) dX12_walk_114 ?_
        refine e_iload_n dX12_walk_115 rfl ?_
        refine e_icmp_gt (tgt := 153) dX12_walk_116 (by decide) (fun c48 => ?_) (fun c48 => ?_)
        · replace H := ot c48 H
          refine e_iinc dX12_walk_153 rfl (ii_ (by decide : Int32.ofInt (1) = (1 : Int32))) (Nat.le_of_ble_eq_true rfl) rfl rfl ?_
          refine e_goto (tgt := 91) dX12_walk_156 (by decide) ?_
          exact e_wk (lk1 (lk1 (lk1 (lk1 (lk1 (lk1 (lk1 lkn))))))) (ih hYTM H kR kE)
        · replace H := of_ c48 H
          refine g_aload_n dX12_walk_119 rfl rfl ?_
          refine g_aload_n dX12_walk_120 rfl rfl ?_
          refine e_ldcw (v := ((1000000 : Int32))) lkX12_428 dX12_walk_121 ?_
          refine e_iload dX12_walk_124 rfl ?_
          refine e_iload dX12_walk_126 rfl ?_
          replace H := ob H; obtain ⟨q49, c50, H⟩ := H
          refine v1 (hYTM.t 0 rfl) (by decide) rfl rfl lmX12_423 liX12_fails lvX12_X12_fails msX12_fails dX12_walk_128 (t_X12_fails (d + 5) hYTM c50) rfl (Nat.le_of_ble_eq_true rfl) (Nat.le_refl _) ?_
          refine e_iload_n dX12_walk_131 rfl ?_
          refine g_aload_n dX12_walk_132 rfl rfl ?_
          refine e_getR (hYTM.t 0 rfl) flX12_32_13 dX12_walk_133 rfl (hYTM.r 6 rfl) ?_
          refine e_iload dX12_walk_136 rfl ?_
          replace H := og H; obtain ⟨g51, H⟩ := H
          refine e_iald (hYTM.t 7 rfl) (ixb_y (hYTM.n 7 rfl) g51) dX12_walk_138 ?_
          refine e_isub dX12_walk_139 ?_
          refine e_iload dX12_walk_140 rfl ?_
          replace H := ob H; obtain ⟨q52, c53, H⟩ := H
          refine v1 (hYTM.t 0 rfl) (by decide) rfl rfl lmX12_429 liX12_goes lvX12_X12_goes msX12_goes dX12_walk_142 (t_X12_goes (d + 4) hYTM c53) rfl (Nat.le_of_ble_eq_true rfl) (Nat.le_refl _) ?_
          have e54 := p_X12_goes c53
          have hY55 := hYTM.pr okM e54
          refine e_iload dX12_walk_145 rfl ?_
          refine e_icmp_ne (tgt := 153) dX12_walk_147 (by decide) (fun c56 => ?_) (fun c56 => ?_)
          · replace H := of_ c56 H
            refine e_iinc dX12_walk_153 rfl (ii_ (by decide : Int32.ofInt (1) = (1 : Int32))) (Nat.le_of_ble_eq_true rfl) rfl rfl ?_
            refine e_goto (tgt := 91) dX12_walk_156 (by decide) ?_
            exact e_wk (lk1 (lk1 (lk1 (lk1 (lk1 (lk1 (lk1 lkn))))))) (ih hY55 H kR kE)
          · replace H := ot c56 H
            refine e_iload dX12_walk_150 rfl ?_
            obtain rfl := Option.some.inj H
            obtain ⟨eR, eH⟩ := kR _ rfl
            exact z_iret rfl rfl dX12_walk_152 eR eH
def f_X12_walk (p1 : Int32) (p2 : Int32) (p3 : Int32) (h : HS) : Option (Int32 × HS) := (Option.bind (f_X12_isHand p1 h) (fun q1 => (if q1 = true then (Option.bind (f_X12_in p2.toInt64 (0 : Int64) (200 : Int64)) (fun q4 => (if q4 = true then (Option.bind (f_X12_isPart p3) (fun q7 => (if q7 = true then (Option.bind (l_X12_walk_33 p1 p2 p3 1000 (0 : Int32) h) (fun q22 => (Option.bind (f_X12_allOf p1 q22) (fun q26 => (Option.bind (f_X12_goes ((1000000 : Int32)) p2 q26 q22) (fun q28 => (if p3 = 0 then (some (q28.1, q28.2)) else (Option.bind (l_X12_walk_91 p2 q26 q28.1 1000 (0 : Int32) q28.2) (fun q57 => (Sum.elim (fun v => some v) (fun e59 => (some ((-1 : Int32), e59))) q57)))))))))) else (some ((-2 : Int32), h))))) else (some ((-2 : Int32), h))))) else (some ((-2 : Int32), h)))))
set_option maxHeartbeats 4000000 in
set_option maxRecDepth 20000 in
theorem p_X12_walk {p1 : Int32} {p2 : Int32} {p3 : Int32} {h : HS} {q : (Int32 × HS)} (H : f_X12_walk p1 p2 p3 h = some q) : Pr h q.2 := by
  unfold f_X12_walk at H
  replace H := ob H; obtain ⟨q1, c2, H⟩ := H
  replace H := oi H; obtain ⟨c3, H⟩ | ⟨c3, H⟩ := H
  · replace H := ob H; obtain ⟨q4, c5, H⟩ := H
    replace H := oi H; obtain ⟨c6, H⟩ | ⟨c6, H⟩ := H
    · replace H := ob H; obtain ⟨q7, c8, H⟩ := H
      replace H := oi H; obtain ⟨c9, H⟩ | ⟨c9, H⟩ := H
      · replace H := ob H; obtain ⟨q22, c23, H⟩ := H
        have e24 := p_X12_walk_33 1000 c23
        replace H := ob H; obtain ⟨q26, c27, H⟩ := H
        replace H := ob H; obtain ⟨q28, c29, H⟩ := H
        have e30 := p_X12_goes c29
        replace H := oi H; obtain ⟨c32, H⟩ | ⟨c32, H⟩ := H
        · obtain rfl := Option.some.inj H
          exact (e24.tr e30)
        · replace H := ob H; obtain ⟨q57, c58, H⟩ := H
          rcases q57 with v62 | e59
          · replace H := oSl H; obtain rfl := Option.some.inj H
            exact ((e24.tr e30).tr (p_X12_walk_91 1000 c58))
          · replace H := oSr H
            have e60 : Pr q28.2 e59 := p_X12_walk_91 1000 c58
            obtain rfl := Option.some.inj H
            exact ((e24.tr e30).tr e60)
      · obtain rfl := Option.some.inj H
        exact Pr.rf
    · obtain rfl := Option.some.inj H
      exact Pr.rf
  · obtain rfl := Option.some.inj H
    exact Pr.rf
set_option maxHeartbeats 4000000 in
set_option maxRecDepth 20000 in
theorem t_X12_walk {G : GE} (d : Nat) {p1 : Int32} {p2 : Int32} {p3 : Int32} {h : HS} {q : (Int32 × HS)} (hY : LY TM h) (H : f_X12_walk p1 p2 p3 h = some q) : CE G (d + 6) yX12_walk miX12_walk [.ref 60, .int p1, .int p2, .int p3] h (some (.int q.1)) (q.2) := by
  unfold f_X12_walk at H
  refine ce_of rfl (by decide) (fun q => by first | rfl | cases q) (Nat.le_of_ble_eq_true rfl) rfl ?_
  refine g_aload_n dX12_walk_0 rfl rfl ?_
  refine e_iload_n dX12_walk_1 rfl ?_
  replace H := ob H; obtain ⟨q1, c2, H⟩ := H
  refine v1 (hY.t 0 rfl) (by decide) rfl rfl lmX12_187 liX12_isHand lvX12_X12_isHand msX12_isHand dX12_walk_2 (t_X12_isHand (d + 4) hY c2) rfl (Nat.le_of_ble_eq_true rfl) (Nat.le_refl _) ?_
  refine e_ifB_eq (tgt := 27) dX12_walk_5 (by decide) (fun c3 => ?_) (fun c3 => ?_)
  · replace H := of_ (nb c3) H
    refine e_bipush (v := (-2 : Int32)) dX12_walk_27 (by decide) ?_
    obtain rfl := Option.some.inj H
    exact z_iret rfl rfl dX12_walk_29 rfl rfl
  · replace H := ot c3 H
    refine e_iload_n dX12_walk_8 rfl ?_
    refine e_i2l dX12_walk_9 ?_
    refine e_lconst (v := (0 : Int64)) dX12_walk_10 (by decide) ?_
    refine e_ldc2 (v := (200 : Int64)) lkX12_426 dX12_walk_11 ?_
    replace H := ob H; obtain ⟨q4, c5, H⟩ := H
    refine s1 lmX12_125 lsX12_in msX12_in dX12_walk_14 (t_X12_in (d + 5) c5) rfl (Nat.le_of_ble_eq_true rfl) (Nat.le_refl _) ?_
    refine e_ifB_eq (tgt := 27) dX12_walk_17 (by decide) (fun c6 => ?_) (fun c6 => ?_)
    · replace H := of_ (nb c6) H
      refine e_bipush (v := (-2 : Int32)) dX12_walk_27 (by decide) ?_
      obtain rfl := Option.some.inj H
      exact z_iret rfl rfl dX12_walk_29 rfl rfl
    · replace H := ot c6 H
      refine e_iload_n dX12_walk_20 rfl ?_
      replace H := ob H; obtain ⟨q7, c8, H⟩ := H
      refine s1 lmX12_190 lsX12_isPart msX12_isPart dX12_walk_21 (t_X12_isPart (d + 4) c8) rfl (Nat.le_of_ble_eq_true rfl) (Nat.le_refl _) ?_
      refine e_ifB_ne (tgt := 30) dX12_walk_24 (by decide) (fun c9 => ?_) (fun c9 => ?_)
      · replace H := ot c9 H
        refine e_iconst (v := (0 : Int32)) dX12_walk_30 (by decide) ?_
        refine e_istore dX12_walk_31 (Nat.le_of_ble_eq_true rfl) rfl rfl ?_
        replace H := ob H; obtain ⟨q22, c23, H⟩ := H
        have e24 := p_X12_walk_33 1000 c23
        have hY25 := hY.pr okM e24
        refine e_wk (lk1 (lk1 (lk1 (lk1 (lk1 (lk1 (lk1 lkn))))))) (w_X12_walk_33 d 1000 hY c23 ?_)
        refine g_aload_n dX12_walk_62 rfl rfl ?_
        refine e_iload_n dX12_walk_63 rfl ?_
        replace H := ob H; obtain ⟨q26, c27, H⟩ := H
        refine v1 (hY25.t 0 rfl) (by decide) rfl rfl lmX12_197 liX12_allOf lvX12_X12_allOf msX12_allOf dX12_walk_64 (t_X12_allOf (d + 5) hY25 c27) rfl (Nat.le_of_ble_eq_true rfl) (Nat.le_refl _) ?_
        refine e_istore dX12_walk_67 (Nat.le_of_ble_eq_true rfl) rfl rfl ?_
        refine g_aload_n dX12_walk_69 rfl rfl ?_
        refine e_ldcw (v := ((1000000 : Int32))) lkX12_428 dX12_walk_70 ?_
        refine e_iload_n dX12_walk_73 rfl ?_
        refine e_iload dX12_walk_74 rfl ?_
        replace H := ob H; obtain ⟨q28, c29, H⟩ := H
        refine v1 (hY25.t 0 rfl) (by decide) rfl rfl lmX12_429 liX12_goes lvX12_X12_goes msX12_goes dX12_walk_76 (t_X12_goes (d + 4) hY25 c29) rfl (Nat.le_of_ble_eq_true rfl) (Nat.le_refl _) ?_
        have e30 := p_X12_goes c29
        have hY31 := hY25.pr okM e30
        refine e_istore dX12_walk_79 (Nat.le_of_ble_eq_true rfl) rfl rfl ?_
        refine e_iload_n dX12_walk_81 rfl ?_
        refine e_if_ne (tgt := 88) dX12_walk_82 (by decide) (fun c32 => ?_) (fun c32 => ?_)
        · replace H := of_ c32 H
          refine e_iconst (v := (0 : Int32)) dX12_walk_88 (by decide) ?_
          refine e_istore dX12_walk_89 (Nat.le_of_ble_eq_true rfl) rfl rfl ?_
          replace H := ob H; obtain ⟨q57, c58, H⟩ := H
          refine e_wk (lk1 (lk0 (lk1 (lk0 (lk1 (lk1 (lk1 lkn))))))) (w_X12_walk_91 d 1000 hY31 c58 (fun v62 E0 => ?_) (fun e59 E0 => ?_))
          · subst E0; replace H := oSl H; obtain rfl := Option.some.inj H
            exact ⟨rfl, rfl⟩
          · subst E0; replace H := oSr H
            have e60 : Pr q28.2 e59 := p_X12_walk_91 1000 c58
            have hY61 := hY31.pr okM e60
            refine e_iconst (v := (-1 : Int32)) dX12_walk_159 (by decide) ?_
            obtain rfl := Option.some.inj H
            exact z_iret rfl rfl dX12_walk_160 rfl rfl
        · replace H := ot c32 H
          refine e_iload dX12_walk_85 rfl ?_
          obtain rfl := Option.some.inj H
          exact z_iret rfl rfl dX12_walk_87 rfl rfl
      · replace H := of_ (nb c9) H
        refine e_bipush (v := (-2 : Int32)) dX12_walk_27 (by decide) ?_
        obtain rfl := Option.some.inj H
        exact z_iret rfl rfl dX12_walk_29 rfl rfl
-- X12_image
def l_X12_image_31  : Nat → Int32 → HS → Option HS
  | 0, _, _ => none
  | n + 1, x1, h => (if (hI h 60 14) ≤ x1 then (some h) else (if ixb x1 8 = true then (if ixb ((4 : Int32) * x1) 32 = true then (if ixb x1 8 = true then (if ixb (((4 : Int32) * x1) + (1 : Int32)) 32 = true then (bh (sI (sI h 84 ((4 : Int32) * x1).toNatClampNeg (hI h 70 x1.toNatClampNeg)) 84 (((4 : Int32) * x1) + (1 : Int32)).toNatClampNeg (hI (sI h 84 ((4 : Int32) * x1).toNatClampNeg (hI h 70 x1.toNatClampNeg)) 67 x1.toNatClampNeg)) (fun h24 => (if ixb x1 8 = true then (if ixb (((4 : Int32) * x1) + (2 : Int32)) 32 = true then (if ixb x1 8 = true then (if ixb (((4 : Int32) * x1) + (3 : Int32)) 32 = true then (bh (sI (sI h24 84 (((4 : Int32) * x1) + (2 : Int32)).toNatClampNeg (hI h24 68 x1.toNatClampNeg)) 84 (((4 : Int32) * x1) + (3 : Int32)).toNatClampNeg (hI (sI h24 84 (((4 : Int32) * x1) + (2 : Int32)).toNatClampNeg (hI h24 68 x1.toNatClampNeg)) 69 x1.toNatClampNeg)) (fun h31 => (l_X12_image_31  n (x1 + (1 : Int32)) h31))) else none) else none) else none) else none))) else none) else none) else none) else none))
set_option maxHeartbeats 4000000 in
set_option maxRecDepth 20000 in
theorem p_X12_image_31  : ∀ (n : Nat) {x1 : Int32} {h : HS} {q : HS}, l_X12_image_31  n x1 h = some q → Pr h q := by
  intro n
  induction n with
  | zero => intro x1 h q H; exact nz H
  | succ n ih =>
    intro x1 h q H
    unfold l_X12_image_31 at H
    replace H := oi H; obtain ⟨c19, H⟩ | ⟨c19, H⟩ := H
    · obtain rfl := Option.some.inj H
      exact Pr.rf
    · replace H := og H; obtain ⟨g20, H⟩ := H
      replace H := og H; obtain ⟨g21, H⟩ := H
      replace H := og H; obtain ⟨g22, H⟩ := H
      replace H := og H; obtain ⟨g23, H⟩ := H
      replace H := obh H; obtain ⟨h24, e25, H⟩ := H
      replace H := og H; obtain ⟨g27, H⟩ := H
      replace H := og H; obtain ⟨g28, H⟩ := H
      replace H := og H; obtain ⟨g29, H⟩ := H
      replace H := og H; obtain ⟨g30, H⟩ := H
      replace H := obh H; obtain ⟨h31, e32, H⟩ := H
      exact (kP e32 (((kP e25 ((Pr.rf.sI).sI)).sI).sI)).tr (ih H)
set_option maxHeartbeats 4000000 in
set_option maxRecDepth 20000 in
theorem w_X12_image_31 {G : GE} (d : Nat)  {r : Option Value} {h' : HS}  : ∀ (n : Nat) {x1 : Int32} {h : HS} {q : HS}, LY TM h → l_X12_image_31  n x1 h = some q → En G (d + 0) miX12_image 107 [.ref 60, dum] [] q r h' → En G (d + 0) miX12_image 31 [.ref 60, .int x1] [] h r h' := by
  intro n
  induction n with
  | zero => intro x1 h q hYTM H kE; exact nz H
  | succ n ih =>
    intro x1 h q hYTM H kE
    unfold l_X12_image_31 at H
    refine e_iload_n dX12_image_31 rfl ?_
    refine g_aload_n dX12_image_32 rfl rfl ?_
    refine e_getI (hYTM.t 0 rfl) flX12_122_13 dX12_image_33 rfl ?_
    refine e_icmp_ge (tgt := 107) dX12_image_36 (by decide) (fun c19 => ?_) (fun c19 => ?_)
    · replace H := ot c19 H
      obtain rfl := Option.some.inj H
      exact e_wk (lk1 (lk0 lkn)) kE
    · replace H := of_ c19 H
      refine g_aload_n dX12_image_39 rfl rfl ?_
      refine e_getR (hYTM.t 0 rfl) flX12_83_13 dX12_image_40 rfl (hYTM.r 23 rfl) ?_
      refine e_iconst (v := (4 : Int32)) dX12_image_43 (by decide) ?_
      refine e_iload_n dX12_image_44 rfl ?_
      refine e_imul dX12_image_45 ?_
      refine g_aload_n dX12_image_46 rfl rfl ?_
      refine e_getR (hYTM.t 0 rfl) flX12_41_13 dX12_image_47 rfl (hYTM.r 9 rfl) ?_
      refine e_iload_n dX12_image_50 rfl ?_
      replace H := og H; obtain ⟨g20, H⟩ := H
      refine e_iald (hYTM.t 10 rfl) (ixb_y (hYTM.n 10 rfl) g20) dX12_image_51 ?_
      replace H := og H; obtain ⟨g21, H⟩ := H
      refine e_iast (hYTM.t 24 rfl) (ixb_y (hYTM.n 24 rfl) g21) dX12_image_52 ?_
      refine g_aload_n dX12_image_53 rfl rfl ?_
      refine e_getR ((hYTM.sI).t 0 rfl) flX12_83_13 dX12_image_54 rfl ((hYTM.sI).r 23 rfl) ?_
      refine e_iconst (v := (4 : Int32)) dX12_image_57 (by decide) ?_
      refine e_iload_n dX12_image_58 rfl ?_
      refine e_imul dX12_image_59 ?_
      refine e_iconst (v := (1 : Int32)) dX12_image_60 (by decide) ?_
      refine e_iadd dX12_image_61 ?_
      refine g_aload_n dX12_image_62 rfl rfl ?_
      refine e_getR ((hYTM.sI).t 0 rfl) flX12_32_13 dX12_image_63 rfl ((hYTM.sI).r 6 rfl) ?_
      refine e_iload_n dX12_image_66 rfl ?_
      replace H := og H; obtain ⟨g22, H⟩ := H
      refine e_iald ((hYTM.sI).t 7 rfl) (ixb_y ((hYTM.sI).n 7 rfl) g22) dX12_image_67 ?_
      replace H := og H; obtain ⟨g23, H⟩ := H
      refine e_iast ((hYTM.sI).t 24 rfl) (ixb_y ((hYTM.sI).n 24 rfl) g23) dX12_image_68 ?_
      replace H := obh H; obtain ⟨h24, e25, H⟩ := H
      refine e_hq e25 ?_
      have hY26 := kY e25 ((hYTM.sI).sI)
      refine g_aload_n dX12_image_69 rfl rfl ?_
      refine e_getR (hY26.t 0 rfl) flX12_83_13 dX12_image_70 rfl (hY26.r 23 rfl) ?_
      refine e_iconst (v := (4 : Int32)) dX12_image_73 (by decide) ?_
      refine e_iload_n dX12_image_74 rfl ?_
      refine e_imul dX12_image_75 ?_
      refine e_iconst (v := (2 : Int32)) dX12_image_76 (by decide) ?_
      refine e_iadd dX12_image_77 ?_
      refine g_aload_n dX12_image_78 rfl rfl ?_
      refine e_getR (hY26.t 0 rfl) flX12_35_13 dX12_image_79 rfl (hY26.r 7 rfl) ?_
      refine e_iload_n dX12_image_82 rfl ?_
      replace H := og H; obtain ⟨g27, H⟩ := H
      refine e_iald (hY26.t 8 rfl) (ixb_y (hY26.n 8 rfl) g27) dX12_image_83 ?_
      replace H := og H; obtain ⟨g28, H⟩ := H
      refine e_iast (hY26.t 24 rfl) (ixb_y (hY26.n 24 rfl) g28) dX12_image_84 ?_
      refine g_aload_n dX12_image_85 rfl rfl ?_
      refine e_getR ((hY26.sI).t 0 rfl) flX12_83_13 dX12_image_86 rfl ((hY26.sI).r 23 rfl) ?_
      refine e_iconst (v := (4 : Int32)) dX12_image_89 (by decide) ?_
      refine e_iload_n dX12_image_90 rfl ?_
      refine e_imul dX12_image_91 ?_
      refine e_iconst (v := (3 : Int32)) dX12_image_92 (by decide) ?_
      refine e_iadd dX12_image_93 ?_
      refine g_aload_n dX12_image_94 rfl rfl ?_
      refine e_getR ((hY26.sI).t 0 rfl) flX12_38_13 dX12_image_95 rfl ((hY26.sI).r 8 rfl) ?_
      refine e_iload_n dX12_image_98 rfl ?_
      replace H := og H; obtain ⟨g29, H⟩ := H
      refine e_iald ((hY26.sI).t 9 rfl) (ixb_y ((hY26.sI).n 9 rfl) g29) dX12_image_99 ?_
      replace H := og H; obtain ⟨g30, H⟩ := H
      refine e_iast ((hY26.sI).t 24 rfl) (ixb_y ((hY26.sI).n 24 rfl) g30) dX12_image_100 ?_
      replace H := obh H; obtain ⟨h31, e32, H⟩ := H
      refine e_hq e32 ?_
      have hY33 := kY e32 ((hY26.sI).sI)
      refine e_iinc dX12_image_101 rfl (ii_ (by decide : Int32.ofInt (1) = (1 : Int32))) (Nat.le_of_ble_eq_true rfl) rfl rfl ?_
      refine e_goto (tgt := 31) dX12_image_104 (by decide) ?_
      exact e_wk (lk1 (lk1 lkn)) (ih hY33 H kE)
def f_X12_image  (h : HS) : Option (Int32 × HS) := (bh (sI (sI (sI h 60 49 (1 : Int32)) 60 50 (hI (sI h 60 49 (1 : Int32)) 60 14)) 60 51 (hI (sI (sI h 60 49 (1 : Int32)) 60 50 (hI (sI h 60 49 (1 : Int32)) 60 14)) 60 4)) (fun h1 => (Option.bind (l_X12_image_31  1000 (0 : Int32) (sI h1 60 52 (hI h1 60 25))) (fun q34 => (some ((hI q34 60 25), q34))))))
set_option maxHeartbeats 4000000 in
set_option maxRecDepth 20000 in
theorem p_X12_image  {h : HS} {q : (Int32 × HS)} (H : f_X12_image h = some q) : Pr h q.2 := by
  unfold f_X12_image at H
  replace H := obh H; obtain ⟨h1, e2, H⟩ := H
  replace H := ob H; obtain ⟨q34, c35, H⟩ := H
  have e36 := p_X12_image_31 1000 c35
  obtain rfl := Option.some.inj H
  exact (((kP e2 (((Pr.rf.sI).sI).sI)).sI).tr e36)
set_option maxHeartbeats 4000000 in
set_option maxRecDepth 20000 in
theorem t_X12_image {G : GE} (d : Nat)  {h : HS} {q : (Int32 × HS)} (hY : LY TM h) (H : f_X12_image h = some q) : CE G (d + 0) yX12_image miX12_image [.ref 60] h (some (.int q.1)) (q.2) := by
  unfold f_X12_image at H
  refine ce_of rfl (by decide) (fun q => by first | rfl | cases q) (Nat.le_of_ble_eq_true rfl) rfl ?_
  refine g_aload_n dX12_image_0 rfl rfl ?_
  refine e_iconst (v := (1 : Int32)) dX12_image_1 (by decide) ?_
  refine e_putZ (hY.t 0 rfl) fpX12_432_13 rfl (Or.inr rfl) dX12_image_2 ?_
  refine g_aload_n dX12_image_5 rfl rfl ?_
  refine g_aload_n dX12_image_6 rfl rfl ?_
  refine e_getI ((hY.sI).t 0 rfl) flX12_122_13 dX12_image_7 rfl ?_
  refine e_putI ((hY.sI).t 0 rfl) fpX12_435_13 rfl dX12_image_10 ?_
  refine g_aload_n dX12_image_13 rfl rfl ?_
  refine g_aload_n dX12_image_14 rfl rfl ?_
  refine e_getI (((hY.sI).sI).t 0 rfl) flX12_149_13 dX12_image_15 rfl ?_
  refine e_putI (((hY.sI).sI).t 0 rfl) fpX12_438_13 rfl dX12_image_18 ?_
  replace H := obh H; obtain ⟨h1, e2, H⟩ := H
  refine e_hq e2 ?_
  have hY3 := kY e2 (((hY.sI).sI).sI)
  refine g_aload_n dX12_image_21 rfl rfl ?_
  refine g_aload_n dX12_image_22 rfl rfl ?_
  refine e_getI (hY3.t 0 rfl) flX12_223_13 dX12_image_23 rfl ?_
  refine e_putI (hY3.t 0 rfl) fpX12_441_13 rfl dX12_image_26 ?_
  refine e_iconst (v := (0 : Int32)) dX12_image_29 (by decide) ?_
  refine e_istore_n dX12_image_30 (Nat.le_of_ble_eq_true rfl) rfl rfl ?_
  replace H := ob H; obtain ⟨q34, c35, H⟩ := H
  have e36 := p_X12_image_31 1000 c35
  have hY37 := (hY3.sI).pr okM e36
  refine e_wk (lk1 (lk1 lkn)) (w_X12_image_31 d 1000 (hY3.sI) c35 ?_)
  refine g_aload_n dX12_image_107 rfl rfl ?_
  refine e_getI (hY37.t 0 rfl) flX12_223_13 dX12_image_108 rfl ?_
  obtain rfl := Option.some.inj H
  exact z_iret rfl rfl dX12_image_111 rfl rfl
-- X12_back
def l_X12_back_28  : Nat → Int32 → HS → Option HS
  | 0, _, _ => none
  | n + 1, x1, h => (if (hI h 60 50) ≤ x1 then (some h) else (if ixb ((4 : Int32) * x1) 32 = true then (if ixb x1 8 = true then (if ixb (((4 : Int32) * x1) + (1 : Int32)) 32 = true then (if ixb x1 8 = true then (bh (sI (sI h 70 x1.toNatClampNeg (hI h 84 ((4 : Int32) * x1).toNatClampNeg)) 67 x1.toNatClampNeg (hI (sI h 70 x1.toNatClampNeg (hI h 84 ((4 : Int32) * x1).toNatClampNeg)) 84 (((4 : Int32) * x1) + (1 : Int32)).toNatClampNeg)) (fun h22 => (if ixb (((4 : Int32) * x1) + (2 : Int32)) 32 = true then (if ixb x1 8 = true then (if ixb (((4 : Int32) * x1) + (3 : Int32)) 32 = true then (if ixb x1 8 = true then (bh (sI (sI h22 68 x1.toNatClampNeg (hI h22 84 (((4 : Int32) * x1) + (2 : Int32)).toNatClampNeg)) 69 x1.toNatClampNeg (hI (sI h22 68 x1.toNatClampNeg (hI h22 84 (((4 : Int32) * x1) + (2 : Int32)).toNatClampNeg)) 84 (((4 : Int32) * x1) + (3 : Int32)).toNatClampNeg)) (fun h29 => (l_X12_back_28  n (x1 + (1 : Int32)) h29))) else none) else none) else none) else none))) else none) else none) else none) else none))
set_option maxHeartbeats 4000000 in
set_option maxRecDepth 20000 in
theorem p_X12_back_28  : ∀ (n : Nat) {x1 : Int32} {h : HS} {q : HS}, l_X12_back_28  n x1 h = some q → Pr h q := by
  intro n
  induction n with
  | zero => intro x1 h q H; exact nz H
  | succ n ih =>
    intro x1 h q H
    unfold l_X12_back_28 at H
    replace H := oi H; obtain ⟨c17, H⟩ | ⟨c17, H⟩ := H
    · obtain rfl := Option.some.inj H
      exact Pr.rf
    · replace H := og H; obtain ⟨g18, H⟩ := H
      replace H := og H; obtain ⟨g19, H⟩ := H
      replace H := og H; obtain ⟨g20, H⟩ := H
      replace H := og H; obtain ⟨g21, H⟩ := H
      replace H := obh H; obtain ⟨h22, e23, H⟩ := H
      replace H := og H; obtain ⟨g25, H⟩ := H
      replace H := og H; obtain ⟨g26, H⟩ := H
      replace H := og H; obtain ⟨g27, H⟩ := H
      replace H := og H; obtain ⟨g28, H⟩ := H
      replace H := obh H; obtain ⟨h29, e30, H⟩ := H
      exact (kP e30 (((kP e23 ((Pr.rf.sI).sI)).sI).sI)).tr (ih H)
set_option maxHeartbeats 4000000 in
set_option maxRecDepth 20000 in
theorem w_X12_back_28 {G : GE} (d : Nat)  {r : Option Value} {h' : HS}  : ∀ (n : Nat) {x1 : Int32} {h : HS} {q : HS}, LY TM h → l_X12_back_28  n x1 h = some q → En G (d + 0) miX12_back 104 [.ref 60, dum] [] q r h' → En G (d + 0) miX12_back 28 [.ref 60, .int x1] [] h r h' := by
  intro n
  induction n with
  | zero => intro x1 h q hYTM H kE; exact nz H
  | succ n ih =>
    intro x1 h q hYTM H kE
    unfold l_X12_back_28 at H
    refine e_iload_n dX12_back_28 rfl ?_
    refine g_aload_n dX12_back_29 rfl rfl ?_
    refine e_getI (hYTM.t 0 rfl) flX12_435_13 dX12_back_30 rfl ?_
    refine e_icmp_ge (tgt := 104) dX12_back_33 (by decide) (fun c17 => ?_) (fun c17 => ?_)
    · replace H := ot c17 H
      obtain rfl := Option.some.inj H
      exact e_wk (lk1 (lk0 lkn)) kE
    · replace H := of_ c17 H
      refine g_aload_n dX12_back_36 rfl rfl ?_
      refine e_getR (hYTM.t 0 rfl) flX12_41_13 dX12_back_37 rfl (hYTM.r 9 rfl) ?_
      refine e_iload_n dX12_back_40 rfl ?_
      refine g_aload_n dX12_back_41 rfl rfl ?_
      refine e_getR (hYTM.t 0 rfl) flX12_83_13 dX12_back_42 rfl (hYTM.r 23 rfl) ?_
      refine e_iconst (v := (4 : Int32)) dX12_back_45 (by decide) ?_
      refine e_iload_n dX12_back_46 rfl ?_
      refine e_imul dX12_back_47 ?_
      replace H := og H; obtain ⟨g18, H⟩ := H
      refine e_iald (hYTM.t 24 rfl) (ixb_y (hYTM.n 24 rfl) g18) dX12_back_48 ?_
      replace H := og H; obtain ⟨g19, H⟩ := H
      refine e_iast (hYTM.t 10 rfl) (ixb_y (hYTM.n 10 rfl) g19) dX12_back_49 ?_
      refine g_aload_n dX12_back_50 rfl rfl ?_
      refine e_getR ((hYTM.sI).t 0 rfl) flX12_32_13 dX12_back_51 rfl ((hYTM.sI).r 6 rfl) ?_
      refine e_iload_n dX12_back_54 rfl ?_
      refine g_aload_n dX12_back_55 rfl rfl ?_
      refine e_getR ((hYTM.sI).t 0 rfl) flX12_83_13 dX12_back_56 rfl ((hYTM.sI).r 23 rfl) ?_
      refine e_iconst (v := (4 : Int32)) dX12_back_59 (by decide) ?_
      refine e_iload_n dX12_back_60 rfl ?_
      refine e_imul dX12_back_61 ?_
      refine e_iconst (v := (1 : Int32)) dX12_back_62 (by decide) ?_
      refine e_iadd dX12_back_63 ?_
      replace H := og H; obtain ⟨g20, H⟩ := H
      refine e_iald ((hYTM.sI).t 24 rfl) (ixb_y ((hYTM.sI).n 24 rfl) g20) dX12_back_64 ?_
      replace H := og H; obtain ⟨g21, H⟩ := H
      refine e_iast ((hYTM.sI).t 7 rfl) (ixb_y ((hYTM.sI).n 7 rfl) g21) dX12_back_65 ?_
      replace H := obh H; obtain ⟨h22, e23, H⟩ := H
      refine e_hq e23 ?_
      have hY24 := kY e23 ((hYTM.sI).sI)
      refine g_aload_n dX12_back_66 rfl rfl ?_
      refine e_getR (hY24.t 0 rfl) flX12_35_13 dX12_back_67 rfl (hY24.r 7 rfl) ?_
      refine e_iload_n dX12_back_70 rfl ?_
      refine g_aload_n dX12_back_71 rfl rfl ?_
      refine e_getR (hY24.t 0 rfl) flX12_83_13 dX12_back_72 rfl (hY24.r 23 rfl) ?_
      refine e_iconst (v := (4 : Int32)) dX12_back_75 (by decide) ?_
      refine e_iload_n dX12_back_76 rfl ?_
      refine e_imul dX12_back_77 ?_
      refine e_iconst (v := (2 : Int32)) dX12_back_78 (by decide) ?_
      refine e_iadd dX12_back_79 ?_
      replace H := og H; obtain ⟨g25, H⟩ := H
      refine e_iald (hY24.t 24 rfl) (ixb_y (hY24.n 24 rfl) g25) dX12_back_80 ?_
      replace H := og H; obtain ⟨g26, H⟩ := H
      refine e_iast (hY24.t 8 rfl) (ixb_y (hY24.n 8 rfl) g26) dX12_back_81 ?_
      refine g_aload_n dX12_back_82 rfl rfl ?_
      refine e_getR ((hY24.sI).t 0 rfl) flX12_38_13 dX12_back_83 rfl ((hY24.sI).r 8 rfl) ?_
      refine e_iload_n dX12_back_86 rfl ?_
      refine g_aload_n dX12_back_87 rfl rfl ?_
      refine e_getR ((hY24.sI).t 0 rfl) flX12_83_13 dX12_back_88 rfl ((hY24.sI).r 23 rfl) ?_
      refine e_iconst (v := (4 : Int32)) dX12_back_91 (by decide) ?_
      refine e_iload_n dX12_back_92 rfl ?_
      refine e_imul dX12_back_93 ?_
      refine e_iconst (v := (3 : Int32)) dX12_back_94 (by decide) ?_
      refine e_iadd dX12_back_95 ?_
      replace H := og H; obtain ⟨g27, H⟩ := H
      refine e_iald ((hY24.sI).t 24 rfl) (ixb_y ((hY24.sI).n 24 rfl) g27) dX12_back_96 ?_
      replace H := og H; obtain ⟨g28, H⟩ := H
      refine e_iast ((hY24.sI).t 9 rfl) (ixb_y ((hY24.sI).n 9 rfl) g28) dX12_back_97 ?_
      replace H := obh H; obtain ⟨h29, e30, H⟩ := H
      refine e_hq e30 ?_
      have hY31 := kY e30 ((hY24.sI).sI)
      refine e_iinc dX12_back_98 rfl (ii_ (by decide : Int32.ofInt (1) = (1 : Int32))) (Nat.le_of_ble_eq_true rfl) rfl rfl ?_
      refine e_goto (tgt := 28) dX12_back_101 (by decide) ?_
      exact e_wk (lk1 (lk1 lkn)) (ih hY31 H kE)
def f_X12_back  (h : HS) : Option (Int32 × HS) := (if (hI h 60 49) = 0 then (some ((-3 : Int32), h)) else (Option.bind (l_X12_back_28  1000 (0 : Int32) (sI (sI h 60 4 (hI h 60 51)) 60 25 (hI (sI h 60 4 (hI h 60 51)) 60 52))) (fun q32 => (some ((hI q32 60 25), q32)))))
set_option maxHeartbeats 4000000 in
set_option maxRecDepth 20000 in
theorem p_X12_back  {h : HS} {q : (Int32 × HS)} (H : f_X12_back h = some q) : Pr h q.2 := by
  unfold f_X12_back at H
  replace H := oi H; obtain ⟨c1, H⟩ | ⟨c1, H⟩ := H
  · obtain rfl := Option.some.inj H
    exact Pr.rf
  · replace H := ob H; obtain ⟨q32, c33, H⟩ := H
    have e34 := p_X12_back_28 1000 c33
    obtain rfl := Option.some.inj H
    exact (((Pr.rf.sI).sI).tr e34)
set_option maxHeartbeats 4000000 in
set_option maxRecDepth 20000 in
theorem t_X12_back {G : GE} (d : Nat)  {h : HS} {q : (Int32 × HS)} (hY : LY TM h) (H : f_X12_back h = some q) : CE G (d + 0) yX12_back miX12_back [.ref 60] h (some (.int q.1)) (q.2) := by
  unfold f_X12_back at H
  refine ce_of rfl (by decide) (fun q => by first | rfl | cases q) (Nat.le_of_ble_eq_true rfl) rfl ?_
  refine g_aload_n dX12_back_0 rfl rfl ?_
  refine e_getI (hY.t 0 rfl) flX12_432_13 dX12_back_1 rfl ?_
  refine e_if_ne (tgt := 10) dX12_back_4 (by decide) (fun c1 => ?_) (fun c1 => ?_)
  · replace H := of_ c1 H
    refine g_aload_n dX12_back_10 rfl rfl ?_
    refine g_aload_n dX12_back_11 rfl rfl ?_
    refine e_getI (hY.t 0 rfl) flX12_438_13 dX12_back_12 rfl ?_
    refine e_putI (hY.t 0 rfl) fpX12_149_13 rfl dX12_back_15 ?_
    refine g_aload_n dX12_back_18 rfl rfl ?_
    refine g_aload_n dX12_back_19 rfl rfl ?_
    refine e_getI ((hY.sI).t 0 rfl) flX12_441_13 dX12_back_20 rfl ?_
    refine e_putI ((hY.sI).t 0 rfl) fpX12_223_13 rfl dX12_back_23 ?_
    refine e_iconst (v := (0 : Int32)) dX12_back_26 (by decide) ?_
    refine e_istore_n dX12_back_27 (Nat.le_of_ble_eq_true rfl) rfl rfl ?_
    replace H := ob H; obtain ⟨q32, c33, H⟩ := H
    have e34 := p_X12_back_28 1000 c33
    have hY35 := ((hY.sI).sI).pr okM e34
    refine e_wk (lk1 (lk1 lkn)) (w_X12_back_28 d 1000 ((hY.sI).sI) c33 ?_)
    refine g_aload_n dX12_back_104 rfl rfl ?_
    refine e_getI (hY35.t 0 rfl) flX12_223_13 dX12_back_105 rfl ?_
    obtain rfl := Option.some.inj H
    exact z_iret rfl rfl dX12_back_108 rfl rfl
  · replace H := ot c1 H
    refine e_bipush (v := (-3 : Int32)) dX12_back_7 (by decide) ?_
    obtain rfl := Option.some.inj H
    exact z_iret rfl rfl dX12_back_9 rfl rfl
-- X12_count
def l_X12_count_85 (h : HS)  : Nat → Int32 → Int32 → Option Int32
  | 0, _, _ => none
  | n + 1, x2, x3 => (if (hI h 60 25) ≤ x3 then (some x2) else (if ixb x3 60 = true then (l_X12_count_85 h n (x2 + (hI h 77 x3.toNatClampNeg)) (x3 + (1 : Int32))) else none))
set_option maxHeartbeats 4000000 in
set_option maxRecDepth 20000 in
theorem w_X12_count_85 {G : GE} (d : Nat)  {h : HS} {r : Option Value} {h' : HS} (hYTM : LY TM h) : ∀ (n : Nat) {x2 : Int32} {x3 : Int32} {q : Int32}, l_X12_count_85 h n x2 x3 = some q → En G (d + 0) miX12_count 108 [dum, dum, .int q, dum] [] h r h' → En G (d + 0) miX12_count 85 [.ref 60, dum, .int x2, .int x3] [] h r h' := by
  intro n
  induction n with
  | zero => intro x2 x3 q H kE; exact nz H
  | succ n ih =>
    intro x2 x3 q H kE
    unfold l_X12_count_85 at H
    refine e_iload_n dX12_count_85 rfl ?_
    refine g_aload_n dX12_count_86 rfl rfl ?_
    refine e_getI (hYTM.t 0 rfl) flX12_223_13 dX12_count_87 rfl ?_
    refine e_icmp_ge (tgt := 108) dX12_count_90 (by decide) (fun c11 => ?_) (fun c11 => ?_)
    · replace H := ot c11 H
      obtain rfl := Option.some.inj H
      exact e_wk (lk0 (lk1 (lk1 (lk0 lkn)))) kE
    · replace H := of_ c11 H
      refine e_iload_n dX12_count_93 rfl ?_
      refine g_aload_n dX12_count_94 rfl rfl ?_
      refine e_getR (hYTM.t 0 rfl) flX12_62_13 dX12_count_95 rfl (hYTM.r 16 rfl) ?_
      refine e_iload_n dX12_count_98 rfl ?_
      replace H := og H; obtain ⟨g12, H⟩ := H
      refine e_iald (hYTM.t 17 rfl) (ixb_y (hYTM.n 17 rfl) g12) dX12_count_99 ?_
      refine e_iadd dX12_count_100 ?_
      refine e_istore_n dX12_count_101 (Nat.le_of_ble_eq_true rfl) rfl rfl ?_
      refine e_iinc dX12_count_102 rfl (ii_ (by decide : Int32.ofInt (1) = (1 : Int32))) (Nat.le_of_ble_eq_true rfl) rfl rfl ?_
      refine e_goto (tgt := 85) dX12_count_105 (by decide) ?_
      exact e_wk (lk1 (lk1 (lk1 (lk1 lkn)))) (ih H kE)
def f_X12_count (p1 : Int32) (h : HS) : Option Int32 := (if p1 = (0 : Int32) then (some (hI h 60 14)) else (if p1 = (1 : Int32) then (some (hI h 60 18)) else (if p1 = (2 : Int32) then (some (hI h 60 25)) else (if p1 = (3 : Int32) then (some (hI h 60 44)) else (if p1 = (4 : Int32) then (some (hI h 60 3)) else (if p1 = (5 : Int32) then (some (hI h 60 6)) else (if p1 = (6 : Int32) then (some (hI h 60 4)) else (if p1 = (7 : Int32) then (Option.bind (l_X12_count_85 h 1000 (0 : Int32) (0 : Int32)) (fun q13 => (some q13))) else (some (-2 : Int32))))))))))
set_option maxHeartbeats 4000000 in
set_option maxRecDepth 20000 in
theorem t_X12_count {G : GE} (d : Nat) {p1 : Int32} {h : HS} {q : Int32} (hY : LY TM h) (H : f_X12_count p1 h = some q) : CE G (d + 0) yX12_count miX12_count [.ref 60, .int p1] h (some (.int q)) (h) := by
  unfold f_X12_count at H
  refine ce_of rfl (by decide) (fun q => by first | rfl | cases q) (Nat.le_of_ble_eq_true rfl) rfl ?_
  refine e_iconst (v := (0 : Int32)) dX12_count_0 (by decide) ?_
  refine e_istore_n dX12_count_1 (Nat.le_of_ble_eq_true rfl) rfl rfl ?_
  refine e_iload_n dX12_count_2 rfl ?_
  by_cases k1 : p1 = (0 : Int32)
  · replace H := ot k1 H
    refine e_tableIn (off := 45) (tgt := 48) dX12_count_3 (by rw [k1]; decide) (by rw [k1]; decide) (by rw [k1]; rfl) (by decide) ?_
    refine g_aload_n dX12_count_48 rfl rfl ?_
    refine e_getI (hY.t 0 rfl) flX12_122_13 dX12_count_49 rfl ?_
    obtain rfl := Option.some.inj H
    exact z_iret rfl rfl dX12_count_52 rfl rfl
  · replace H := of_ k1 H
    by_cases k2 : p1 = (1 : Int32)
    · replace H := ot k2 H
      refine e_tableIn (off := 50) (tgt := 53) dX12_count_3 (by rw [k2]; decide) (by rw [k2]; decide) (by rw [k2]; rfl) (by decide) ?_
      refine g_aload_n dX12_count_53 rfl rfl ?_
      refine e_getI (hY.t 0 rfl) flX12_129_13 dX12_count_54 rfl ?_
      obtain rfl := Option.some.inj H
      exact z_iret rfl rfl dX12_count_57 rfl rfl
    · replace H := of_ k2 H
      by_cases k3 : p1 = (2 : Int32)
      · replace H := ot k3 H
        refine e_tableIn (off := 55) (tgt := 58) dX12_count_3 (by rw [k3]; decide) (by rw [k3]; decide) (by rw [k3]; rfl) (by decide) ?_
        refine g_aload_n dX12_count_58 rfl rfl ?_
        refine e_getI (hY.t 0 rfl) flX12_223_13 dX12_count_59 rfl ?_
        obtain rfl := Option.some.inj H
        exact z_iret rfl rfl dX12_count_62 rfl rfl
      · replace H := of_ k3 H
        by_cases k4 : p1 = (3 : Int32)
        · replace H := ot k4 H
          refine e_tableIn (off := 60) (tgt := 63) dX12_count_3 (by rw [k4]; decide) (by rw [k4]; decide) (by rw [k4]; rfl) (by decide) ?_
          refine g_aload_n dX12_count_63 rfl rfl ?_
          refine e_getI (hY.t 0 rfl) flX12_407_13 dX12_count_64 rfl ?_
          obtain rfl := Option.some.inj H
          exact z_iret rfl rfl dX12_count_67 rfl rfl
        · replace H := of_ k4 H
          by_cases k5 : p1 = (4 : Int32)
          · replace H := ot k5 H
            refine e_tableIn (off := 65) (tgt := 68) dX12_count_3 (by rw [k5]; decide) (by rw [k5]; decide) (by rw [k5]; rfl) (by decide) ?_
            refine g_aload_n dX12_count_68 rfl rfl ?_
            refine e_getI (hY.t 0 rfl) flX12_117_13 dX12_count_69 rfl ?_
            obtain rfl := Option.some.inj H
            exact z_iret rfl rfl dX12_count_72 rfl rfl
          · replace H := of_ k5 H
            by_cases k6 : p1 = (5 : Int32)
            · replace H := ot k6 H
              refine e_tableIn (off := 70) (tgt := 73) dX12_count_3 (by rw [k6]; decide) (by rw [k6]; decide) (by rw [k6]; rfl) (by decide) ?_
              refine g_aload_n dX12_count_73 rfl rfl ?_
              refine e_getI (hY.t 0 rfl) flX12_242_13 dX12_count_74 rfl ?_
              obtain rfl := Option.some.inj H
              exact z_iret rfl rfl dX12_count_77 rfl rfl
            · replace H := of_ k6 H
              by_cases k7 : p1 = (6 : Int32)
              · replace H := ot k7 H
                refine e_tableIn (off := 75) (tgt := 78) dX12_count_3 (by rw [k7]; decide) (by rw [k7]; decide) (by rw [k7]; rfl) (by decide) ?_
                refine g_aload_n dX12_count_78 rfl rfl ?_
                refine e_getI (hY.t 0 rfl) flX12_149_13 dX12_count_79 rfl ?_
                obtain rfl := Option.some.inj H
                exact z_iret rfl rfl dX12_count_82 rfl rfl
              · replace H := of_ k7 H
                by_cases k8 : p1 = (7 : Int32)
                · replace H := ot k8 H
                  refine e_tableIn (off := 80) (tgt := 83) dX12_count_3 (by rw [k8]; decide) (by rw [k8]; decide) (by rw [k8]; rfl) (by decide) ?_
                  refine e_iconst (v := (0 : Int32)) dX12_count_83 (by decide) ?_
                  refine e_istore_n dX12_count_84 (Nat.le_of_ble_eq_true rfl) rfl rfl ?_
                  replace H := ob H; obtain ⟨q13, c14, H⟩ := H
                  refine e_wk (lk1 (lk0 (lk1 (lk1 lkn)))) (w_X12_count_85 d hY 1000 c14 ?_)
                  refine e_iload_n dX12_count_108 rfl ?_
                  obtain rfl := Option.some.inj H
                  exact z_iret rfl rfl dX12_count_109 rfl rfl
                · replace H := of_ k8 H
                  refine e_tableOut (tgt := 110) dX12_count_3 (by have q0 : p1.toInt ≠ 0 := i32_ne k1; have q1 : p1.toInt ≠ 1 := i32_ne k2; have q2 : p1.toInt ≠ 2 := i32_ne k3; have q3 : p1.toInt ≠ 3 := i32_ne k4; have q4 : p1.toInt ≠ 4 := i32_ne k5; have q5 : p1.toInt ≠ 5 := i32_ne k6; have q6 : p1.toInt ≠ 6 := i32_ne k7; have q7 : p1.toInt ≠ 7 := i32_ne k8; omega) (by decide) ?_
                  refine e_bipush (v := (-2 : Int32)) dX12_count_110 (by decide) ?_
                  obtain rfl := Option.some.inj H
                  exact z_iret rfl rfl dX12_count_112 rfl rfl
-- X12_isSheet
def f_X12_isSheet (p0 : Int32) : Option Bool := (Option.bind (f_X12_in p0.toInt64 (0 : Int64) (3 : Int64)) (fun q1 => (some q1)))
set_option maxHeartbeats 4000000 in
set_option maxRecDepth 20000 in
theorem t_X12_isSheet {G : GE} (d : Nat) {p0 : Int32} {h : HS} {q : Bool} (H : f_X12_isSheet p0 = some q) : CE G (d + 1) yX12_isSheet miX12_isSheet [.int p0] h (some (.int (b2i q))) (h) := by
  unfold f_X12_isSheet at H
  refine ce_of rfl (by decide) (fun q => by first | rfl | cases q) (Nat.le_of_ble_eq_true rfl) rfl ?_
  refine e_iload_n dX12_isSheet_0 rfl ?_
  refine e_i2l dX12_isSheet_1 ?_
  refine e_lconst (v := (0 : Int64)) dX12_isSheet_2 (by decide) ?_
  refine e_ldc2 (v := (3 : Int64)) lkX12_145 dX12_isSheet_3 ?_
  replace H := ob H; obtain ⟨q1, c2, H⟩ := H
  refine s1 lmX12_125 lsX12_in msX12_in dX12_isSheet_6 (t_X12_in (d + 0) c2) rfl (Nat.le_of_ble_eq_true rfl) (Nat.le_refl _) ?_
  obtain rfl := Option.some.inj H
  exact z_bret rfl dX12_isSheet_9 rfl rfl
-- X12_sheet
def l_X12_sheet_77 (y1 : Int32) (y2 : Int32) (y3 : Int32)  : Nat → Int32 → HS → Option HS
  | 0, _, _ => none
  | n + 1, x4, h => (if y3 ≤ x4 then (some h) else (if y2 < 0 then (some h) else (if ixb (((40 : Int32) * y1) + x4) 160 = true then (l_X12_sheet_77 y1 y2 y3 n (x4 + (1 : Int32)) (sI h 88 (((40 : Int32) * y1) + x4).toNatClampNeg (0 : Int32))) else none)))
set_option maxHeartbeats 4000000 in
set_option maxRecDepth 20000 in
theorem p_X12_sheet_77 {y1 : Int32} {y2 : Int32} {y3 : Int32} : ∀ (n : Nat) {x4 : Int32} {h : HS} {q : HS}, l_X12_sheet_77 y1 y2 y3 n x4 h = some q → Pr h q := by
  intro n
  induction n with
  | zero => intro x4 h q H; exact nz H
  | succ n ih =>
    intro x4 h q H
    unfold l_X12_sheet_77 at H
    replace H := oi H; obtain ⟨c20, H⟩ | ⟨c20, H⟩ := H
    · obtain rfl := Option.some.inj H
      exact Pr.rf
    · replace H := oi H; obtain ⟨c21, H⟩ | ⟨c21, H⟩ := H
      · obtain rfl := Option.some.inj H
        exact Pr.rf
      · replace H := og H; obtain ⟨g22, H⟩ := H
        exact (Pr.rf.sI).tr (ih H)
set_option maxHeartbeats 4000000 in
set_option maxRecDepth 20000 in
theorem w_X12_sheet_77 {G : GE} (d : Nat) {y1 : Int32} {y2 : Int32} {y3 : Int32} {r : Option Value} {h' : HS}  : ∀ (n : Nat) {x4 : Int32} {h : HS} {q : HS}, LY TM h → l_X12_sheet_77 y1 y2 y3 n x4 h = some q → En G (d + 2) miX12_sheet 106 [dum, dum, dum, dum, dum] [] q r h' → En G (d + 2) miX12_sheet 77 [.ref 60, .int y1, .int y2, .int y3, .int x4] [] h r h' := by
  intro n
  induction n with
  | zero => intro x4 h q hYTM H kE; exact nz H
  | succ n ih =>
    intro x4 h q hYTM H kE
    unfold l_X12_sheet_77 at H
    refine e_iload dX12_sheet_77 rfl ?_
    refine e_iload_n dX12_sheet_79 rfl ?_
    refine e_icmp_ge (tgt := 106) dX12_sheet_80 (by decide) (fun c20 => ?_) (fun c20 => ?_)
    · replace H := ot c20 H
      obtain rfl := Option.some.inj H
      exact e_wk (lk0 (lk0 (lk0 (lk0 (lk0 lkn))))) kE
    · replace H := of_ c20 H
      refine e_iload_n dX12_sheet_83 rfl ?_
      refine e_if_lt (tgt := 106) dX12_sheet_84 (by decide) (fun c21 => ?_) (fun c21 => ?_)
      · replace H := ot c21 H
        obtain rfl := Option.some.inj H
        exact e_wk (lk0 (lk0 (lk0 (lk0 (lk0 lkn))))) kE
      · replace H := of_ c21 H
        refine g_aload_n dX12_sheet_87 rfl rfl ?_
        refine e_getR (hYTM.t 0 rfl) flX12_96_13 dX12_sheet_88 rfl (hYTM.r 27 rfl) ?_
        refine e_bipush (v := (40 : Int32)) dX12_sheet_91 (by decide) ?_
        refine e_iload_n dX12_sheet_93 rfl ?_
        refine e_imul dX12_sheet_94 ?_
        refine e_iload dX12_sheet_95 rfl ?_
        refine e_iadd dX12_sheet_97 ?_
        refine e_iconst (v := (0 : Int32)) dX12_sheet_98 (by decide) ?_
        replace H := og H; obtain ⟨g22, H⟩ := H
        refine e_iast (hYTM.t 28 rfl) (ixb_y (hYTM.n 28 rfl) g22) dX12_sheet_99 ?_
        refine e_iinc dX12_sheet_100 rfl (ii_ (by decide : Int32.ofInt (1) = (1 : Int32))) (Nat.le_of_ble_eq_true rfl) rfl rfl ?_
        refine e_goto (tgt := 77) dX12_sheet_103 (by decide) ?_
        exact e_wk (lk1 (lk1 (lk1 (lk1 (lk1 lkn))))) (ih (hYTM.sI) H kE)
def f_X12_sheet (p1 : Int32) (p2 : Int32) (p3 : Int32) (h : HS) : Option (Int32 × HS) := (Option.bind (f_X12_isSheet p1) (fun q1 => (if q1 = true then (Option.bind (f_X12_in p2.toInt64 (-1 : Int64) (2 : Int64)) (fun q4 => (if q4 = true then (if p2 < 0 then (if p2 < 0 then (Option.bind (if p2 < 0 then (some (0 : Int32)) else (some (1 : Int32))) (fun q10 => (if ixb p1 4 = true then (if z01 q10 = true then (if ixb p1 4 = true then (if ixb p1 4 = true then (Option.bind (l_X12_sheet_77 p1 p2 p3 1000 (0 : Int32) (sI (sI (sI h 85 p1.toNatClampNeg q10) 86 p1.toNatClampNeg p2) 87 p1.toNatClampNeg p3)) (fun q23 => (some ((1 : Int32), q23)))) else none) else none) else none) else none))) else (if 0 ≤ p3 then (Option.bind (if p2 < 0 then (some (0 : Int32)) else (some (1 : Int32))) (fun q29 => (if ixb p1 4 = true then (if z01 q29 = true then (if ixb p1 4 = true then (if ixb p1 4 = true then (Option.bind (l_X12_sheet_77 p1 p2 p3 1000 (0 : Int32) (sI (sI (sI h 85 p1.toNatClampNeg q29) 86 p1.toNatClampNeg p2) 87 p1.toNatClampNeg p3)) (fun q36 => (some ((1 : Int32), q36)))) else none) else none) else none) else none))) else (some ((-14 : Int32), h)))) else (if p3 ≤ (40 : Int32) then (if p2 < 0 then (Option.bind (if p2 < 0 then (some (0 : Int32)) else (some (1 : Int32))) (fun q43 => (if ixb p1 4 = true then (if z01 q43 = true then (if ixb p1 4 = true then (if ixb p1 4 = true then (Option.bind (l_X12_sheet_77 p1 p2 p3 1000 (0 : Int32) (sI (sI (sI h 85 p1.toNatClampNeg q43) 86 p1.toNatClampNeg p2) 87 p1.toNatClampNeg p3)) (fun q50 => (some ((1 : Int32), q50)))) else none) else none) else none) else none))) else (if 0 ≤ p3 then (Option.bind (if p2 < 0 then (some (0 : Int32)) else (some (1 : Int32))) (fun q56 => (if ixb p1 4 = true then (if z01 q56 = true then (if ixb p1 4 = true then (if ixb p1 4 = true then (Option.bind (l_X12_sheet_77 p1 p2 p3 1000 (0 : Int32) (sI (sI (sI h 85 p1.toNatClampNeg q56) 86 p1.toNatClampNeg p2) 87 p1.toNatClampNeg p3)) (fun q63 => (some ((1 : Int32), q63)))) else none) else none) else none) else none))) else (some ((-14 : Int32), h)))) else (some ((-2 : Int32), h)))) else (some ((-2 : Int32), h))))) else (some ((-2 : Int32), h)))))
set_option maxHeartbeats 4000000 in
set_option maxRecDepth 20000 in
theorem p_X12_sheet {p1 : Int32} {p2 : Int32} {p3 : Int32} {h : HS} {q : (Int32 × HS)} (H : f_X12_sheet p1 p2 p3 h = some q) : Pr h q.2 := by
  unfold f_X12_sheet at H
  replace H := ob H; obtain ⟨q1, c2, H⟩ := H
  replace H := oi H; obtain ⟨c3, H⟩ | ⟨c3, H⟩ := H
  · replace H := ob H; obtain ⟨q4, c5, H⟩ := H
    replace H := oi H; obtain ⟨c6, H⟩ | ⟨c6, H⟩ := H
    · replace H := oi H; obtain ⟨c7, H⟩ | ⟨c7, H⟩ := H
      · replace H := oi H; obtain ⟨c8, H⟩ | ⟨c8, H⟩ := H
        · replace H := ob H; obtain ⟨q10, c12, H⟩ := H
          replace H := og H; obtain ⟨g13, H⟩ := H
          replace H := og H; obtain ⟨g14, H⟩ := H
          replace H := og H; obtain ⟨g15, H⟩ := H
          replace H := og H; obtain ⟨g16, H⟩ := H
          replace H := ob H; obtain ⟨q23, c24, H⟩ := H
          have e25 := p_X12_sheet_77 1000 c24
          obtain rfl := Option.some.inj H
          exact ((((Pr.rf.sI).sI).sI).tr e25)
        · replace H := oi H; obtain ⟨c27, H⟩ | ⟨c27, H⟩ := H
          · replace H := ob H; obtain ⟨q29, c31, H⟩ := H
            replace H := og H; obtain ⟨g32, H⟩ := H
            replace H := og H; obtain ⟨g33, H⟩ := H
            replace H := og H; obtain ⟨g34, H⟩ := H
            replace H := og H; obtain ⟨g35, H⟩ := H
            replace H := ob H; obtain ⟨q36, c37, H⟩ := H
            have e38 := p_X12_sheet_77 1000 c37
            obtain rfl := Option.some.inj H
            exact ((((Pr.rf.sI).sI).sI).tr e38)
          · obtain rfl := Option.some.inj H
            exact Pr.rf
      · replace H := oi H; obtain ⟨c40, H⟩ | ⟨c40, H⟩ := H
        · replace H := oi H; obtain ⟨c41, H⟩ | ⟨c41, H⟩ := H
          · replace H := ob H; obtain ⟨q43, c45, H⟩ := H
            replace H := og H; obtain ⟨g46, H⟩ := H
            replace H := og H; obtain ⟨g47, H⟩ := H
            replace H := og H; obtain ⟨g48, H⟩ := H
            replace H := og H; obtain ⟨g49, H⟩ := H
            replace H := ob H; obtain ⟨q50, c51, H⟩ := H
            have e52 := p_X12_sheet_77 1000 c51
            obtain rfl := Option.some.inj H
            exact ((((Pr.rf.sI).sI).sI).tr e52)
          · replace H := oi H; obtain ⟨c54, H⟩ | ⟨c54, H⟩ := H
            · replace H := ob H; obtain ⟨q56, c58, H⟩ := H
              replace H := og H; obtain ⟨g59, H⟩ := H
              replace H := og H; obtain ⟨g60, H⟩ := H
              replace H := og H; obtain ⟨g61, H⟩ := H
              replace H := og H; obtain ⟨g62, H⟩ := H
              replace H := ob H; obtain ⟨q63, c64, H⟩ := H
              have e65 := p_X12_sheet_77 1000 c64
              obtain rfl := Option.some.inj H
              exact ((((Pr.rf.sI).sI).sI).tr e65)
            · obtain rfl := Option.some.inj H
              exact Pr.rf
        · obtain rfl := Option.some.inj H
          exact Pr.rf
    · obtain rfl := Option.some.inj H
      exact Pr.rf
  · obtain rfl := Option.some.inj H
    exact Pr.rf
set_option maxHeartbeats 4000000 in
set_option maxRecDepth 20000 in
theorem t_X12_sheet {G : GE} (d : Nat) {p1 : Int32} {p2 : Int32} {p3 : Int32} {h : HS} {q : (Int32 × HS)} (hY : LY TM h) (H : f_X12_sheet p1 p2 p3 h = some q) : CE G (d + 2) yX12_sheet miX12_sheet [.ref 60, .int p1, .int p2, .int p3] h (some (.int q.1)) (q.2) := by
  unfold f_X12_sheet at H
  refine ce_of rfl (by decide) (fun q => by first | rfl | cases q) (Nat.le_of_ble_eq_true rfl) rfl ?_
  refine e_iload_n dX12_sheet_0 rfl ?_
  replace H := ob H; obtain ⟨q1, c2, H⟩ := H
  refine s1 lmX12_444 lsX12_isSheet msX12_isSheet dX12_sheet_1 (t_X12_isSheet (d + 0) c2) rfl (Nat.le_of_ble_eq_true rfl) (Nat.le_refl _) ?_
  refine e_ifB_eq (tgt := 31) dX12_sheet_4 (by decide) (fun c3 => ?_) (fun c3 => ?_)
  · replace H := of_ (nb c3) H
    refine e_bipush (v := (-2 : Int32)) dX12_sheet_31 (by decide) ?_
    obtain rfl := Option.some.inj H
    exact z_iret rfl rfl dX12_sheet_33 rfl rfl
  · replace H := ot c3 H
    refine e_iload_n dX12_sheet_7 rfl ?_
    refine e_i2l dX12_sheet_8 ?_
    refine e_ldc2 (v := (-1 : Int64)) lkX12_275 dX12_sheet_9 ?_
    refine e_ldc2 (v := (2 : Int64)) lkX12_213 dX12_sheet_12 ?_
    replace H := ob H; obtain ⟨q4, c5, H⟩ := H
    refine s1 lmX12_125 lsX12_in msX12_in dX12_sheet_15 (t_X12_in (d + 1) c5) rfl (Nat.le_of_ble_eq_true rfl) (Nat.le_refl _) ?_
    refine e_ifB_eq (tgt := 31) dX12_sheet_18 (by decide) (fun c6 => ?_) (fun c6 => ?_)
    · replace H := of_ (nb c6) H
      refine e_bipush (v := (-2 : Int32)) dX12_sheet_31 (by decide) ?_
      obtain rfl := Option.some.inj H
      exact z_iret rfl rfl dX12_sheet_33 rfl rfl
    · replace H := ot c6 H
      refine e_iload_n dX12_sheet_21 rfl ?_
      refine e_if_lt (tgt := 34) dX12_sheet_22 (by decide) (fun c7 => ?_) (fun c7 => ?_)
      · replace H := ot c7 H
        refine e_iload_n dX12_sheet_34 rfl ?_
        refine e_if_lt (tgt := 45) dX12_sheet_35 (by decide) (fun c8 => ?_) (fun c8 => ?_)
        · replace H := ot c8 H
          refine g_aload_n dX12_sheet_45 rfl rfl ?_
          refine e_getR (hY.t 0 rfl) flX12_86_13 dX12_sheet_46 rfl (hY.r 24 rfl) ?_
          refine e_iload_n dX12_sheet_49 rfl ?_
          refine e_iload_n dX12_sheet_50 rfl ?_
          replace H := ob H; obtain ⟨q10, c12, H⟩ := H
          have k11 : En G (d + 2) miX12_sheet 59 [.ref 60, .int p1, .int p2, .int p3, dum] [.int q10, .int p1, .ref 85] h (some (.int q.1)) (q.2) := by
            replace H := og H; obtain ⟨g13, H⟩ := H
            replace H := og H; obtain ⟨g14, H⟩ := H
            refine e_zast (hY.t 25 rfl) (ixb_y (hY.n 25 rfl) g13) (z01_t g14) dX12_sheet_59 ?_
            refine g_aload_n dX12_sheet_60 rfl rfl ?_
            refine e_getR ((hY.sI).t 0 rfl) flX12_90_13 dX12_sheet_61 rfl ((hY.sI).r 25 rfl) ?_
            refine e_iload_n dX12_sheet_64 rfl ?_
            refine e_iload_n dX12_sheet_65 rfl ?_
            replace H := og H; obtain ⟨g15, H⟩ := H
            refine e_iast ((hY.sI).t 26 rfl) (ixb_y ((hY.sI).n 26 rfl) g15) dX12_sheet_66 ?_
            refine g_aload_n dX12_sheet_67 rfl rfl ?_
            refine e_getR (((hY.sI).sI).t 0 rfl) flX12_93_13 dX12_sheet_68 rfl (((hY.sI).sI).r 26 rfl) ?_
            refine e_iload_n dX12_sheet_71 rfl ?_
            refine e_iload_n dX12_sheet_72 rfl ?_
            replace H := og H; obtain ⟨g16, H⟩ := H
            refine e_iast (((hY.sI).sI).t 27 rfl) (ixb_y (((hY.sI).sI).n 27 rfl) g16) dX12_sheet_73 ?_
            refine e_iconst (v := (0 : Int32)) dX12_sheet_74 (by decide) ?_
            refine e_istore dX12_sheet_75 (Nat.le_of_ble_eq_true rfl) rfl rfl ?_
            replace H := ob H; obtain ⟨q23, c24, H⟩ := H
            have e25 := p_X12_sheet_77 1000 c24
            have hY26 := (((hY.sI).sI).sI).pr okM e25
            refine e_wk (lk1 (lk1 (lk1 (lk1 (lk1 lkn))))) (w_X12_sheet_77 d 1000 (((hY.sI).sI).sI) c24 ?_)
            refine e_iconst (v := (1 : Int32)) dX12_sheet_106 (by decide) ?_
            obtain rfl := Option.some.inj H
            exact z_iret rfl rfl dX12_sheet_107 rfl rfl
          replace H := c12
          refine e_if_lt (tgt := 58) dX12_sheet_51 (by decide) (fun c9 => ?_) (fun c9 => ?_)
          · replace H := ot c9 H
            refine e_iconst (v := (0 : Int32)) dX12_sheet_58 (by decide) ?_
            obtain rfl := Option.some.inj H
            exact e_wk (lk1 (lk1 (lk1 (lk1 (lk1 lkn))))) k11
          · replace H := of_ c9 H
            refine e_iconst (v := (1 : Int32)) dX12_sheet_54 (by decide) ?_
            refine e_goto (tgt := 59) dX12_sheet_55 (by decide) ?_
            obtain rfl := Option.some.inj H
            exact e_wk (lk1 (lk1 (lk1 (lk1 (lk1 lkn))))) k11
        · replace H := of_ c8 H
          refine e_iload_n dX12_sheet_38 rfl ?_
          refine e_if_ge (tgt := 45) dX12_sheet_39 (by decide) (fun c27 => ?_) (fun c27 => ?_)
          · replace H := ot c27 H
            refine g_aload_n dX12_sheet_45 rfl rfl ?_
            refine e_getR (hY.t 0 rfl) flX12_86_13 dX12_sheet_46 rfl (hY.r 24 rfl) ?_
            refine e_iload_n dX12_sheet_49 rfl ?_
            refine e_iload_n dX12_sheet_50 rfl ?_
            replace H := ob H; obtain ⟨q29, c31, H⟩ := H
            have k30 : En G (d + 2) miX12_sheet 59 [.ref 60, .int p1, .int p2, .int p3, dum] [.int q29, .int p1, .ref 85] h (some (.int q.1)) (q.2) := by
              replace H := og H; obtain ⟨g32, H⟩ := H
              replace H := og H; obtain ⟨g33, H⟩ := H
              refine e_zast (hY.t 25 rfl) (ixb_y (hY.n 25 rfl) g32) (z01_t g33) dX12_sheet_59 ?_
              refine g_aload_n dX12_sheet_60 rfl rfl ?_
              refine e_getR ((hY.sI).t 0 rfl) flX12_90_13 dX12_sheet_61 rfl ((hY.sI).r 25 rfl) ?_
              refine e_iload_n dX12_sheet_64 rfl ?_
              refine e_iload_n dX12_sheet_65 rfl ?_
              replace H := og H; obtain ⟨g34, H⟩ := H
              refine e_iast ((hY.sI).t 26 rfl) (ixb_y ((hY.sI).n 26 rfl) g34) dX12_sheet_66 ?_
              refine g_aload_n dX12_sheet_67 rfl rfl ?_
              refine e_getR (((hY.sI).sI).t 0 rfl) flX12_93_13 dX12_sheet_68 rfl (((hY.sI).sI).r 26 rfl) ?_
              refine e_iload_n dX12_sheet_71 rfl ?_
              refine e_iload_n dX12_sheet_72 rfl ?_
              replace H := og H; obtain ⟨g35, H⟩ := H
              refine e_iast (((hY.sI).sI).t 27 rfl) (ixb_y (((hY.sI).sI).n 27 rfl) g35) dX12_sheet_73 ?_
              refine e_iconst (v := (0 : Int32)) dX12_sheet_74 (by decide) ?_
              refine e_istore dX12_sheet_75 (Nat.le_of_ble_eq_true rfl) rfl rfl ?_
              replace H := ob H; obtain ⟨q36, c37, H⟩ := H
              have e38 := p_X12_sheet_77 1000 c37
              have hY39 := (((hY.sI).sI).sI).pr okM e38
              refine e_wk (lk1 (lk1 (lk1 (lk1 (lk1 lkn))))) (w_X12_sheet_77 d 1000 (((hY.sI).sI).sI) c37 ?_)
              refine e_iconst (v := (1 : Int32)) dX12_sheet_106 (by decide) ?_
              obtain rfl := Option.some.inj H
              exact z_iret rfl rfl dX12_sheet_107 rfl rfl
            replace H := c31
            refine e_if_lt (tgt := 58) dX12_sheet_51 (by decide) (fun c28 => ?_) (fun c28 => ?_)
            · replace H := ot c28 H
              refine e_iconst (v := (0 : Int32)) dX12_sheet_58 (by decide) ?_
              obtain rfl := Option.some.inj H
              exact e_wk (lk1 (lk1 (lk1 (lk1 (lk1 lkn))))) k30
            · replace H := of_ c28 H
              refine e_iconst (v := (1 : Int32)) dX12_sheet_54 (by decide) ?_
              refine e_goto (tgt := 59) dX12_sheet_55 (by decide) ?_
              obtain rfl := Option.some.inj H
              exact e_wk (lk1 (lk1 (lk1 (lk1 (lk1 lkn))))) k30
          · replace H := of_ c27 H
            refine e_bipush (v := (-14 : Int32)) dX12_sheet_42 (by decide) ?_
            obtain rfl := Option.some.inj H
            exact z_iret rfl rfl dX12_sheet_44 rfl rfl
      · replace H := of_ c7 H
        refine e_iload_n dX12_sheet_25 rfl ?_
        refine e_bipush (v := (40 : Int32)) dX12_sheet_26 (by decide) ?_
        refine e_icmp_le (tgt := 34) dX12_sheet_28 (by decide) (fun c40 => ?_) (fun c40 => ?_)
        · replace H := ot c40 H
          refine e_iload_n dX12_sheet_34 rfl ?_
          refine e_if_lt (tgt := 45) dX12_sheet_35 (by decide) (fun c41 => ?_) (fun c41 => ?_)
          · replace H := ot c41 H
            refine g_aload_n dX12_sheet_45 rfl rfl ?_
            refine e_getR (hY.t 0 rfl) flX12_86_13 dX12_sheet_46 rfl (hY.r 24 rfl) ?_
            refine e_iload_n dX12_sheet_49 rfl ?_
            refine e_iload_n dX12_sheet_50 rfl ?_
            replace H := ob H; obtain ⟨q43, c45, H⟩ := H
            have k44 : En G (d + 2) miX12_sheet 59 [.ref 60, .int p1, .int p2, .int p3, dum] [.int q43, .int p1, .ref 85] h (some (.int q.1)) (q.2) := by
              replace H := og H; obtain ⟨g46, H⟩ := H
              replace H := og H; obtain ⟨g47, H⟩ := H
              refine e_zast (hY.t 25 rfl) (ixb_y (hY.n 25 rfl) g46) (z01_t g47) dX12_sheet_59 ?_
              refine g_aload_n dX12_sheet_60 rfl rfl ?_
              refine e_getR ((hY.sI).t 0 rfl) flX12_90_13 dX12_sheet_61 rfl ((hY.sI).r 25 rfl) ?_
              refine e_iload_n dX12_sheet_64 rfl ?_
              refine e_iload_n dX12_sheet_65 rfl ?_
              replace H := og H; obtain ⟨g48, H⟩ := H
              refine e_iast ((hY.sI).t 26 rfl) (ixb_y ((hY.sI).n 26 rfl) g48) dX12_sheet_66 ?_
              refine g_aload_n dX12_sheet_67 rfl rfl ?_
              refine e_getR (((hY.sI).sI).t 0 rfl) flX12_93_13 dX12_sheet_68 rfl (((hY.sI).sI).r 26 rfl) ?_
              refine e_iload_n dX12_sheet_71 rfl ?_
              refine e_iload_n dX12_sheet_72 rfl ?_
              replace H := og H; obtain ⟨g49, H⟩ := H
              refine e_iast (((hY.sI).sI).t 27 rfl) (ixb_y (((hY.sI).sI).n 27 rfl) g49) dX12_sheet_73 ?_
              refine e_iconst (v := (0 : Int32)) dX12_sheet_74 (by decide) ?_
              refine e_istore dX12_sheet_75 (Nat.le_of_ble_eq_true rfl) rfl rfl ?_
              replace H := ob H; obtain ⟨q50, c51, H⟩ := H
              have e52 := p_X12_sheet_77 1000 c51
              have hY53 := (((hY.sI).sI).sI).pr okM e52
              refine e_wk (lk1 (lk1 (lk1 (lk1 (lk1 lkn))))) (w_X12_sheet_77 d 1000 (((hY.sI).sI).sI) c51 ?_)
              refine e_iconst (v := (1 : Int32)) dX12_sheet_106 (by decide) ?_
              obtain rfl := Option.some.inj H
              exact z_iret rfl rfl dX12_sheet_107 rfl rfl
            replace H := c45
            refine e_if_lt (tgt := 58) dX12_sheet_51 (by decide) (fun c42 => ?_) (fun c42 => ?_)
            · replace H := ot c42 H
              refine e_iconst (v := (0 : Int32)) dX12_sheet_58 (by decide) ?_
              obtain rfl := Option.some.inj H
              exact e_wk (lk1 (lk1 (lk1 (lk1 (lk1 lkn))))) k44
            · replace H := of_ c42 H
              refine e_iconst (v := (1 : Int32)) dX12_sheet_54 (by decide) ?_
              refine e_goto (tgt := 59) dX12_sheet_55 (by decide) ?_
              obtain rfl := Option.some.inj H
              exact e_wk (lk1 (lk1 (lk1 (lk1 (lk1 lkn))))) k44
          · replace H := of_ c41 H
            refine e_iload_n dX12_sheet_38 rfl ?_
            refine e_if_ge (tgt := 45) dX12_sheet_39 (by decide) (fun c54 => ?_) (fun c54 => ?_)
            · replace H := ot c54 H
              refine g_aload_n dX12_sheet_45 rfl rfl ?_
              refine e_getR (hY.t 0 rfl) flX12_86_13 dX12_sheet_46 rfl (hY.r 24 rfl) ?_
              refine e_iload_n dX12_sheet_49 rfl ?_
              refine e_iload_n dX12_sheet_50 rfl ?_
              replace H := ob H; obtain ⟨q56, c58, H⟩ := H
              have k57 : En G (d + 2) miX12_sheet 59 [.ref 60, .int p1, .int p2, .int p3, dum] [.int q56, .int p1, .ref 85] h (some (.int q.1)) (q.2) := by
                replace H := og H; obtain ⟨g59, H⟩ := H
                replace H := og H; obtain ⟨g60, H⟩ := H
                refine e_zast (hY.t 25 rfl) (ixb_y (hY.n 25 rfl) g59) (z01_t g60) dX12_sheet_59 ?_
                refine g_aload_n dX12_sheet_60 rfl rfl ?_
                refine e_getR ((hY.sI).t 0 rfl) flX12_90_13 dX12_sheet_61 rfl ((hY.sI).r 25 rfl) ?_
                refine e_iload_n dX12_sheet_64 rfl ?_
                refine e_iload_n dX12_sheet_65 rfl ?_
                replace H := og H; obtain ⟨g61, H⟩ := H
                refine e_iast ((hY.sI).t 26 rfl) (ixb_y ((hY.sI).n 26 rfl) g61) dX12_sheet_66 ?_
                refine g_aload_n dX12_sheet_67 rfl rfl ?_
                refine e_getR (((hY.sI).sI).t 0 rfl) flX12_93_13 dX12_sheet_68 rfl (((hY.sI).sI).r 26 rfl) ?_
                refine e_iload_n dX12_sheet_71 rfl ?_
                refine e_iload_n dX12_sheet_72 rfl ?_
                replace H := og H; obtain ⟨g62, H⟩ := H
                refine e_iast (((hY.sI).sI).t 27 rfl) (ixb_y (((hY.sI).sI).n 27 rfl) g62) dX12_sheet_73 ?_
                refine e_iconst (v := (0 : Int32)) dX12_sheet_74 (by decide) ?_
                refine e_istore dX12_sheet_75 (Nat.le_of_ble_eq_true rfl) rfl rfl ?_
                replace H := ob H; obtain ⟨q63, c64, H⟩ := H
                have e65 := p_X12_sheet_77 1000 c64
                have hY66 := (((hY.sI).sI).sI).pr okM e65
                refine e_wk (lk1 (lk1 (lk1 (lk1 (lk1 lkn))))) (w_X12_sheet_77 d 1000 (((hY.sI).sI).sI) c64 ?_)
                refine e_iconst (v := (1 : Int32)) dX12_sheet_106 (by decide) ?_
                obtain rfl := Option.some.inj H
                exact z_iret rfl rfl dX12_sheet_107 rfl rfl
              replace H := c58
              refine e_if_lt (tgt := 58) dX12_sheet_51 (by decide) (fun c55 => ?_) (fun c55 => ?_)
              · replace H := ot c55 H
                refine e_iconst (v := (0 : Int32)) dX12_sheet_58 (by decide) ?_
                obtain rfl := Option.some.inj H
                exact e_wk (lk1 (lk1 (lk1 (lk1 (lk1 lkn))))) k57
              · replace H := of_ c55 H
                refine e_iconst (v := (1 : Int32)) dX12_sheet_54 (by decide) ?_
                refine e_goto (tgt := 59) dX12_sheet_55 (by decide) ?_
                obtain rfl := Option.some.inj H
                exact e_wk (lk1 (lk1 (lk1 (lk1 (lk1 lkn))))) k57
            · replace H := of_ c54 H
              refine e_bipush (v := (-14 : Int32)) dX12_sheet_42 (by decide) ?_
              obtain rfl := Option.some.inj H
              exact z_iret rfl rfl dX12_sheet_44 rfl rfl
        · replace H := of_ c40 H
          refine e_bipush (v := (-2 : Int32)) dX12_sheet_31 (by decide) ?_
          obtain rfl := Option.some.inj H
          exact z_iret rfl rfl dX12_sheet_33 rfl rfl
-- X12_cell
def f_X12_cell (p1 : Int32) (p2 : Int32) (p3 : Int32) (h : HS) : Option (Int32 × HS) := (Option.bind (f_X12_isSheet p1) (fun q1 => (if q1 = true then (if ixb p1 4 = true then (if (hI h 85 p1.toNatClampNeg) = 0 then (some ((-11 : Int32), h)) else (if ixb p1 4 = true then (Option.bind (f_X12_in p2.toInt64 (0 : Int64) ((hI h 87 p1.toNatClampNeg) - (1 : Int32)).toInt64) (fun q7 => (if q7 = true then (if ixb p1 4 = true then (if (hI h 86 p1.toNatClampNeg) = 0 then (if ixb (((40 : Int32) * p1) + p2) 160 = true then (some ((1 : Int32), (sI h 88 (((40 : Int32) * p1) + p2).toNatClampNeg p3.toInt8.toInt32))) else none) else (if ixb p1 4 = true then (if (hI h 86 p1.toNatClampNeg) = (1 : Int32) then (if ixb (((40 : Int32) * p1) + p2) 160 = true then (some ((1 : Int32), (sI h 88 (((40 : Int32) * p1) + p2).toNatClampNeg p3.toInt16.toInt32))) else none) else (if ixb (((40 : Int32) * p1) + p2) 160 = true then (some ((1 : Int32), (sI h 88 (((40 : Int32) * p1) + p2).toNatClampNeg p3))) else none)) else none)) else none) else (some ((-12 : Int32), h))))) else none)) else none) else (some ((-2 : Int32), h)))))
set_option maxHeartbeats 4000000 in
set_option maxRecDepth 20000 in
theorem p_X12_cell {p1 : Int32} {p2 : Int32} {p3 : Int32} {h : HS} {q : (Int32 × HS)} (H : f_X12_cell p1 p2 p3 h = some q) : Pr h q.2 := by
  unfold f_X12_cell at H
  replace H := ob H; obtain ⟨q1, c2, H⟩ := H
  replace H := oi H; obtain ⟨c3, H⟩ | ⟨c3, H⟩ := H
  · replace H := og H; obtain ⟨g4, H⟩ := H
    replace H := oi H; obtain ⟨c5, H⟩ | ⟨c5, H⟩ := H
    · obtain rfl := Option.some.inj H
      exact Pr.rf
    · replace H := og H; obtain ⟨g6, H⟩ := H
      replace H := ob H; obtain ⟨q7, c8, H⟩ := H
      replace H := oi H; obtain ⟨c9, H⟩ | ⟨c9, H⟩ := H
      · replace H := og H; obtain ⟨g10, H⟩ := H
        replace H := oi H; obtain ⟨c11, H⟩ | ⟨c11, H⟩ := H
        · replace H := og H; obtain ⟨g16, H⟩ := H
          obtain rfl := Option.some.inj H
          exact (Pr.rf.sI)
        · replace H := og H; obtain ⟨g12, H⟩ := H
          replace H := oi H; obtain ⟨c13, H⟩ | ⟨c13, H⟩ := H
          · replace H := og H; obtain ⟨g15, H⟩ := H
            obtain rfl := Option.some.inj H
            exact (Pr.rf.sI)
          · replace H := og H; obtain ⟨g14, H⟩ := H
            obtain rfl := Option.some.inj H
            exact (Pr.rf.sI)
      · obtain rfl := Option.some.inj H
        exact Pr.rf
  · obtain rfl := Option.some.inj H
    exact Pr.rf
set_option maxHeartbeats 4000000 in
set_option maxRecDepth 20000 in
theorem t_X12_cell {G : GE} (d : Nat) {p1 : Int32} {p2 : Int32} {p3 : Int32} {h : HS} {q : (Int32 × HS)} (hY : LY TM h) (H : f_X12_cell p1 p2 p3 h = some q) : CE G (d + 2) yX12_cell miX12_cell [.ref 60, .int p1, .int p2, .int p3] h (some (.int q.1)) (q.2) := by
  unfold f_X12_cell at H
  refine ce_of rfl (by decide) (fun q => by first | rfl | cases q) (Nat.le_of_ble_eq_true rfl) rfl ?_
  refine e_iload_n dX12_cell_0 rfl ?_
  replace H := ob H; obtain ⟨q1, c2, H⟩ := H
  refine s1 lmX12_444 lsX12_isSheet msX12_isSheet dX12_cell_1 (t_X12_isSheet (d + 0) c2) rfl (Nat.le_of_ble_eq_true rfl) (Nat.le_refl _) ?_
  refine e_ifB_ne (tgt := 10) dX12_cell_4 (by decide) (fun c3 => ?_) (fun c3 => ?_)
  · replace H := ot c3 H
    refine g_aload_n dX12_cell_10 rfl rfl ?_
    refine e_getR (hY.t 0 rfl) flX12_86_13 dX12_cell_11 rfl (hY.r 24 rfl) ?_
    refine e_iload_n dX12_cell_14 rfl ?_
    replace H := og H; obtain ⟨g4, H⟩ := H
    refine e_zald (hY.t 25 rfl) (ixb_y (hY.n 25 rfl) g4) dX12_cell_15 ?_
    refine e_if_ne (tgt := 22) dX12_cell_16 (by decide) (fun c5 => ?_) (fun c5 => ?_)
    · replace H := of_ c5 H
      refine e_iload_n dX12_cell_22 rfl ?_
      refine e_i2l dX12_cell_23 ?_
      refine e_lconst (v := (0 : Int64)) dX12_cell_24 (by decide) ?_
      refine g_aload_n dX12_cell_25 rfl rfl ?_
      refine e_getR (hY.t 0 rfl) flX12_93_13 dX12_cell_26 rfl (hY.r 26 rfl) ?_
      refine e_iload_n dX12_cell_29 rfl ?_
      replace H := og H; obtain ⟨g6, H⟩ := H
      refine e_iald (hY.t 27 rfl) (ixb_y (hY.n 27 rfl) g6) dX12_cell_30 ?_
      refine e_iconst (v := (1 : Int32)) dX12_cell_31 (by decide) ?_
      refine e_isub dX12_cell_32 ?_
      refine e_i2l dX12_cell_33 ?_
      replace H := ob H; obtain ⟨q7, c8, H⟩ := H
      refine s1 lmX12_125 lsX12_in msX12_in dX12_cell_34 (t_X12_in (d + 1) c8) rfl (Nat.le_of_ble_eq_true rfl) (Nat.le_refl _) ?_
      refine e_ifB_ne (tgt := 43) dX12_cell_37 (by decide) (fun c9 => ?_) (fun c9 => ?_)
      · replace H := ot c9 H
        refine g_aload_n dX12_cell_43 rfl rfl ?_
        refine e_getR (hY.t 0 rfl) flX12_96_13 dX12_cell_44 rfl (hY.r 27 rfl) ?_
        refine e_bipush (v := (40 : Int32)) dX12_cell_47 (by decide) ?_
        refine e_iload_n dX12_cell_49 rfl ?_
        refine e_imul dX12_cell_50 ?_
        refine e_iload_n dX12_cell_51 rfl ?_
        refine e_iadd dX12_cell_52 ?_
        refine g_aload_n dX12_cell_53 rfl rfl ?_
        refine e_getR (hY.t 0 rfl) flX12_90_13 dX12_cell_54 rfl (hY.r 25 rfl) ?_
        refine e_iload_n dX12_cell_57 rfl ?_
        replace H := og H; obtain ⟨g10, H⟩ := H
        refine e_iald (hY.t 26 rfl) (ixb_y (hY.n 26 rfl) g10) dX12_cell_58 ?_
        refine e_if_ne (tgt := 67) dX12_cell_59 (by decide) (fun c11 => ?_) (fun c11 => ?_)
        · replace H := of_ c11 H
          refine g_aload_n dX12_cell_67 rfl rfl ?_
          refine e_getR (hY.t 0 rfl) flX12_90_13 dX12_cell_68 rfl (hY.r 25 rfl) ?_
          refine e_iload_n dX12_cell_71 rfl ?_
          replace H := og H; obtain ⟨g12, H⟩ := H
          refine e_iald (hY.t 26 rfl) (ixb_y (hY.n 26 rfl) g12) dX12_cell_72 ?_
          refine e_iconst (v := (1 : Int32)) dX12_cell_73 (by decide) ?_
          refine e_icmp_ne (tgt := 82) dX12_cell_74 (by decide) (fun c13 => ?_) (fun c13 => ?_)
          · replace H := of_ c13 H
            refine e_iload_n dX12_cell_82 rfl ?_
            replace H := og H; obtain ⟨g14, H⟩ := H
            refine e_iast (hY.t 28 rfl) (ixb_y (hY.n 28 rfl) g14) dX12_cell_83 ?_
            refine e_iconst (v := (1 : Int32)) dX12_cell_84 (by decide) ?_
            obtain rfl := Option.some.inj H
            exact z_iret rfl rfl dX12_cell_85 rfl rfl
          · replace H := ot c13 H
            refine e_iload_n dX12_cell_77 rfl ?_
            refine e_i2s dX12_cell_78 ?_
            refine e_goto (tgt := 83) dX12_cell_79 (by decide) ?_
            replace H := og H; obtain ⟨g15, H⟩ := H
            refine e_iast (hY.t 28 rfl) (ixb_y (hY.n 28 rfl) g15) dX12_cell_83 ?_
            refine e_iconst (v := (1 : Int32)) dX12_cell_84 (by decide) ?_
            obtain rfl := Option.some.inj H
            exact z_iret rfl rfl dX12_cell_85 rfl rfl
        · replace H := ot c11 H
          refine e_iload_n dX12_cell_62 rfl ?_
          refine e_i2b dX12_cell_63 ?_
          refine e_goto (tgt := 83) dX12_cell_64 (by decide) ?_
          replace H := og H; obtain ⟨g16, H⟩ := H
          refine e_iast (hY.t 28 rfl) (ixb_y (hY.n 28 rfl) g16) dX12_cell_83 ?_
          refine e_iconst (v := (1 : Int32)) dX12_cell_84 (by decide) ?_
          obtain rfl := Option.some.inj H
          exact z_iret rfl rfl dX12_cell_85 rfl rfl
      · replace H := of_ (nb c9) H
        refine e_bipush (v := (-12 : Int32)) dX12_cell_40 (by decide) ?_
        obtain rfl := Option.some.inj H
        exact z_iret rfl rfl dX12_cell_42 rfl rfl
    · replace H := ot c5 H
      refine e_bipush (v := (-11 : Int32)) dX12_cell_19 (by decide) ?_
      obtain rfl := Option.some.inj H
      exact z_iret rfl rfl dX12_cell_21 rfl rfl
  · replace H := of_ (nb c3) H
    refine e_bipush (v := (-2 : Int32)) dX12_cell_7 (by decide) ?_
    obtain rfl := Option.some.inj H
    exact z_iret rfl rfl dX12_cell_9 rfl rfl
-- X12_copy
def l_X12_copy_121 (y1 : Int32) (y2 : Int32) (y3 : Int32) (y4 : Int32) (y5 : Int32) (y6 : Int32)  : Nat → Int32 → HS → Option HS
  | 0, _, _ => none
  | n + 1, x7, h => (if y5 ≤ x7 then (some h) else (Option.bind (if y6 = 0 then (some x7) else (some ((y5 - (1 : Int32)) - x7))) (fun q31 => (if ixb ((((40 : Int32) * y1) + y2) + q31) 160 = true then (if ixb ((((40 : Int32) * y3) + y4) + q31) 160 = true then (l_X12_copy_121 y1 y2 y3 y4 y5 y6 n (x7 + (1 : Int32)) (sI h 88 ((((40 : Int32) * y3) + y4) + q31).toNatClampNeg (hI h 88 ((((40 : Int32) * y1) + y2) + q31).toNatClampNeg))) else none) else none))))
set_option maxHeartbeats 4000000 in
set_option maxRecDepth 20000 in
theorem p_X12_copy_121 {y1 : Int32} {y2 : Int32} {y3 : Int32} {y4 : Int32} {y5 : Int32} {y6 : Int32} : ∀ (n : Nat) {x7 : Int32} {h : HS} {q : HS}, l_X12_copy_121 y1 y2 y3 y4 y5 y6 n x7 h = some q → Pr h q := by
  intro n
  induction n with
  | zero => intro x7 h q H; exact nz H
  | succ n ih =>
    intro x7 h q H
    unfold l_X12_copy_121 at H
    replace H := oi H; obtain ⟨c29, H⟩ | ⟨c29, H⟩ := H
    · obtain rfl := Option.some.inj H
      exact Pr.rf
    · replace H := ob H; obtain ⟨q31, c33, H⟩ := H
      replace H := og H; obtain ⟨g34, H⟩ := H
      replace H := og H; obtain ⟨g35, H⟩ := H
      exact (Pr.rf.sI).tr (ih H)
set_option maxHeartbeats 4000000 in
set_option maxRecDepth 20000 in
theorem w_X12_copy_121 {G : GE} (d : Nat) {y1 : Int32} {y2 : Int32} {y3 : Int32} {y4 : Int32} {y5 : Int32} {y6 : Int32} {r : Option Value} {h' : HS}  : ∀ (n : Nat) {x7 : Int32} {h : HS} {q : HS}, LY TM h → l_X12_copy_121 y1 y2 y3 y4 y5 y6 n x7 h = some q → En G (d + 2) miX12_copy 182 [dum, dum, dum, dum, dum, .int y5, dum, dum, dum] [] q r h' → En G (d + 2) miX12_copy 121 [.ref 60, .int y1, .int y2, .int y3, .int y4, .int y5, .int y6, .int x7, dum] [] h r h' := by
  intro n
  induction n with
  | zero => intro x7 h q hYTM H kE; exact nz H
  | succ n ih =>
    intro x7 h q hYTM H kE
    unfold l_X12_copy_121 at H
    refine e_iload dX12_copy_121 rfl ?_
    refine e_iload dX12_copy_123 rfl ?_
    refine e_icmp_ge (tgt := 182) dX12_copy_125 (by decide) (fun c29 => ?_) (fun c29 => ?_)
    · replace H := ot c29 H
      obtain rfl := Option.some.inj H
      exact e_wk (lk0 (lk0 (lk0 (lk0 (lk0 (lk1 (lk0 (lk0 (lk1 lkn))))))))) kE
    · replace H := of_ c29 H
      refine e_iload dX12_copy_128 rfl ?_
      replace H := ob H; obtain ⟨q31, c33, H⟩ := H
      have k32 : En G (d + 2) miX12_copy 145 [.ref 60, .int y1, .int y2, .int y3, .int y4, .int y5, .int y6, .int x7, dum] [.int q31] h r h' := by
        refine e_istore dX12_copy_145 (Nat.le_of_ble_eq_true rfl) rfl rfl ?_
        refine g_aload_n dX12_copy_147 rfl rfl ?_
        refine e_getR (hYTM.t 0 rfl) flX12_96_13 dX12_copy_148 rfl (hYTM.r 27 rfl) ?_
        refine e_bipush (v := (40 : Int32)) dX12_copy_151 (by decide) ?_
        refine e_iload_n dX12_copy_153 rfl ?_
        refine e_imul dX12_copy_154 ?_
        refine e_iload dX12_copy_155 rfl ?_
        refine e_iadd dX12_copy_157 ?_
        refine e_iload dX12_copy_158 rfl ?_
        refine e_iadd dX12_copy_160 ?_
        refine g_aload_n dX12_copy_161 rfl rfl ?_
        refine e_getR (hYTM.t 0 rfl) flX12_96_13 dX12_copy_162 rfl (hYTM.r 27 rfl) ?_
        refine e_bipush (v := (40 : Int32)) dX12_copy_165 (by decide) ?_
        refine e_iload_n dX12_copy_167 rfl ?_
        refine e_imul dX12_copy_168 ?_
        refine e_iload_n dX12_copy_169 rfl ?_
        refine e_iadd dX12_copy_170 ?_
        refine e_iload dX12_copy_171 rfl ?_
        refine e_iadd dX12_copy_173 ?_
        replace H := og H; obtain ⟨g34, H⟩ := H
        refine e_iald (hYTM.t 28 rfl) (ixb_y (hYTM.n 28 rfl) g34) dX12_copy_174 ?_
        replace H := og H; obtain ⟨g35, H⟩ := H
        refine e_iast (hYTM.t 28 rfl) (ixb_y (hYTM.n 28 rfl) g35) dX12_copy_175 ?_
        refine e_iinc dX12_copy_176 rfl (ii_ (by decide : Int32.ofInt (1) = (1 : Int32))) (Nat.le_of_ble_eq_true rfl) rfl rfl ?_
        refine e_goto (tgt := 121) dX12_copy_179 (by decide) ?_
        exact e_wk (lk1 (lk1 (lk1 (lk1 (lk1 (lk1 (lk1 (lk1 (lk0 lkn))))))))) (ih (hYTM.sI) H kE)
      replace H := c33
      refine e_if_eq (tgt := 143) dX12_copy_130 (by decide) (fun c30 => ?_) (fun c30 => ?_)
      · replace H := ot c30 H
        refine e_iload dX12_copy_143 rfl ?_
        obtain rfl := Option.some.inj H
        exact e_wk (lk1 (lk1 (lk1 (lk1 (lk1 (lk1 (lk1 (lk1 (lk1 lkn))))))))) k32
      · replace H := of_ c30 H
        refine e_iload dX12_copy_133 rfl ?_
        refine e_iconst (v := (1 : Int32)) dX12_copy_135 (by decide) ?_
        refine e_isub dX12_copy_136 ?_
        refine e_iload dX12_copy_137 rfl ?_
        refine e_isub dX12_copy_139 ?_
        refine e_goto (tgt := 145) dX12_copy_140 (by decide) ?_
        obtain rfl := Option.some.inj H
        exact e_wk (lk1 (lk1 (lk1 (lk1 (lk1 (lk1 (lk1 (lk1 (lk1 lkn))))))))) k32
def f_X12_copy (p1 : Int32) (p2 : Int32) (p3 : Int32) (p4 : Int32) (p5 : Int32) (h : HS) : Option (Int32 × HS) := (Option.bind (f_X12_isSheet p1) (fun q1 => (if q1 = true then (Option.bind (f_X12_isSheet p3) (fun q4 => (if q4 = true then (if ixb p1 4 = true then (if (hI h 85 p1.toNatClampNeg) = 0 then (some ((-11 : Int32), h)) else (if ixb p3 4 = true then (if (hI h 85 p3.toNatClampNeg) = 0 then (some ((-11 : Int32), h)) else (if ixb p1 4 = true then (if ixb p3 4 = true then (if (hI h 86 p1.toNatClampNeg) = (hI h 86 p3.toNatClampNeg) then (if p5 < 0 then (some ((-12 : Int32), h)) else (if p2 < 0 then (some ((-12 : Int32), h)) else (if p4 < 0 then (some ((-12 : Int32), h)) else (if ixb p1 4 = true then (if ((hI h 87 p1.toNatClampNeg) - p5) < p2 then (some ((-12 : Int32), h)) else (if ixb p3 4 = true then (if p4 ≤ ((hI h 87 p3.toNatClampNeg) - p5) then (if p1 = p3 then (Option.bind (if p4 ≤ p2 then (some (0 : Int32)) else (some (1 : Int32))) (fun q41 => (Option.bind (l_X12_copy_121 p1 p2 p3 p4 p5 q41 1000 (0 : Int32) h) (fun q44 => (some (p5, q44)))))) else (Option.bind (l_X12_copy_121 p1 p2 p3 p4 p5 (0 : Int32) 1000 (0 : Int32) h) (fun q36 => (some (p5, q36))))) else (some ((-12 : Int32), h))) else none)) else none)))) else (some ((-13 : Int32), h))) else none) else none)) else none)) else none) else (some ((-2 : Int32), h))))) else (some ((-2 : Int32), h)))))
set_option maxHeartbeats 4000000 in
set_option maxRecDepth 20000 in
theorem p_X12_copy {p1 : Int32} {p2 : Int32} {p3 : Int32} {p4 : Int32} {p5 : Int32} {h : HS} {q : (Int32 × HS)} (H : f_X12_copy p1 p2 p3 p4 p5 h = some q) : Pr h q.2 := by
  unfold f_X12_copy at H
  replace H := ob H; obtain ⟨q1, c2, H⟩ := H
  replace H := oi H; obtain ⟨c3, H⟩ | ⟨c3, H⟩ := H
  · replace H := ob H; obtain ⟨q4, c5, H⟩ := H
    replace H := oi H; obtain ⟨c6, H⟩ | ⟨c6, H⟩ := H
    · replace H := og H; obtain ⟨g7, H⟩ := H
      replace H := oi H; obtain ⟨c8, H⟩ | ⟨c8, H⟩ := H
      · obtain rfl := Option.some.inj H
        exact Pr.rf
      · replace H := og H; obtain ⟨g9, H⟩ := H
        replace H := oi H; obtain ⟨c10, H⟩ | ⟨c10, H⟩ := H
        · obtain rfl := Option.some.inj H
          exact Pr.rf
        · replace H := og H; obtain ⟨g11, H⟩ := H
          replace H := og H; obtain ⟨g12, H⟩ := H
          replace H := oi H; obtain ⟨c13, H⟩ | ⟨c13, H⟩ := H
          · replace H := oi H; obtain ⟨c14, H⟩ | ⟨c14, H⟩ := H
            · obtain rfl := Option.some.inj H
              exact Pr.rf
            · replace H := oi H; obtain ⟨c15, H⟩ | ⟨c15, H⟩ := H
              · obtain rfl := Option.some.inj H
                exact Pr.rf
              · replace H := oi H; obtain ⟨c16, H⟩ | ⟨c16, H⟩ := H
                · obtain rfl := Option.some.inj H
                  exact Pr.rf
                · replace H := og H; obtain ⟨g17, H⟩ := H
                  replace H := oi H; obtain ⟨c18, H⟩ | ⟨c18, H⟩ := H
                  · obtain rfl := Option.some.inj H
                    exact Pr.rf
                  · replace H := og H; obtain ⟨g19, H⟩ := H
                    replace H := oi H; obtain ⟨c20, H⟩ | ⟨c20, H⟩ := H
                    · replace H := oi H; obtain ⟨c21, H⟩ | ⟨c21, H⟩ := H
                      · replace H := ob H; obtain ⟨q41, c43, H⟩ := H
                        replace H := ob H; obtain ⟨q44, c45, H⟩ := H
                        have e46 := p_X12_copy_121 1000 c45
                        obtain rfl := Option.some.inj H
                        exact e46
                      · replace H := ob H; obtain ⟨q36, c37, H⟩ := H
                        have e38 := p_X12_copy_121 1000 c37
                        obtain rfl := Option.some.inj H
                        exact e38
                    · obtain rfl := Option.some.inj H
                      exact Pr.rf
          · obtain rfl := Option.some.inj H
            exact Pr.rf
    · obtain rfl := Option.some.inj H
      exact Pr.rf
  · obtain rfl := Option.some.inj H
    exact Pr.rf
set_option maxHeartbeats 4000000 in
set_option maxRecDepth 20000 in
theorem t_X12_copy {G : GE} (d : Nat) {p1 : Int32} {p2 : Int32} {p3 : Int32} {p4 : Int32} {p5 : Int32} {h : HS} {q : (Int32 × HS)} (hY : LY TM h) (H : f_X12_copy p1 p2 p3 p4 p5 h = some q) : CE G (d + 2) yX12_copy miX12_copy [.ref 60, .int p1, .int p2, .int p3, .int p4, .int p5] h (some (.int q.1)) (q.2) := by
  unfold f_X12_copy at H
  refine ce_of rfl (by decide) (fun q => by first | rfl | cases q) (Nat.le_of_ble_eq_true rfl) rfl ?_
  refine e_iload_n dX12_copy_0 rfl ?_
  replace H := ob H; obtain ⟨q1, c2, H⟩ := H
  refine s1 lmX12_444 lsX12_isSheet msX12_isSheet dX12_copy_1 (t_X12_isSheet (d + 0) c2) rfl (Nat.le_of_ble_eq_true rfl) (Nat.le_refl _) ?_
  refine e_ifB_eq (tgt := 14) dX12_copy_4 (by decide) (fun c3 => ?_) (fun c3 => ?_)
  · replace H := of_ (nb c3) H
    refine e_bipush (v := (-2 : Int32)) dX12_copy_14 (by decide) ?_
    obtain rfl := Option.some.inj H
    exact z_iret rfl rfl dX12_copy_16 rfl rfl
  · replace H := ot c3 H
    refine e_iload_n dX12_copy_7 rfl ?_
    replace H := ob H; obtain ⟨q4, c5, H⟩ := H
    refine s1 lmX12_444 lsX12_isSheet msX12_isSheet dX12_copy_8 (t_X12_isSheet (d + 0) c5) rfl (Nat.le_of_ble_eq_true rfl) (Nat.le_refl _) ?_
    refine e_ifB_ne (tgt := 17) dX12_copy_11 (by decide) (fun c6 => ?_) (fun c6 => ?_)
    · replace H := ot c6 H
      refine g_aload_n dX12_copy_17 rfl rfl ?_
      refine e_getR (hY.t 0 rfl) flX12_86_13 dX12_copy_18 rfl (hY.r 24 rfl) ?_
      refine e_iload_n dX12_copy_21 rfl ?_
      replace H := og H; obtain ⟨g7, H⟩ := H
      refine e_zald (hY.t 25 rfl) (ixb_y (hY.n 25 rfl) g7) dX12_copy_22 ?_
      refine e_if_eq (tgt := 35) dX12_copy_23 (by decide) (fun c8 => ?_) (fun c8 => ?_)
      · replace H := ot c8 H
        refine e_bipush (v := (-11 : Int32)) dX12_copy_35 (by decide) ?_
        obtain rfl := Option.some.inj H
        exact z_iret rfl rfl dX12_copy_37 rfl rfl
      · replace H := of_ c8 H
        refine g_aload_n dX12_copy_26 rfl rfl ?_
        refine e_getR (hY.t 0 rfl) flX12_86_13 dX12_copy_27 rfl (hY.r 24 rfl) ?_
        refine e_iload_n dX12_copy_30 rfl ?_
        replace H := og H; obtain ⟨g9, H⟩ := H
        refine e_zald (hY.t 25 rfl) (ixb_y (hY.n 25 rfl) g9) dX12_copy_31 ?_
        refine e_if_ne (tgt := 38) dX12_copy_32 (by decide) (fun c10 => ?_) (fun c10 => ?_)
        · replace H := of_ c10 H
          refine g_aload_n dX12_copy_38 rfl rfl ?_
          refine e_getR (hY.t 0 rfl) flX12_90_13 dX12_copy_39 rfl (hY.r 25 rfl) ?_
          refine e_iload_n dX12_copy_42 rfl ?_
          replace H := og H; obtain ⟨g11, H⟩ := H
          refine e_iald (hY.t 26 rfl) (ixb_y (hY.n 26 rfl) g11) dX12_copy_43 ?_
          refine g_aload_n dX12_copy_44 rfl rfl ?_
          refine e_getR (hY.t 0 rfl) flX12_90_13 dX12_copy_45 rfl (hY.r 25 rfl) ?_
          refine e_iload_n dX12_copy_48 rfl ?_
          replace H := og H; obtain ⟨g12, H⟩ := H
          refine e_iald (hY.t 26 rfl) (ixb_y (hY.n 26 rfl) g12) dX12_copy_49 ?_
          refine e_icmp_eq (tgt := 56) dX12_copy_50 (by decide) (fun c13 => ?_) (fun c13 => ?_)
          · replace H := ot c13 H
            refine e_iload dX12_copy_56 rfl ?_
            refine e_if_lt (tgt := 97) dX12_copy_58 (by decide) (fun c14 => ?_) (fun c14 => ?_)
            · replace H := ot c14 H
              refine e_bipush (v := (-12 : Int32)) dX12_copy_97 (by decide) ?_
              obtain rfl := Option.some.inj H
              exact z_iret rfl rfl dX12_copy_99 rfl rfl
            · replace H := of_ c14 H
              refine e_iload_n dX12_copy_61 rfl ?_
              refine e_if_lt (tgt := 97) dX12_copy_62 (by decide) (fun c15 => ?_) (fun c15 => ?_)
              · replace H := ot c15 H
                refine e_bipush (v := (-12 : Int32)) dX12_copy_97 (by decide) ?_
                obtain rfl := Option.some.inj H
                exact z_iret rfl rfl dX12_copy_99 rfl rfl
              · replace H := of_ c15 H
                refine e_iload dX12_copy_65 rfl ?_
                refine e_if_lt (tgt := 97) dX12_copy_67 (by decide) (fun c16 => ?_) (fun c16 => ?_)
                · replace H := ot c16 H
                  refine e_bipush (v := (-12 : Int32)) dX12_copy_97 (by decide) ?_
                  obtain rfl := Option.some.inj H
                  exact z_iret rfl rfl dX12_copy_99 rfl rfl
                · replace H := of_ c16 H
                  refine e_iload_n dX12_copy_70 rfl ?_
                  refine g_aload_n dX12_copy_71 rfl rfl ?_
                  refine e_getR (hY.t 0 rfl) flX12_93_13 dX12_copy_72 rfl (hY.r 26 rfl) ?_
                  refine e_iload_n dX12_copy_75 rfl ?_
                  replace H := og H; obtain ⟨g17, H⟩ := H
                  refine e_iald (hY.t 27 rfl) (ixb_y (hY.n 27 rfl) g17) dX12_copy_76 ?_
                  refine e_iload dX12_copy_77 rfl ?_
                  refine e_isub dX12_copy_79 ?_
                  refine e_icmp_gt (tgt := 97) dX12_copy_80 (by decide) (fun c18 => ?_) (fun c18 => ?_)
                  · replace H := ot c18 H
                    refine e_bipush (v := (-12 : Int32)) dX12_copy_97 (by decide) ?_
                    obtain rfl := Option.some.inj H
                    exact z_iret rfl rfl dX12_copy_99 rfl rfl
                  · replace H := of_ c18 H
                    refine e_iload dX12_copy_83 rfl ?_
                    refine g_aload_n dX12_copy_85 rfl rfl ?_
                    refine e_getR (hY.t 0 rfl) flX12_93_13 dX12_copy_86 rfl (hY.r 26 rfl) ?_
                    refine e_iload_n dX12_copy_89 rfl ?_
                    replace H := og H; obtain ⟨g19, H⟩ := H
                    refine e_iald (hY.t 27 rfl) (ixb_y (hY.n 27 rfl) g19) dX12_copy_90 ?_
                    refine e_iload dX12_copy_91 rfl ?_
                    refine e_isub dX12_copy_93 ?_
                    refine e_icmp_le (tgt := 100) dX12_copy_94 (by decide) (fun c20 => ?_) (fun c20 => ?_)
                    · replace H := ot c20 H
                      refine e_iload_n dX12_copy_100 rfl ?_
                      refine e_iload_n dX12_copy_101 rfl ?_
                      refine e_icmp_ne (tgt := 115) dX12_copy_102 (by decide) (fun c21 => ?_) (fun c21 => ?_)
                      · replace H := of_ c21 H
                        refine e_iconst (v := (0 : Int32)) dX12_copy_115 (by decide) ?_
                        refine e_istore dX12_copy_116 (Nat.le_of_ble_eq_true rfl) rfl rfl ?_
                        refine e_iconst (v := (0 : Int32)) dX12_copy_118 (by decide) ?_
                        refine e_istore dX12_copy_119 (Nat.le_of_ble_eq_true rfl) rfl rfl ?_
                        replace H := ob H; obtain ⟨q36, c37, H⟩ := H
                        have e38 := p_X12_copy_121 1000 c37
                        have hY39 := hY.pr okM e38
                        refine e_wk (lk1 (lk1 (lk1 (lk1 (lk1 (lk1 (lk1 (lk1 (lk1 lkn))))))))) (w_X12_copy_121 d 1000 hY c37 ?_)
                        refine e_iload dX12_copy_182 rfl ?_
                        obtain rfl := Option.some.inj H
                        exact z_iret rfl rfl dX12_copy_184 rfl rfl
                      · replace H := ot c21 H
                        refine e_iload_n dX12_copy_105 rfl ?_
                        refine e_iload dX12_copy_106 rfl ?_
                        replace H := ob H; obtain ⟨q41, c43, H⟩ := H
                        have k42 : En G (d + 2) miX12_copy 116 [.ref 60, .int p1, .int p2, .int p3, .int p4, .int p5, dum, dum, dum] [.int q41] h (some (.int q.1)) (q.2) := by
                          refine e_istore dX12_copy_116 (Nat.le_of_ble_eq_true rfl) rfl rfl ?_
                          refine e_iconst (v := (0 : Int32)) dX12_copy_118 (by decide) ?_
                          refine e_istore dX12_copy_119 (Nat.le_of_ble_eq_true rfl) rfl rfl ?_
                          replace H := ob H; obtain ⟨q44, c45, H⟩ := H
                          have e46 := p_X12_copy_121 1000 c45
                          have hY47 := hY.pr okM e46
                          refine e_wk (lk1 (lk1 (lk1 (lk1 (lk1 (lk1 (lk1 (lk1 (lk1 lkn))))))))) (w_X12_copy_121 d 1000 hY c45 ?_)
                          refine e_iload dX12_copy_182 rfl ?_
                          obtain rfl := Option.some.inj H
                          exact z_iret rfl rfl dX12_copy_184 rfl rfl
                        replace H := c43
                        refine e_icmp_ge (tgt := 115) dX12_copy_108 (by decide) (fun c40 => ?_) (fun c40 => ?_)
                        · replace H := ot c40 H
                          refine e_iconst (v := (0 : Int32)) dX12_copy_115 (by decide) ?_
                          obtain rfl := Option.some.inj H
                          exact e_wk (lk1 (lk1 (lk1 (lk1 (lk1 (lk1 (lk1 (lk1 (lk1 lkn))))))))) k42
                        · replace H := of_ c40 H
                          refine e_iconst (v := (1 : Int32)) dX12_copy_111 (by decide) ?_
                          refine e_goto (tgt := 116) dX12_copy_112 (by decide) ?_
                          obtain rfl := Option.some.inj H
                          exact e_wk (lk1 (lk1 (lk1 (lk1 (lk1 (lk1 (lk1 (lk1 (lk1 lkn))))))))) k42
                    · replace H := of_ c20 H
                      refine e_bipush (v := (-12 : Int32)) dX12_copy_97 (by decide) ?_
                      obtain rfl := Option.some.inj H
                      exact z_iret rfl rfl dX12_copy_99 rfl rfl
          · replace H := of_ c13 H
            refine e_bipush (v := (-13 : Int32)) dX12_copy_53 (by decide) ?_
            obtain rfl := Option.some.inj H
            exact z_iret rfl rfl dX12_copy_55 rfl rfl
        · replace H := ot c10 H
          refine e_bipush (v := (-11 : Int32)) dX12_copy_35 (by decide) ?_
          obtain rfl := Option.some.inj H
          exact z_iret rfl rfl dX12_copy_37 rfl rfl
    · replace H := of_ (nb c6) H
      refine e_bipush (v := (-2 : Int32)) dX12_copy_14 (by decide) ?_
      obtain rfl := Option.some.inj H
      exact z_iret rfl rfl dX12_copy_16 rfl rfl
