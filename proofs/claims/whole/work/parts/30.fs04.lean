-- X10_init
def f_X10_init (p0 : Nat) (p1 : Int32) (p2 : Int32) (p3 : Int32) (p4 : Int32) (h : HS) : Option HS := (Option.bind (f_X8_init p0 p1 p2 p3 p4 h) (fun q1 => (some q1)))
set_option maxHeartbeats 4000000 in
set_option maxRecDepth 20000 in
theorem p_X10_init {p0 : Nat} {p1 : Int32} {p2 : Int32} {p3 : Int32} {p4 : Int32} {h : HS} {q : HS} (H : f_X10_init p0 p1 p2 p3 p4 h = some q) : Pr h q := by
  unfold f_X10_init at H
  replace H := ob H; obtain ⟨q1, c2, H⟩ := H
  have e3 := p_X8_init c2
  obtain rfl := Option.some.inj H
  exact e3
set_option maxHeartbeats 4000000 in
set_option maxRecDepth 20000 in
theorem t_X10_init {G : GE} (d : Nat) {p0 : Nat} {p1 : Int32} {p2 : Int32} {p3 : Int32} {p4 : Int32} {h : HS} {q : HS} (H : f_X10_init p0 p1 p2 p3 p4 h = some q) : CE G (d + 2) yX10_init miX10_init [.ref p0, .int p1, .int p2, .int p3, .int p4] h (none) (q) := by
  unfold f_X10_init at H
  refine ce_of rfl (by decide) (fun q => by first | rfl | cases q) (Nat.le_of_ble_eq_true rfl) rfl ?_
  refine g_aload_n dX10_init_0 rfl rfl ?_
  refine e_iload_n dX10_init_1 rfl ?_
  refine e_iload_n dX10_init_2 rfl ?_
  refine e_iload_n dX10_init_3 rfl ?_
  refine e_iload dX10_init_4 rfl ?_
  replace H := ob H; obtain ⟨q1, c2, H⟩ := H
  refine i0 rfl lmX10_1 liX8_init msX8_init rfl dX10_init_6 (t_X8_init (d + 0) c2) rfl (Nat.le_of_ble_eq_true rfl) (Nat.le_refl _) ?_
  have e3 := p_X8_init c2
  obtain rfl := Option.some.inj H
  exact z_vret rfl dX10_init_9 rfl rfl
-- X7_init
def f_X7_init (p0 : Nat) (p1 : Int32) (p2 : Int32) (p3 : Int32) (p4 : Int32) (h : HS) : Option HS := (Option.bind (f_X10_init p0 p1 p2 p3 p4 h) (fun q1 => (some q1)))
set_option maxHeartbeats 4000000 in
set_option maxRecDepth 20000 in
theorem p_X7_init {p0 : Nat} {p1 : Int32} {p2 : Int32} {p3 : Int32} {p4 : Int32} {h : HS} {q : HS} (H : f_X7_init p0 p1 p2 p3 p4 h = some q) : Pr h q := by
  unfold f_X7_init at H
  replace H := ob H; obtain ⟨q1, c2, H⟩ := H
  have e3 := p_X10_init c2
  obtain rfl := Option.some.inj H
  exact e3
set_option maxHeartbeats 4000000 in
set_option maxRecDepth 20000 in
theorem t_X7_init {G : GE} (d : Nat) {p0 : Nat} {p1 : Int32} {p2 : Int32} {p3 : Int32} {p4 : Int32} {h : HS} {q : HS} (H : f_X7_init p0 p1 p2 p3 p4 h = some q) : CE G (d + 3) yX7_init miX7_init [.ref p0, .int p1, .int p2, .int p3, .int p4] h (none) (q) := by
  unfold f_X7_init at H
  refine ce_of rfl (by decide) (fun q => by first | rfl | cases q) (Nat.le_of_ble_eq_true rfl) rfl ?_
  refine g_aload_n dX7_init_0 rfl rfl ?_
  refine e_iload_n dX7_init_1 rfl ?_
  refine e_iload_n dX7_init_2 rfl ?_
  refine e_iload_n dX7_init_3 rfl ?_
  refine e_iload dX7_init_4 rfl ?_
  replace H := ob H; obtain ⟨q1, c2, H⟩ := H
  refine i0 rfl lmX7_1 liX10_init msX10_init rfl dX7_init_6 (t_X10_init (d + 0) c2) rfl (Nat.le_of_ble_eq_true rfl) (Nat.le_refl _) ?_
  have e3 := p_X10_init c2
  obtain rfl := Option.some.inj H
  exact z_vret rfl dX7_init_9 rfl rfl
-- X10_gaffs
def f_X10_gaffs (p0 : Nat) : Option Int32 := (some (1 : Int32))
set_option maxHeartbeats 4000000 in
set_option maxRecDepth 20000 in
theorem t_X10_gaffs {G : GE} (d : Nat) {p0 : Nat} {h : HS} {q : Int32} (H : f_X10_gaffs p0 = some q) : CE G (d + 0) yX10_gaffs miX10_gaffs [.ref p0] h (some (.int q)) (h) := by
  unfold f_X10_gaffs at H
  refine ce_of rfl (by decide) (fun q => by first | rfl | cases q) (Nat.le_of_ble_eq_true rfl) rfl ?_
  refine e_iconst (v := (1 : Int32)) dX10_gaffs_0 (by decide) ?_
  obtain rfl := Option.some.inj H
  exact z_iret rfl rfl dX10_gaffs_1 rfl rfl
-- X7_gaffs
def f_X7_gaffs (p0 : Nat) (h : HS) : Option Int32 := (if hT h p0 = 9 then (Option.bind (f_X10_gaffs p0) (fun q1 => (some (q1 + (1 : Int32))))) else none)
set_option maxHeartbeats 4000000 in
set_option maxRecDepth 20000 in
theorem t_X7_gaffs {G : GE} (d : Nat) {p0 : Nat} {h : HS} {q : Int32} (H : f_X7_gaffs p0 h = some q) : CE G (d + 1) yX7_gaffs miX7_gaffs [.ref p0] h (some (.int q)) (h) := by
  unfold f_X7_gaffs at H
  refine ce_of rfl (by decide) (fun q => by first | rfl | cases q) (Nat.le_of_ble_eq_true rfl) rfl ?_
  refine g_aload_n dX7_gaffs_0 rfl rfl ?_
  replace H := og H; obtain ⟨g3, H⟩ := H
  replace H := ob H; obtain ⟨q1, c2, H⟩ := H
  refine u1 g3 (by decide) rfl lmX7_11 lqX10_gaffs lpX7 liX10_gaffs (by decide) msX10_gaffs dX7_gaffs_1 (t_X10_gaffs (d + 0) c2) rfl (Nat.le_of_ble_eq_true rfl) (Nat.le_refl _) ?_
  refine e_iconst (v := (1 : Int32)) dX7_gaffs_4 (by decide) ?_
  refine e_iadd dX7_gaffs_5 ?_
  obtain rfl := Option.some.inj H
  exact z_iret rfl rfl dX7_gaffs_6 rfl rfl
-- X8_gaffs
def f_X8_gaffs (p0 : Nat) : Option Int32 := (some (0 : Int32))
set_option maxHeartbeats 4000000 in
set_option maxRecDepth 20000 in
theorem t_X8_gaffs {G : GE} (d : Nat) {p0 : Nat} {h : HS} {q : Int32} (H : f_X8_gaffs p0 = some q) : CE G (d + 0) yX8_gaffs miX8_gaffs [.ref p0] h (some (.int q)) (h) := by
  unfold f_X8_gaffs at H
  refine ce_of rfl (by decide) (fun q => by first | rfl | cases q) (Nat.le_of_ble_eq_true rfl) rfl ?_
  refine e_iconst (v := (0 : Int32)) dX8_gaffs_0 (by decide) ?_
  obtain rfl := Option.some.inj H
  exact z_iret rfl rfl dX8_gaffs_1 rfl rfl
-- X9_push
def f_X9_push (p0 : Nat) (p1 : Int32) (p2 : Int32) (h : HS) : Option (Int32 × HS) := (if p2 < 0 then (some (p2, h)) else (if hT h p0 = 11 then (om (hR h p0 1) none (fun b3 => (if hT h b3 = 15 then (if p2 < (nI (hLn h b3)) then (om (hR h p0 1) none (fun b7 => (if hT h b7 = 15 then (if ixb p2 (hLn h b7) = true then (some ((p2 + (1 : Int32)), (sI h b7 p2.toNatClampNeg p1))) else none) else none))) else (some (p2, h))) else none))) else none))
set_option maxHeartbeats 4000000 in
set_option maxRecDepth 20000 in
theorem p_X9_push {p0 : Nat} {p1 : Int32} {p2 : Int32} {h : HS} {q : (Int32 × HS)} (H : f_X9_push p0 p1 p2 h = some q) : Pr h q.2 := by
  unfold f_X9_push at H
  replace H := oi H; obtain ⟨c1, H⟩ | ⟨c1, H⟩ := H
  · obtain rfl := Option.some.inj H
    exact Pr.rf
  · replace H := og H; obtain ⟨g2, H⟩ := H
    replace H := oom H; obtain ⟨-, H⟩ | ⟨b3, e4, H⟩ := H
    · exact nz H
    replace H := og H; obtain ⟨g5, H⟩ := H
    replace H := oi H; obtain ⟨c6, H⟩ | ⟨c6, H⟩ := H
    · replace H := oom H; obtain ⟨-, H⟩ | ⟨b7, e8, H⟩ := H
      · exact nz H
      replace H := og H; obtain ⟨g9, H⟩ := H
      replace H := og H; obtain ⟨g10, H⟩ := H
      obtain rfl := Option.some.inj H
      exact (Pr.rf.sI)
    · obtain rfl := Option.some.inj H
      exact Pr.rf
set_option maxHeartbeats 4000000 in
set_option maxRecDepth 20000 in
theorem t_X9_push {G : GE} (d : Nat) {p0 : Nat} {p1 : Int32} {p2 : Int32} {h : HS} {q : (Int32 × HS)} (H : f_X9_push p0 p1 p2 h = some q) : CE G (d + 0) yX9_push miX9_push [.ref p0, .int p1, .int p2] h (some (.int q.1)) (q.2) := by
  unfold f_X9_push at H
  refine ce_of rfl (by decide) (fun q => by first | rfl | cases q) (Nat.le_of_ble_eq_true rfl) rfl ?_
  refine e_iload_n dX9_push_0 rfl ?_
  refine e_if_lt (tgt := 13) dX9_push_1 (by decide) (fun c1 => ?_) (fun c1 => ?_)
  · replace H := ot c1 H
    refine e_iload_n dX9_push_13 rfl ?_
    obtain rfl := Option.some.inj H
    exact z_iret rfl rfl dX9_push_14 rfl rfl
  · replace H := of_ c1 H
    refine e_iload_n dX9_push_4 rfl ?_
    refine g_aload_n dX9_push_5 rfl rfl ?_
    replace H := og H; obtain ⟨g2, H⟩ := H
    replace H := oom H; obtain ⟨-, H⟩ | ⟨b3, e4, H⟩ := H
    · exact nz H
    refine e_getR g2 flX9_15_10 dX9_push_6 rfl e4 ?_
    replace H := og H; obtain ⟨g5, H⟩ := H
    refine e_alen g5 (by decide) dX9_push_9 ?_
    refine e_icmp_lt (tgt := 15) dX9_push_10 (by decide) (fun c6 => ?_) (fun c6 => ?_)
    · replace H := ot c6 H
      refine g_aload_n dX9_push_15 rfl rfl ?_
      replace H := oom H; obtain ⟨-, H⟩ | ⟨b7, e8, H⟩ := H
      · exact nz H
      refine e_getR g2 flX9_15_10 dX9_push_16 rfl e8 ?_
      refine e_iload_n dX9_push_19 rfl ?_
      refine e_iload_n dX9_push_20 rfl ?_
      replace H := og H; obtain ⟨g9, H⟩ := H
      replace H := og H; obtain ⟨g10, H⟩ := H
      refine e_iast g9 (ixb_y rfl g10) dX9_push_21 ?_
      refine e_iload_n dX9_push_22 rfl ?_
      refine e_iconst (v := (1 : Int32)) dX9_push_23 (by decide) ?_
      refine e_iadd dX9_push_24 ?_
      obtain rfl := Option.some.inj H
      exact z_iret rfl rfl dX9_push_25 rfl rfl
    · replace H := of_ c6 H
      refine e_iload_n dX9_push_13 rfl ?_
      obtain rfl := Option.some.inj H
      exact z_iret rfl rfl dX9_push_14 rfl rfl
-- X9_alter
def f_X9_alter (p0 : Nat) (p1 : Int32) (p2 : Int32) (h : HS) : Option (Int32 × HS) := (if p2 < (1 : Int32) then (some (p2, h)) else (if hT h p0 = 11 then (om (hR h p0 1) none (fun b3 => (if hT h b3 = 15 then (if p2 ≤ (nI (hLn h b3)) then (om (hR h p0 1) none (fun b7 => (if hT h b7 = 15 then (if ixb (p2 - (1 : Int32)) (hLn h b7) = true then (om (hR h p0 1) none (fun b11 => (if p1 = (10001 : Int32) then (if hT h b11 = 15 then (if ixb (p2 - (1 : Int32)) (hLn h b11) = true then (some (p2, (sI h b11 (p2 - (1 : Int32)).toNatClampNeg (-(hI h b7 (p2 - (1 : Int32)).toNatClampNeg))))) else none) else none) else (if (hI h b7 (p2 - (1 : Int32)).toNatClampNeg) = 0 then (if hT h b11 = 15 then (if ixb (p2 - (1 : Int32)) (hLn h b11) = true then (some (p2, (sI h b11 (p2 - (1 : Int32)).toNatClampNeg (1 : Int32)))) else none) else none) else (if hT h b11 = 15 then (if ixb (p2 - (1 : Int32)) (hLn h b11) = true then (some (p2, (sI h b11 (p2 - (1 : Int32)).toNatClampNeg (0 : Int32)))) else none) else none))))) else none) else none))) else (some (p2, h))) else none))) else none))
set_option maxHeartbeats 4000000 in
set_option maxRecDepth 20000 in
theorem p_X9_alter {p0 : Nat} {p1 : Int32} {p2 : Int32} {h : HS} {q : (Int32 × HS)} (H : f_X9_alter p0 p1 p2 h = some q) : Pr h q.2 := by
  unfold f_X9_alter at H
  replace H := oi H; obtain ⟨c1, H⟩ | ⟨c1, H⟩ := H
  · obtain rfl := Option.some.inj H
    exact Pr.rf
  · replace H := og H; obtain ⟨g2, H⟩ := H
    replace H := oom H; obtain ⟨-, H⟩ | ⟨b3, e4, H⟩ := H
    · exact nz H
    replace H := og H; obtain ⟨g5, H⟩ := H
    replace H := oi H; obtain ⟨c6, H⟩ | ⟨c6, H⟩ := H
    · replace H := oom H; obtain ⟨-, H⟩ | ⟨b7, e8, H⟩ := H
      · exact nz H
      replace H := og H; obtain ⟨g9, H⟩ := H
      replace H := og H; obtain ⟨g10, H⟩ := H
      replace H := oom H; obtain ⟨-, H⟩ | ⟨b11, e12, H⟩ := H
      · exact nz H
      replace H := oi H; obtain ⟨c13, H⟩ | ⟨c13, H⟩ := H
      · replace H := og H; obtain ⟨g19, H⟩ := H
        replace H := og H; obtain ⟨g20, H⟩ := H
        obtain rfl := Option.some.inj H
        exact (Pr.rf.sI)
      · replace H := oi H; obtain ⟨c14, H⟩ | ⟨c14, H⟩ := H
        · replace H := og H; obtain ⟨g17, H⟩ := H
          replace H := og H; obtain ⟨g18, H⟩ := H
          obtain rfl := Option.some.inj H
          exact (Pr.rf.sI)
        · replace H := og H; obtain ⟨g15, H⟩ := H
          replace H := og H; obtain ⟨g16, H⟩ := H
          obtain rfl := Option.some.inj H
          exact (Pr.rf.sI)
    · obtain rfl := Option.some.inj H
      exact Pr.rf
set_option maxHeartbeats 4000000 in
set_option maxRecDepth 20000 in
theorem t_X9_alter {G : GE} (d : Nat) {p0 : Nat} {p1 : Int32} {p2 : Int32} {h : HS} {q : (Int32 × HS)} (H : f_X9_alter p0 p1 p2 h = some q) : CE G (d + 0) yX9_alter miX9_alter [.ref p0, .int p1, .int p2] h (some (.int q.1)) (q.2) := by
  unfold f_X9_alter at H
  refine ce_of rfl (by decide) (fun q => by first | rfl | cases q) (Nat.le_of_ble_eq_true rfl) rfl ?_
  refine e_iload_n dX9_alter_0 rfl ?_
  refine e_iconst (v := (1 : Int32)) dX9_alter_1 (by decide) ?_
  refine e_icmp_lt (tgt := 14) dX9_alter_2 (by decide) (fun c1 => ?_) (fun c1 => ?_)
  · replace H := ot c1 H
    refine e_iload_n dX9_alter_14 rfl ?_
    obtain rfl := Option.some.inj H
    exact z_iret rfl rfl dX9_alter_15 rfl rfl
  · replace H := of_ c1 H
    refine e_iload_n dX9_alter_5 rfl ?_
    refine g_aload_n dX9_alter_6 rfl rfl ?_
    replace H := og H; obtain ⟨g2, H⟩ := H
    replace H := oom H; obtain ⟨-, H⟩ | ⟨b3, e4, H⟩ := H
    · exact nz H
    refine e_getR g2 flX9_15_10 dX9_alter_7 rfl e4 ?_
    replace H := og H; obtain ⟨g5, H⟩ := H
    refine e_alen g5 (by decide) dX9_alter_10 ?_
    refine e_icmp_le (tgt := 16) dX9_alter_11 (by decide) (fun c6 => ?_) (fun c6 => ?_)
    · replace H := ot c6 H
      refine g_aload_n dX9_alter_16 rfl rfl ?_
      replace H := oom H; obtain ⟨-, H⟩ | ⟨b7, e8, H⟩ := H
      · exact nz H
      refine e_getR g2 flX9_15_10 dX9_alter_17 rfl e8 ?_
      refine e_iload_n dX9_alter_20 rfl ?_
      refine e_iconst (v := (1 : Int32)) dX9_alter_21 (by decide) ?_
      refine e_isub dX9_alter_22 ?_
      replace H := og H; obtain ⟨g9, H⟩ := H
      replace H := og H; obtain ⟨g10, H⟩ := H
      refine e_iald g9 (ixb_y rfl g10) dX9_alter_23 ?_
      refine e_istore_n dX9_alter_24 (Nat.le_of_ble_eq_true rfl) rfl rfl ?_
      refine g_aload_n dX9_alter_25 rfl rfl ?_
      replace H := oom H; obtain ⟨-, H⟩ | ⟨b11, e12, H⟩ := H
      · exact nz H
      refine e_getR g2 flX9_15_10 dX9_alter_26 rfl e12 ?_
      refine e_iload_n dX9_alter_29 rfl ?_
      refine e_iconst (v := (1 : Int32)) dX9_alter_30 (by decide) ?_
      refine e_isub dX9_alter_31 ?_
      refine e_iload_n dX9_alter_32 rfl ?_
      refine e_sipush (v := (10001 : Int32)) dX9_alter_33 (by decide) ?_
      refine e_icmp_ne (tgt := 44) dX9_alter_36 (by decide) (fun c13 => ?_) (fun c13 => ?_)
      · replace H := of_ c13 H
        refine e_iload_n dX9_alter_44 rfl ?_
        refine e_if_ne (tgt := 52) dX9_alter_45 (by decide) (fun c14 => ?_) (fun c14 => ?_)
        · replace H := of_ c14 H
          refine e_iconst (v := (0 : Int32)) dX9_alter_52 (by decide) ?_
          replace H := og H; obtain ⟨g15, H⟩ := H
          replace H := og H; obtain ⟨g16, H⟩ := H
          refine e_iast g15 (ixb_y rfl g16) dX9_alter_53 ?_
          refine e_iload_n dX9_alter_54 rfl ?_
          obtain rfl := Option.some.inj H
          exact z_iret rfl rfl dX9_alter_55 rfl rfl
        · replace H := ot c14 H
          refine e_iconst (v := (1 : Int32)) dX9_alter_48 (by decide) ?_
          refine e_goto (tgt := 53) dX9_alter_49 (by decide) ?_
          replace H := og H; obtain ⟨g17, H⟩ := H
          replace H := og H; obtain ⟨g18, H⟩ := H
          refine e_iast g17 (ixb_y rfl g18) dX9_alter_53 ?_
          refine e_iload_n dX9_alter_54 rfl ?_
          obtain rfl := Option.some.inj H
          exact z_iret rfl rfl dX9_alter_55 rfl rfl
      · replace H := ot c13 H
        refine e_iload_n dX9_alter_39 rfl ?_
        refine e_ineg dX9_alter_40 ?_
        refine e_goto (tgt := 53) dX9_alter_41 (by decide) ?_
        replace H := og H; obtain ⟨g19, H⟩ := H
        replace H := og H; obtain ⟨g20, H⟩ := H
        refine e_iast g19 (ixb_y rfl g20) dX9_alter_53 ?_
        refine e_iload_n dX9_alter_54 rfl ?_
        obtain rfl := Option.some.inj H
        exact z_iret rfl rfl dX9_alter_55 rfl rfl
    · replace H := of_ c6 H
      refine e_iload_n dX9_alter_14 rfl ?_
      obtain rfl := Option.some.inj H
      exact z_iret rfl rfl dX9_alter_15 rfl rfl
-- X9_joined
def f_X9_joined (p0 : Int32) (p1 : Int32) (p2 : Int32) : Option Int32 := (if p0 = (10042 : Int32) then (some (p1 * p2)) else (if p0 = (10043 : Int32) then (some (p1 + p2)) else (if p0 = (10045 : Int32) then (some (p1 - p2)) else (if p0 = (10060 : Int32) then (if p2 ≤ p1 then (some (0 : Int32)) else (some (1 : Int32))) else (if p0 = (10061 : Int32) then (if p1 = p2 then (some (1 : Int32)) else (some (0 : Int32))) else (if p0 = (10210 : Int32) then (if p1 = 0 then (if p2 = 0 then (some (0 : Int32)) else (some (1 : Int32))) else (some (1 : Int32))) else (if p0 = (10211 : Int32) then (if p1 = 0 then (some (0 : Int32)) else (if p2 = 0 then (some (0 : Int32)) else (some (1 : Int32)))) else (some (0 : Int32)))))))))
set_option maxHeartbeats 4000000 in
set_option maxRecDepth 20000 in
theorem t_X9_joined {G : GE} (d : Nat) {p0 : Int32} {p1 : Int32} {p2 : Int32} {h : HS} {q : Int32} (H : f_X9_joined p0 p1 p2 = some q) : CE G (d + 0) yX9_joined miX9_joined [.int p0, .int p1, .int p2] h (some (.int q)) (h) := by
  unfold f_X9_joined at H
  refine ce_of rfl (by decide) (fun q => by first | rfl | cases q) (Nat.le_of_ble_eq_true rfl) rfl ?_
  refine e_iload_n dX9_joined_0 rfl ?_
  by_cases k1 : p0 = (10042 : Int32)
  · replace H := ot k1 H
    refine e_lookup (off := 75) (tgt := 76) dX9_joined_1 (by decide) (by rw [k1]; decide) (by decide) ?_
    refine e_iload_n dX9_joined_76 rfl ?_
    refine e_iload_n dX9_joined_77 rfl ?_
    refine e_imul dX9_joined_78 ?_
    obtain rfl := Option.some.inj H
    exact z_iret rfl rfl dX9_joined_79 rfl rfl
  · replace H := of_ k1 H
    by_cases k2 : p0 = (10043 : Int32)
    · replace H := ot k2 H
      refine e_lookup (off := 67) (tgt := 68) dX9_joined_1 (by decide) (by rw [k2]; decide) (by decide) ?_
      refine e_iload_n dX9_joined_68 rfl ?_
      refine e_iload_n dX9_joined_69 rfl ?_
      refine e_iadd dX9_joined_70 ?_
      obtain rfl := Option.some.inj H
      exact z_iret rfl rfl dX9_joined_71 rfl rfl
    · replace H := of_ k2 H
      by_cases k3 : p0 = (10045 : Int32)
      · replace H := ot k3 H
        refine e_lookup (off := 71) (tgt := 72) dX9_joined_1 (by decide) (by rw [k3]; decide) (by decide) ?_
        refine e_iload_n dX9_joined_72 rfl ?_
        refine e_iload_n dX9_joined_73 rfl ?_
        refine e_isub dX9_joined_74 ?_
        obtain rfl := Option.some.inj H
        exact z_iret rfl rfl dX9_joined_75 rfl rfl
      · replace H := of_ k3 H
        by_cases k4 : p0 = (10060 : Int32)
        · replace H := ot k4 H
          refine e_lookup (off := 79) (tgt := 80) dX9_joined_1 (by decide) (by rw [k4]; decide) (by decide) ?_
          refine e_iload_n dX9_joined_80 rfl ?_
          refine e_iload_n dX9_joined_81 rfl ?_
          refine e_icmp_ge (tgt := 89) dX9_joined_82 (by decide) (fun c13 => ?_) (fun c13 => ?_)
          · replace H := ot c13 H
            refine e_iconst (v := (0 : Int32)) dX9_joined_89 (by decide) ?_
            obtain rfl := Option.some.inj H
            exact z_iret rfl rfl dX9_joined_90 rfl rfl
          · replace H := of_ c13 H
            refine e_iconst (v := (1 : Int32)) dX9_joined_85 (by decide) ?_
            refine e_goto (tgt := 90) dX9_joined_86 (by decide) ?_
            obtain rfl := Option.some.inj H
            exact z_iret rfl rfl dX9_joined_90 rfl rfl
        · replace H := of_ k4 H
          by_cases k5 : p0 = (10061 : Int32)
          · replace H := ot k5 H
            refine e_lookup (off := 90) (tgt := 91) dX9_joined_1 (by decide) (by rw [k5]; decide) (by decide) ?_
            refine e_iload_n dX9_joined_91 rfl ?_
            refine e_iload_n dX9_joined_92 rfl ?_
            refine e_icmp_ne (tgt := 100) dX9_joined_93 (by decide) (fun c12 => ?_) (fun c12 => ?_)
            · replace H := of_ c12 H
              refine e_iconst (v := (0 : Int32)) dX9_joined_100 (by decide) ?_
              obtain rfl := Option.some.inj H
              exact z_iret rfl rfl dX9_joined_101 rfl rfl
            · replace H := ot c12 H
              refine e_iconst (v := (1 : Int32)) dX9_joined_96 (by decide) ?_
              refine e_goto (tgt := 101) dX9_joined_97 (by decide) ?_
              obtain rfl := Option.some.inj H
              exact z_iret rfl rfl dX9_joined_101 rfl rfl
          · replace H := of_ k5 H
            by_cases k6 : p0 = (10210 : Int32)
            · replace H := ot k6 H
              refine e_lookup (off := 115) (tgt := 116) dX9_joined_1 (by decide) (by rw [k6]; decide) (by decide) ?_
              refine e_iload_n dX9_joined_116 rfl ?_
              refine e_if_ne (tgt := 124) dX9_joined_117 (by decide) (fun c10 => ?_) (fun c10 => ?_)
              · replace H := of_ c10 H
                refine e_iconst (v := (1 : Int32)) dX9_joined_124 (by decide) ?_
                refine e_goto (tgt := 129) dX9_joined_125 (by decide) ?_
                obtain rfl := Option.some.inj H
                exact z_iret rfl rfl dX9_joined_129 rfl rfl
              · replace H := ot c10 H
                refine e_iload_n dX9_joined_120 rfl ?_
                refine e_if_eq (tgt := 128) dX9_joined_121 (by decide) (fun c11 => ?_) (fun c11 => ?_)
                · replace H := ot c11 H
                  refine e_iconst (v := (0 : Int32)) dX9_joined_128 (by decide) ?_
                  obtain rfl := Option.some.inj H
                  exact z_iret rfl rfl dX9_joined_129 rfl rfl
                · replace H := of_ c11 H
                  refine e_iconst (v := (1 : Int32)) dX9_joined_124 (by decide) ?_
                  refine e_goto (tgt := 129) dX9_joined_125 (by decide) ?_
                  obtain rfl := Option.some.inj H
                  exact z_iret rfl rfl dX9_joined_129 rfl rfl
            · replace H := of_ k6 H
              by_cases k7 : p0 = (10211 : Int32)
              · replace H := ot k7 H
                refine e_lookup (off := 101) (tgt := 102) dX9_joined_1 (by decide) (by rw [k7]; decide) (by decide) ?_
                refine e_iload_n dX9_joined_102 rfl ?_
                refine e_if_eq (tgt := 114) dX9_joined_103 (by decide) (fun c8 => ?_) (fun c8 => ?_)
                · replace H := ot c8 H
                  refine e_iconst (v := (0 : Int32)) dX9_joined_114 (by decide) ?_
                  obtain rfl := Option.some.inj H
                  exact z_iret rfl rfl dX9_joined_115 rfl rfl
                · replace H := of_ c8 H
                  refine e_iload_n dX9_joined_106 rfl ?_
                  refine e_if_eq (tgt := 114) dX9_joined_107 (by decide) (fun c9 => ?_) (fun c9 => ?_)
                  · replace H := ot c9 H
                    refine e_iconst (v := (0 : Int32)) dX9_joined_114 (by decide) ?_
                    obtain rfl := Option.some.inj H
                    exact z_iret rfl rfl dX9_joined_115 rfl rfl
                  · replace H := of_ c9 H
                    refine e_iconst (v := (1 : Int32)) dX9_joined_110 (by decide) ?_
                    refine e_goto (tgt := 115) dX9_joined_111 (by decide) ?_
                    obtain rfl := Option.some.inj H
                    exact z_iret rfl rfl dX9_joined_115 rfl rfl
              · replace H := of_ k7 H
                refine e_lookup (off := 129) (tgt := 130) dX9_joined_1 (by decide) (by have q10042 : ¬ (10042 : Int) = p0.toInt := fun z => i32_ne k1 z.symm; have q10043 : ¬ (10043 : Int) = p0.toInt := fun z => i32_ne k2 z.symm; have q10045 : ¬ (10045 : Int) = p0.toInt := fun z => i32_ne k3 z.symm; have q10060 : ¬ (10060 : Int) = p0.toInt := fun z => i32_ne k4 z.symm; have q10061 : ¬ (10061 : Int) = p0.toInt := fun z => i32_ne k5 z.symm; have q10210 : ¬ (10210 : Int) = p0.toInt := fun z => i32_ne k6 z.symm; have q10211 : ¬ (10211 : Int) = p0.toInt := fun z => i32_ne k7 z.symm; simp [Op.lookupswitch.offset, *]) (by decide) ?_
                refine e_iconst (v := (0 : Int32)) dX9_joined_130 (by decide) ?_
                obtain rfl := Option.some.inj H
                exact z_iret rfl rfl dX9_joined_131 rfl rfl
-- X9_step
def f_X9_step (p0 : Nat) (p1 : Int32) (p2 : Int32) (p3 : Nat) (h : HS) : Option (Int32 × HS) := (if (10000 : Int32) ≤ p1 then (if (p1 - (10200 : Int32)) < 0 then (if p1 = (10001 : Int32) then (if hT h p0 = 11 then (Option.bind (f_X9_alter p0 p1 p2 h) (fun q4 => (some (q4.1, q4.2)))) else none) else (if p1 = (10212 : Int32) then (if hT h p0 = 11 then (Option.bind (f_X9_alter p0 p1 p2 h) (fun q30 => (some (q30.1, q30.2)))) else none) else (if p2 < (2 : Int32) then (some (p2, h)) else (if hT h p0 = 11 then (om (hR h p0 1) none (fun b12 => (if hT h b12 = 15 then (if p2 ≤ (nI (hLn h b12)) then (om (hR h p0 1) none (fun b16 => (om (hR h p0 1) none (fun b18 => (if hT h b18 = 15 then (if ixb (p2 - (2 : Int32)) (hLn h b18) = true then (om (hR h p0 1) none (fun b22 => (if hT h b22 = 15 then (if ixb (p2 - (1 : Int32)) (hLn h b22) = true then (Option.bind (f_X9_joined p1 (hI h b18 (p2 - (2 : Int32)).toNatClampNeg) (hI h b22 (p2 - (1 : Int32)).toNatClampNeg)) (fun q26 => (if hT h b16 = 15 then (if ixb (p2 - (2 : Int32)) (hLn h b16) = true then (some ((p2 - (1 : Int32)), (sI h b16 (p2 - (2 : Int32)).toNatClampNeg q26))) else none) else none))) else none) else none))) else none) else none))))) else (some (p2, h))) else none))) else none)))) else (if (6 : Int32) ≤ (p1 - (10200 : Int32)) then (if p1 = (10001 : Int32) then (if hT h p0 = 11 then (Option.bind (f_X9_alter p0 p1 p2 h) (fun q37 => (some (q37.1, q37.2)))) else none) else (if p1 = (10212 : Int32) then (if hT h p0 = 11 then (Option.bind (f_X9_alter p0 p1 p2 h) (fun q63 => (some (q63.1, q63.2)))) else none) else (if p2 < (2 : Int32) then (some (p2, h)) else (if hT h p0 = 11 then (om (hR h p0 1) none (fun b45 => (if hT h b45 = 15 then (if p2 ≤ (nI (hLn h b45)) then (om (hR h p0 1) none (fun b49 => (om (hR h p0 1) none (fun b51 => (if hT h b51 = 15 then (if ixb (p2 - (2 : Int32)) (hLn h b51) = true then (om (hR h p0 1) none (fun b55 => (if hT h b55 = 15 then (if ixb (p2 - (1 : Int32)) (hLn h b55) = true then (Option.bind (f_X9_joined p1 (hI h b51 (p2 - (2 : Int32)).toNatClampNeg) (hI h b55 (p2 - (1 : Int32)).toNatClampNeg)) (fun q59 => (if hT h b49 = 15 then (if ixb (p2 - (2 : Int32)) (hLn h b49) = true then (some ((p2 - (1 : Int32)), (sI h b49 (p2 - (2 : Int32)).toNatClampNeg q59))) else none) else none))) else none) else none))) else none) else none))))) else (some (p2, h))) else none))) else none)))) else (if hT h p3 = 15 then (if (nI (hLn h p3)) ≤ (p1 - (10200 : Int32)) then (if p1 = (10001 : Int32) then (if hT h p0 = 11 then (Option.bind (f_X9_alter p0 p1 p2 h) (fun q71 => (some (q71.1, q71.2)))) else none) else (if p1 = (10212 : Int32) then (if hT h p0 = 11 then (Option.bind (f_X9_alter p0 p1 p2 h) (fun q98 => (some (q98.1, q98.2)))) else none) else (if p2 < (2 : Int32) then (some (p2, h)) else (if hT h p0 = 11 then (om (hR h p0 1) none (fun b80 => (if hT h b80 = 15 then (if p2 ≤ (nI (hLn h b80)) then (om (hR h p0 1) none (fun b84 => (om (hR h p0 1) none (fun b86 => (if hT h b86 = 15 then (if ixb (p2 - (2 : Int32)) (hLn h b86) = true then (om (hR h p0 1) none (fun b90 => (if hT h b90 = 15 then (if ixb (p2 - (1 : Int32)) (hLn h b90) = true then (Option.bind (f_X9_joined p1 (hI h b86 (p2 - (2 : Int32)).toNatClampNeg) (hI h b90 (p2 - (1 : Int32)).toNatClampNeg)) (fun q94 => (if hT h b84 = 15 then (if ixb (p2 - (2 : Int32)) (hLn h b84) = true then (some ((p2 - (1 : Int32)), (sI h b84 (p2 - (2 : Int32)).toNatClampNeg q94))) else none) else none))) else none) else none))) else none) else none))))) else (some (p2, h))) else none))) else none)))) else (if ixb (p1 - (10200 : Int32)) (hLn h p3) = true then (if hT h p0 = 11 then (Option.bind (f_X9_push p0 (hI h p3 (p1 - (10200 : Int32)).toNatClampNeg) p2 h) (fun q105 => (some (q105.1, q105.2)))) else none) else none)) else none))) else (if hT h p0 = 11 then (Option.bind (f_X9_push p0 p1 p2 h) (fun q111 => (some (q111.1, q111.2)))) else none))
set_option maxHeartbeats 4000000 in
set_option maxRecDepth 20000 in
theorem p_X9_step {p0 : Nat} {p1 : Int32} {p2 : Int32} {p3 : Nat} {h : HS} {q : (Int32 × HS)} (H : f_X9_step p0 p1 p2 p3 h = some q) : Pr h q.2 := by
  unfold f_X9_step at H
  replace H := oi H; obtain ⟨c1, H⟩ | ⟨c1, H⟩ := H
  · replace H := oi H; obtain ⟨c2, H⟩ | ⟨c2, H⟩ := H
    · replace H := oi H; obtain ⟨c3, H⟩ | ⟨c3, H⟩ := H
      · replace H := og H; obtain ⟨g6, H⟩ := H
        replace H := ob H; obtain ⟨q4, c5, H⟩ := H
        have e7 := p_X9_alter c5
        obtain rfl := Option.some.inj H
        exact e7
      · replace H := oi H; obtain ⟨c9, H⟩ | ⟨c9, H⟩ := H
        · replace H := og H; obtain ⟨g32, H⟩ := H
          replace H := ob H; obtain ⟨q30, c31, H⟩ := H
          have e33 := p_X9_alter c31
          obtain rfl := Option.some.inj H
          exact e33
        · replace H := oi H; obtain ⟨c10, H⟩ | ⟨c10, H⟩ := H
          · obtain rfl := Option.some.inj H
            exact Pr.rf
          · replace H := og H; obtain ⟨g11, H⟩ := H
            replace H := oom H; obtain ⟨-, H⟩ | ⟨b12, e13, H⟩ := H
            · exact nz H
            replace H := og H; obtain ⟨g14, H⟩ := H
            replace H := oi H; obtain ⟨c15, H⟩ | ⟨c15, H⟩ := H
            · replace H := oom H; obtain ⟨-, H⟩ | ⟨b16, e17, H⟩ := H
              · exact nz H
              replace H := oom H; obtain ⟨-, H⟩ | ⟨b18, e19, H⟩ := H
              · exact nz H
              replace H := og H; obtain ⟨g20, H⟩ := H
              replace H := og H; obtain ⟨g21, H⟩ := H
              replace H := oom H; obtain ⟨-, H⟩ | ⟨b22, e23, H⟩ := H
              · exact nz H
              replace H := og H; obtain ⟨g24, H⟩ := H
              replace H := og H; obtain ⟨g25, H⟩ := H
              replace H := ob H; obtain ⟨q26, c27, H⟩ := H
              replace H := og H; obtain ⟨g28, H⟩ := H
              replace H := og H; obtain ⟨g29, H⟩ := H
              obtain rfl := Option.some.inj H
              exact (Pr.rf.sI)
            · obtain rfl := Option.some.inj H
              exact Pr.rf
    · replace H := oi H; obtain ⟨c35, H⟩ | ⟨c35, H⟩ := H
      · replace H := oi H; obtain ⟨c36, H⟩ | ⟨c36, H⟩ := H
        · replace H := og H; obtain ⟨g39, H⟩ := H
          replace H := ob H; obtain ⟨q37, c38, H⟩ := H
          have e40 := p_X9_alter c38
          obtain rfl := Option.some.inj H
          exact e40
        · replace H := oi H; obtain ⟨c42, H⟩ | ⟨c42, H⟩ := H
          · replace H := og H; obtain ⟨g65, H⟩ := H
            replace H := ob H; obtain ⟨q63, c64, H⟩ := H
            have e66 := p_X9_alter c64
            obtain rfl := Option.some.inj H
            exact e66
          · replace H := oi H; obtain ⟨c43, H⟩ | ⟨c43, H⟩ := H
            · obtain rfl := Option.some.inj H
              exact Pr.rf
            · replace H := og H; obtain ⟨g44, H⟩ := H
              replace H := oom H; obtain ⟨-, H⟩ | ⟨b45, e46, H⟩ := H
              · exact nz H
              replace H := og H; obtain ⟨g47, H⟩ := H
              replace H := oi H; obtain ⟨c48, H⟩ | ⟨c48, H⟩ := H
              · replace H := oom H; obtain ⟨-, H⟩ | ⟨b49, e50, H⟩ := H
                · exact nz H
                replace H := oom H; obtain ⟨-, H⟩ | ⟨b51, e52, H⟩ := H
                · exact nz H
                replace H := og H; obtain ⟨g53, H⟩ := H
                replace H := og H; obtain ⟨g54, H⟩ := H
                replace H := oom H; obtain ⟨-, H⟩ | ⟨b55, e56, H⟩ := H
                · exact nz H
                replace H := og H; obtain ⟨g57, H⟩ := H
                replace H := og H; obtain ⟨g58, H⟩ := H
                replace H := ob H; obtain ⟨q59, c60, H⟩ := H
                replace H := og H; obtain ⟨g61, H⟩ := H
                replace H := og H; obtain ⟨g62, H⟩ := H
                obtain rfl := Option.some.inj H
                exact (Pr.rf.sI)
              · obtain rfl := Option.some.inj H
                exact Pr.rf
      · replace H := og H; obtain ⟨g68, H⟩ := H
        replace H := oi H; obtain ⟨c69, H⟩ | ⟨c69, H⟩ := H
        · replace H := oi H; obtain ⟨c70, H⟩ | ⟨c70, H⟩ := H
          · replace H := og H; obtain ⟨g73, H⟩ := H
            replace H := ob H; obtain ⟨q71, c72, H⟩ := H
            have e74 := p_X9_alter c72
            obtain rfl := Option.some.inj H
            exact e74
          · replace H := oi H; obtain ⟨c77, H⟩ | ⟨c77, H⟩ := H
            · replace H := og H; obtain ⟨g100, H⟩ := H
              replace H := ob H; obtain ⟨q98, c99, H⟩ := H
              have e101 := p_X9_alter c99
              obtain rfl := Option.some.inj H
              exact e101
            · replace H := oi H; obtain ⟨c78, H⟩ | ⟨c78, H⟩ := H
              · obtain rfl := Option.some.inj H
                exact Pr.rf
              · replace H := og H; obtain ⟨g79, H⟩ := H
                replace H := oom H; obtain ⟨-, H⟩ | ⟨b80, e81, H⟩ := H
                · exact nz H
                replace H := og H; obtain ⟨g82, H⟩ := H
                replace H := oi H; obtain ⟨c83, H⟩ | ⟨c83, H⟩ := H
                · replace H := oom H; obtain ⟨-, H⟩ | ⟨b84, e85, H⟩ := H
                  · exact nz H
                  replace H := oom H; obtain ⟨-, H⟩ | ⟨b86, e87, H⟩ := H
                  · exact nz H
                  replace H := og H; obtain ⟨g88, H⟩ := H
                  replace H := og H; obtain ⟨g89, H⟩ := H
                  replace H := oom H; obtain ⟨-, H⟩ | ⟨b90, e91, H⟩ := H
                  · exact nz H
                  replace H := og H; obtain ⟨g92, H⟩ := H
                  replace H := og H; obtain ⟨g93, H⟩ := H
                  replace H := ob H; obtain ⟨q94, c95, H⟩ := H
                  replace H := og H; obtain ⟨g96, H⟩ := H
                  replace H := og H; obtain ⟨g97, H⟩ := H
                  obtain rfl := Option.some.inj H
                  exact (Pr.rf.sI)
                · obtain rfl := Option.some.inj H
                  exact Pr.rf
        · replace H := og H; obtain ⟨g104, H⟩ := H
          replace H := og H; obtain ⟨g107, H⟩ := H
          replace H := ob H; obtain ⟨q105, c106, H⟩ := H
          have e108 := p_X9_push c106
          obtain rfl := Option.some.inj H
          exact e108
  · replace H := og H; obtain ⟨g113, H⟩ := H
    replace H := ob H; obtain ⟨q111, c112, H⟩ := H
    have e114 := p_X9_push c112
    obtain rfl := Option.some.inj H
    exact e114
set_option maxHeartbeats 4000000 in
set_option maxRecDepth 20000 in
theorem t_X9_step {G : GE} (d : Nat) {p0 : Nat} {p1 : Int32} {p2 : Int32} {p3 : Nat} {h : HS} {q : (Int32 × HS)} (H : f_X9_step p0 p1 p2 p3 h = some q) : CE G (d + 1) yX9_step miX9_step [.ref p0, .int p1, .int p2, .ref p3] h (some (.int q.1)) (q.2) := by
  unfold f_X9_step at H
  refine ce_of rfl (by decide) (fun q => by first | rfl | cases q) (Nat.le_of_ble_eq_true rfl) rfl ?_
  refine e_iload_n dX9_step_0 rfl ?_
  refine e_sipush (v := (10200 : Int32)) dX9_step_1 (by decide) ?_
  refine e_isub dX9_step_4 ?_
  refine e_istore dX9_step_5 (Nat.le_of_ble_eq_true rfl) rfl rfl ?_
  refine e_iload_n dX9_step_7 rfl ?_
  refine e_sipush (v := (10000 : Int32)) dX9_step_8 (by decide) ?_
  refine e_icmp_ge (tgt := 21) dX9_step_11 (by decide) (fun c1 => ?_) (fun c1 => ?_)
  · replace H := ot c1 H
    refine e_iload dX9_step_21 rfl ?_
    refine e_if_lt (tgt := 50) dX9_step_23 (by decide) (fun c2 => ?_) (fun c2 => ?_)
    · replace H := ot c2 H
      refine e_iload_n dX9_step_50 rfl ?_
      refine e_sipush (v := (10001 : Int32)) dX9_step_51 (by decide) ?_
      refine e_icmp_eq (tgt := 64) dX9_step_54 (by decide) (fun c3 => ?_) (fun c3 => ?_)
      · replace H := ot c3 H
        refine g_aload_n dX9_step_64 rfl rfl ?_
        refine e_iload_n dX9_step_65 rfl ?_
        refine e_iload_n dX9_step_66 rfl ?_
        replace H := og H; obtain ⟨g6, H⟩ := H
        replace H := ob H; obtain ⟨q4, c5, H⟩ := H
        refine v1 g6 (by decide) rfl rfl lmX9_33 liX9_alter lvX9_X9_alter msX9_alter dX9_step_67 (t_X9_alter (d + 0) c5) rfl (Nat.le_of_ble_eq_true rfl) (Nat.le_refl _) ?_
        have e7 := p_X9_alter c5
        have f8 := e7.k g6 (by decide)
        obtain rfl := Option.some.inj H
        exact z_iret rfl rfl dX9_step_70 rfl rfl
      · replace H := of_ c3 H
        refine e_iload_n dX9_step_57 rfl ?_
        refine e_sipush (v := (10212 : Int32)) dX9_step_58 (by decide) ?_
        refine e_icmp_ne (tgt := 71) dX9_step_61 (by decide) (fun c9 => ?_) (fun c9 => ?_)
        · replace H := of_ c9 H
          refine e_iload_n dX9_step_71 rfl ?_
          refine e_iconst (v := (2 : Int32)) dX9_step_72 (by decide) ?_
          refine e_icmp_lt (tgt := 85) dX9_step_73 (by decide) (fun c10 => ?_) (fun c10 => ?_)
          · replace H := ot c10 H
            refine e_iload_n dX9_step_85 rfl ?_
            obtain rfl := Option.some.inj H
            exact z_iret rfl rfl dX9_step_86 rfl rfl
          · replace H := of_ c10 H
            refine e_iload_n dX9_step_76 rfl ?_
            refine g_aload_n dX9_step_77 rfl rfl ?_
            replace H := og H; obtain ⟨g11, H⟩ := H
            replace H := oom H; obtain ⟨-, H⟩ | ⟨b12, e13, H⟩ := H
            · exact nz H
            refine e_getR g11 flX9_15_10 dX9_step_78 rfl e13 ?_
            replace H := og H; obtain ⟨g14, H⟩ := H
            refine e_alen g14 (by decide) dX9_step_81 ?_
            refine e_icmp_le (tgt := 87) dX9_step_82 (by decide) (fun c15 => ?_) (fun c15 => ?_)
            · replace H := ot c15 H
              refine g_aload_n dX9_step_87 rfl rfl ?_
              replace H := oom H; obtain ⟨-, H⟩ | ⟨b16, e17, H⟩ := H
              · exact nz H
              refine e_getR g11 flX9_15_10 dX9_step_88 rfl e17 ?_
              refine e_iload_n dX9_step_91 rfl ?_
              refine e_iconst (v := (2 : Int32)) dX9_step_92 (by decide) ?_
              refine e_isub dX9_step_93 ?_
              refine e_iload_n dX9_step_94 rfl ?_
              refine g_aload_n dX9_step_95 rfl rfl ?_
              replace H := oom H; obtain ⟨-, H⟩ | ⟨b18, e19, H⟩ := H
              · exact nz H
              refine e_getR g11 flX9_15_10 dX9_step_96 rfl e19 ?_
              refine e_iload_n dX9_step_99 rfl ?_
              refine e_iconst (v := (2 : Int32)) dX9_step_100 (by decide) ?_
              refine e_isub dX9_step_101 ?_
              replace H := og H; obtain ⟨g20, H⟩ := H
              replace H := og H; obtain ⟨g21, H⟩ := H
              refine e_iald g20 (ixb_y rfl g21) dX9_step_102 ?_
              refine g_aload_n dX9_step_103 rfl rfl ?_
              replace H := oom H; obtain ⟨-, H⟩ | ⟨b22, e23, H⟩ := H
              · exact nz H
              refine e_getR g11 flX9_15_10 dX9_step_104 rfl e23 ?_
              refine e_iload_n dX9_step_107 rfl ?_
              refine e_iconst (v := (1 : Int32)) dX9_step_108 (by decide) ?_
              refine e_isub dX9_step_109 ?_
              replace H := og H; obtain ⟨g24, H⟩ := H
              replace H := og H; obtain ⟨g25, H⟩ := H
              refine e_iald g24 (ixb_y rfl g25) dX9_step_110 ?_
              replace H := ob H; obtain ⟨q26, c27, H⟩ := H
              refine s1 lmX9_36 lsX9_joined msX9_joined dX9_step_111 (t_X9_joined (d + 0) c27) rfl (Nat.le_of_ble_eq_true rfl) (Nat.le_refl _) ?_
              replace H := og H; obtain ⟨g28, H⟩ := H
              replace H := og H; obtain ⟨g29, H⟩ := H
              refine e_iast g28 (ixb_y rfl g29) dX9_step_114 ?_
              refine e_iload_n dX9_step_115 rfl ?_
              refine e_iconst (v := (1 : Int32)) dX9_step_116 (by decide) ?_
              refine e_isub dX9_step_117 ?_
              obtain rfl := Option.some.inj H
              exact z_iret rfl rfl dX9_step_118 rfl rfl
            · replace H := of_ c15 H
              refine e_iload_n dX9_step_85 rfl ?_
              obtain rfl := Option.some.inj H
              exact z_iret rfl rfl dX9_step_86 rfl rfl
        · replace H := ot c9 H
          refine g_aload_n dX9_step_64 rfl rfl ?_
          refine e_iload_n dX9_step_65 rfl ?_
          refine e_iload_n dX9_step_66 rfl ?_
          replace H := og H; obtain ⟨g32, H⟩ := H
          replace H := ob H; obtain ⟨q30, c31, H⟩ := H
          refine v1 g32 (by decide) rfl rfl lmX9_33 liX9_alter lvX9_X9_alter msX9_alter dX9_step_67 (t_X9_alter (d + 0) c31) rfl (Nat.le_of_ble_eq_true rfl) (Nat.le_refl _) ?_
          have e33 := p_X9_alter c31
          have f34 := e33.k g32 (by decide)
          obtain rfl := Option.some.inj H
          exact z_iret rfl rfl dX9_step_70 rfl rfl
    · replace H := of_ c2 H
      refine e_iload dX9_step_26 rfl ?_
      refine e_bipush (v := (6 : Int32)) dX9_step_28 (by decide) ?_
      refine e_icmp_ge (tgt := 50) dX9_step_30 (by decide) (fun c35 => ?_) (fun c35 => ?_)
      · replace H := ot c35 H
        refine e_iload_n dX9_step_50 rfl ?_
        refine e_sipush (v := (10001 : Int32)) dX9_step_51 (by decide) ?_
        refine e_icmp_eq (tgt := 64) dX9_step_54 (by decide) (fun c36 => ?_) (fun c36 => ?_)
        · replace H := ot c36 H
          refine g_aload_n dX9_step_64 rfl rfl ?_
          refine e_iload_n dX9_step_65 rfl ?_
          refine e_iload_n dX9_step_66 rfl ?_
          replace H := og H; obtain ⟨g39, H⟩ := H
          replace H := ob H; obtain ⟨q37, c38, H⟩ := H
          refine v1 g39 (by decide) rfl rfl lmX9_33 liX9_alter lvX9_X9_alter msX9_alter dX9_step_67 (t_X9_alter (d + 0) c38) rfl (Nat.le_of_ble_eq_true rfl) (Nat.le_refl _) ?_
          have e40 := p_X9_alter c38
          have f41 := e40.k g39 (by decide)
          obtain rfl := Option.some.inj H
          exact z_iret rfl rfl dX9_step_70 rfl rfl
        · replace H := of_ c36 H
          refine e_iload_n dX9_step_57 rfl ?_
          refine e_sipush (v := (10212 : Int32)) dX9_step_58 (by decide) ?_
          refine e_icmp_ne (tgt := 71) dX9_step_61 (by decide) (fun c42 => ?_) (fun c42 => ?_)
          · replace H := of_ c42 H
            refine e_iload_n dX9_step_71 rfl ?_
            refine e_iconst (v := (2 : Int32)) dX9_step_72 (by decide) ?_
            refine e_icmp_lt (tgt := 85) dX9_step_73 (by decide) (fun c43 => ?_) (fun c43 => ?_)
            · replace H := ot c43 H
              refine e_iload_n dX9_step_85 rfl ?_
              obtain rfl := Option.some.inj H
              exact z_iret rfl rfl dX9_step_86 rfl rfl
            · replace H := of_ c43 H
              refine e_iload_n dX9_step_76 rfl ?_
              refine g_aload_n dX9_step_77 rfl rfl ?_
              replace H := og H; obtain ⟨g44, H⟩ := H
              replace H := oom H; obtain ⟨-, H⟩ | ⟨b45, e46, H⟩ := H
              · exact nz H
              refine e_getR g44 flX9_15_10 dX9_step_78 rfl e46 ?_
              replace H := og H; obtain ⟨g47, H⟩ := H
              refine e_alen g47 (by decide) dX9_step_81 ?_
              refine e_icmp_le (tgt := 87) dX9_step_82 (by decide) (fun c48 => ?_) (fun c48 => ?_)
              · replace H := ot c48 H
                refine g_aload_n dX9_step_87 rfl rfl ?_
                replace H := oom H; obtain ⟨-, H⟩ | ⟨b49, e50, H⟩ := H
                · exact nz H
                refine e_getR g44 flX9_15_10 dX9_step_88 rfl e50 ?_
                refine e_iload_n dX9_step_91 rfl ?_
                refine e_iconst (v := (2 : Int32)) dX9_step_92 (by decide) ?_
                refine e_isub dX9_step_93 ?_
                refine e_iload_n dX9_step_94 rfl ?_
                refine g_aload_n dX9_step_95 rfl rfl ?_
                replace H := oom H; obtain ⟨-, H⟩ | ⟨b51, e52, H⟩ := H
                · exact nz H
                refine e_getR g44 flX9_15_10 dX9_step_96 rfl e52 ?_
                refine e_iload_n dX9_step_99 rfl ?_
                refine e_iconst (v := (2 : Int32)) dX9_step_100 (by decide) ?_
                refine e_isub dX9_step_101 ?_
                replace H := og H; obtain ⟨g53, H⟩ := H
                replace H := og H; obtain ⟨g54, H⟩ := H
                refine e_iald g53 (ixb_y rfl g54) dX9_step_102 ?_
                refine g_aload_n dX9_step_103 rfl rfl ?_
                replace H := oom H; obtain ⟨-, H⟩ | ⟨b55, e56, H⟩ := H
                · exact nz H
                refine e_getR g44 flX9_15_10 dX9_step_104 rfl e56 ?_
                refine e_iload_n dX9_step_107 rfl ?_
                refine e_iconst (v := (1 : Int32)) dX9_step_108 (by decide) ?_
                refine e_isub dX9_step_109 ?_
                replace H := og H; obtain ⟨g57, H⟩ := H
                replace H := og H; obtain ⟨g58, H⟩ := H
                refine e_iald g57 (ixb_y rfl g58) dX9_step_110 ?_
                replace H := ob H; obtain ⟨q59, c60, H⟩ := H
                refine s1 lmX9_36 lsX9_joined msX9_joined dX9_step_111 (t_X9_joined (d + 0) c60) rfl (Nat.le_of_ble_eq_true rfl) (Nat.le_refl _) ?_
                replace H := og H; obtain ⟨g61, H⟩ := H
                replace H := og H; obtain ⟨g62, H⟩ := H
                refine e_iast g61 (ixb_y rfl g62) dX9_step_114 ?_
                refine e_iload_n dX9_step_115 rfl ?_
                refine e_iconst (v := (1 : Int32)) dX9_step_116 (by decide) ?_
                refine e_isub dX9_step_117 ?_
                obtain rfl := Option.some.inj H
                exact z_iret rfl rfl dX9_step_118 rfl rfl
              · replace H := of_ c48 H
                refine e_iload_n dX9_step_85 rfl ?_
                obtain rfl := Option.some.inj H
                exact z_iret rfl rfl dX9_step_86 rfl rfl
          · replace H := ot c42 H
            refine g_aload_n dX9_step_64 rfl rfl ?_
            refine e_iload_n dX9_step_65 rfl ?_
            refine e_iload_n dX9_step_66 rfl ?_
            replace H := og H; obtain ⟨g65, H⟩ := H
            replace H := ob H; obtain ⟨q63, c64, H⟩ := H
            refine v1 g65 (by decide) rfl rfl lmX9_33 liX9_alter lvX9_X9_alter msX9_alter dX9_step_67 (t_X9_alter (d + 0) c64) rfl (Nat.le_of_ble_eq_true rfl) (Nat.le_refl _) ?_
            have e66 := p_X9_alter c64
            have f67 := e66.k g65 (by decide)
            obtain rfl := Option.some.inj H
            exact z_iret rfl rfl dX9_step_70 rfl rfl
      · replace H := of_ c35 H
        refine e_iload dX9_step_33 rfl ?_
        refine g_aload_n dX9_step_35 rfl rfl ?_
        replace H := og H; obtain ⟨g68, H⟩ := H
        refine e_alen g68 (by decide) dX9_step_36 ?_
        refine e_icmp_ge (tgt := 50) dX9_step_37 (by decide) (fun c69 => ?_) (fun c69 => ?_)
        · replace H := ot c69 H
          refine e_iload_n dX9_step_50 rfl ?_
          refine e_sipush (v := (10001 : Int32)) dX9_step_51 (by decide) ?_
          refine e_icmp_eq (tgt := 64) dX9_step_54 (by decide) (fun c70 => ?_) (fun c70 => ?_)
          · replace H := ot c70 H
            refine g_aload_n dX9_step_64 rfl rfl ?_
            refine e_iload_n dX9_step_65 rfl ?_
            refine e_iload_n dX9_step_66 rfl ?_
            replace H := og H; obtain ⟨g73, H⟩ := H
            replace H := ob H; obtain ⟨q71, c72, H⟩ := H
            refine v1 g73 (by decide) rfl rfl lmX9_33 liX9_alter lvX9_X9_alter msX9_alter dX9_step_67 (t_X9_alter (d + 0) c72) rfl (Nat.le_of_ble_eq_true rfl) (Nat.le_refl _) ?_
            have e74 := p_X9_alter c72
            have f75 := e74.k g68 (by decide)
            have f76 := e74.k g73 (by decide)
            obtain rfl := Option.some.inj H
            exact z_iret rfl rfl dX9_step_70 rfl rfl
          · replace H := of_ c70 H
            refine e_iload_n dX9_step_57 rfl ?_
            refine e_sipush (v := (10212 : Int32)) dX9_step_58 (by decide) ?_
            refine e_icmp_ne (tgt := 71) dX9_step_61 (by decide) (fun c77 => ?_) (fun c77 => ?_)
            · replace H := of_ c77 H
              refine e_iload_n dX9_step_71 rfl ?_
              refine e_iconst (v := (2 : Int32)) dX9_step_72 (by decide) ?_
              refine e_icmp_lt (tgt := 85) dX9_step_73 (by decide) (fun c78 => ?_) (fun c78 => ?_)
              · replace H := ot c78 H
                refine e_iload_n dX9_step_85 rfl ?_
                obtain rfl := Option.some.inj H
                exact z_iret rfl rfl dX9_step_86 rfl rfl
              · replace H := of_ c78 H
                refine e_iload_n dX9_step_76 rfl ?_
                refine g_aload_n dX9_step_77 rfl rfl ?_
                replace H := og H; obtain ⟨g79, H⟩ := H
                replace H := oom H; obtain ⟨-, H⟩ | ⟨b80, e81, H⟩ := H
                · exact nz H
                refine e_getR g79 flX9_15_10 dX9_step_78 rfl e81 ?_
                replace H := og H; obtain ⟨g82, H⟩ := H
                refine e_alen g82 (by decide) dX9_step_81 ?_
                refine e_icmp_le (tgt := 87) dX9_step_82 (by decide) (fun c83 => ?_) (fun c83 => ?_)
                · replace H := ot c83 H
                  refine g_aload_n dX9_step_87 rfl rfl ?_
                  replace H := oom H; obtain ⟨-, H⟩ | ⟨b84, e85, H⟩ := H
                  · exact nz H
                  refine e_getR g79 flX9_15_10 dX9_step_88 rfl e85 ?_
                  refine e_iload_n dX9_step_91 rfl ?_
                  refine e_iconst (v := (2 : Int32)) dX9_step_92 (by decide) ?_
                  refine e_isub dX9_step_93 ?_
                  refine e_iload_n dX9_step_94 rfl ?_
                  refine g_aload_n dX9_step_95 rfl rfl ?_
                  replace H := oom H; obtain ⟨-, H⟩ | ⟨b86, e87, H⟩ := H
                  · exact nz H
                  refine e_getR g79 flX9_15_10 dX9_step_96 rfl e87 ?_
                  refine e_iload_n dX9_step_99 rfl ?_
                  refine e_iconst (v := (2 : Int32)) dX9_step_100 (by decide) ?_
                  refine e_isub dX9_step_101 ?_
                  replace H := og H; obtain ⟨g88, H⟩ := H
                  replace H := og H; obtain ⟨g89, H⟩ := H
                  refine e_iald g88 (ixb_y rfl g89) dX9_step_102 ?_
                  refine g_aload_n dX9_step_103 rfl rfl ?_
                  replace H := oom H; obtain ⟨-, H⟩ | ⟨b90, e91, H⟩ := H
                  · exact nz H
                  refine e_getR g79 flX9_15_10 dX9_step_104 rfl e91 ?_
                  refine e_iload_n dX9_step_107 rfl ?_
                  refine e_iconst (v := (1 : Int32)) dX9_step_108 (by decide) ?_
                  refine e_isub dX9_step_109 ?_
                  replace H := og H; obtain ⟨g92, H⟩ := H
                  replace H := og H; obtain ⟨g93, H⟩ := H
                  refine e_iald g92 (ixb_y rfl g93) dX9_step_110 ?_
                  replace H := ob H; obtain ⟨q94, c95, H⟩ := H
                  refine s1 lmX9_36 lsX9_joined msX9_joined dX9_step_111 (t_X9_joined (d + 0) c95) rfl (Nat.le_of_ble_eq_true rfl) (Nat.le_refl _) ?_
                  replace H := og H; obtain ⟨g96, H⟩ := H
                  replace H := og H; obtain ⟨g97, H⟩ := H
                  refine e_iast g96 (ixb_y rfl g97) dX9_step_114 ?_
                  refine e_iload_n dX9_step_115 rfl ?_
                  refine e_iconst (v := (1 : Int32)) dX9_step_116 (by decide) ?_
                  refine e_isub dX9_step_117 ?_
                  obtain rfl := Option.some.inj H
                  exact z_iret rfl rfl dX9_step_118 rfl rfl
                · replace H := of_ c83 H
                  refine e_iload_n dX9_step_85 rfl ?_
                  obtain rfl := Option.some.inj H
                  exact z_iret rfl rfl dX9_step_86 rfl rfl
            · replace H := ot c77 H
              refine g_aload_n dX9_step_64 rfl rfl ?_
              refine e_iload_n dX9_step_65 rfl ?_
              refine e_iload_n dX9_step_66 rfl ?_
              replace H := og H; obtain ⟨g100, H⟩ := H
              replace H := ob H; obtain ⟨q98, c99, H⟩ := H
              refine v1 g100 (by decide) rfl rfl lmX9_33 liX9_alter lvX9_X9_alter msX9_alter dX9_step_67 (t_X9_alter (d + 0) c99) rfl (Nat.le_of_ble_eq_true rfl) (Nat.le_refl _) ?_
              have e101 := p_X9_alter c99
              have f102 := e101.k g68 (by decide)
              have f103 := e101.k g100 (by decide)
              obtain rfl := Option.some.inj H
              exact z_iret rfl rfl dX9_step_70 rfl rfl
        · replace H := of_ c69 H
          refine g_aload_n dX9_step_40 rfl rfl ?_
          refine g_aload_n dX9_step_41 rfl rfl ?_
          refine e_iload dX9_step_42 rfl ?_
          replace H := og H; obtain ⟨g104, H⟩ := H
          refine e_iald g68 (ixb_y rfl g104) dX9_step_44 ?_
          refine e_iload_n dX9_step_45 rfl ?_
          replace H := og H; obtain ⟨g107, H⟩ := H
          replace H := ob H; obtain ⟨q105, c106, H⟩ := H
          refine v1 g107 (by decide) rfl rfl lmX9_29 liX9_push lvX9_X9_push msX9_push dX9_step_46 (t_X9_push (d + 0) c106) rfl (Nat.le_of_ble_eq_true rfl) (Nat.le_refl _) ?_
          have e108 := p_X9_push c106
          have f109 := e108.k g68 (by decide)
          have f110 := e108.k g107 (by decide)
          obtain rfl := Option.some.inj H
          exact z_iret rfl rfl dX9_step_49 rfl rfl
  · replace H := of_ c1 H
    refine g_aload_n dX9_step_14 rfl rfl ?_
    refine e_iload_n dX9_step_15 rfl ?_
    refine e_iload_n dX9_step_16 rfl ?_
    replace H := og H; obtain ⟨g113, H⟩ := H
    replace H := ob H; obtain ⟨q111, c112, H⟩ := H
    refine v1 g113 (by decide) rfl rfl lmX9_29 liX9_push lvX9_X9_push msX9_push dX9_step_17 (t_X9_push (d + 0) c112) rfl (Nat.le_of_ble_eq_true rfl) (Nat.le_refl _) ?_
    have e114 := p_X9_push c112
    have f115 := e114.k g113 (by decide)
    obtain rfl := Option.some.inj H
    exact z_iret rfl rfl dX9_step_20 rfl rfl
-- X9_comesTo
def l_X9_comesTo_61 (y0 : Nat) (y2 : Nat) (y4 : Int32)  : Nat → Int32 → Int32 → HS → Option (Int32 × HS)
  | 0, _, _, _ => none
  | n + 1, x5, x6, h => (if x6 < 0 then (some (x5, h)) else (if y4 ≤ x6 then (some (x5, h)) else (if hT h y0 = 11 then (om (hR h y0 0) none (fun b39 => (if hT h b39 = 15 then (if (nI (hLn h b39)) ≤ x6 then (some (x5, h)) else (om (hR h y0 0) none (fun b43 => (if hT h b43 = 15 then (if ixb x6 (hLn h b43) = true then (Option.bind (f_X9_step y0 (hI h b43 x6.toNatClampNeg) x5 y2 h) (fun q47 => (l_X9_comesTo_61 y0 y2 y4 n q47.1 (x6 + (1 : Int32)) q47.2))) else none) else none)))) else none))) else none)))
set_option maxHeartbeats 4000000 in
set_option maxRecDepth 20000 in
theorem p_X9_comesTo_61 {y0 : Nat} {y2 : Nat} {y4 : Int32} : ∀ (n : Nat) {x5 : Int32} {x6 : Int32} {h : HS} {q : (Int32 × HS)}, l_X9_comesTo_61 y0 y2 y4 n x5 x6 h = some q → Pr h q.2 := by
  intro n
  induction n with
  | zero => intro x5 x6 h q H; exact nz H
  | succ n ih =>
    intro x5 x6 h q H
    unfold l_X9_comesTo_61 at H
    replace H := oi H; obtain ⟨c36, H⟩ | ⟨c36, H⟩ := H
    · obtain rfl := Option.some.inj H
      exact Pr.rf
    · replace H := oi H; obtain ⟨c37, H⟩ | ⟨c37, H⟩ := H
      · obtain rfl := Option.some.inj H
        exact Pr.rf
      · replace H := og H; obtain ⟨g38, H⟩ := H
        replace H := oom H; obtain ⟨-, H⟩ | ⟨b39, e40, H⟩ := H
        · exact nz H
        replace H := og H; obtain ⟨g41, H⟩ := H
        replace H := oi H; obtain ⟨c42, H⟩ | ⟨c42, H⟩ := H
        · obtain rfl := Option.some.inj H
          exact Pr.rf
        · replace H := oom H; obtain ⟨-, H⟩ | ⟨b43, e44, H⟩ := H
          · exact nz H
          replace H := og H; obtain ⟨g45, H⟩ := H
          replace H := og H; obtain ⟨g46, H⟩ := H
          replace H := ob H; obtain ⟨q47, c48, H⟩ := H
          have e49 := p_X9_step c48
          exact e49.tr (ih H)
set_option maxHeartbeats 4000000 in
set_option maxRecDepth 20000 in
theorem w_X9_comesTo_61 {G : GE} (d : Nat) {y0 : Nat} {y2 : Nat} {y4 : Int32} {r : Option Value} {h' : HS}  : ∀ (n : Nat) {x5 : Int32} {x6 : Int32} {h : HS} {q : (Int32 × HS)}, l_X9_comesTo_61 y0 y2 y4 n x5 x6 h = some q → En G (d + 2) miX9_comesTo 105 [.ref y0, dum, dum, dum, dum, .int q.1, dum] [] q.2 r h' → En G (d + 2) miX9_comesTo 61 [.ref y0, dum, .ref y2, dum, .int y4, .int x5, .int x6] [] h r h' := by
  intro n
  induction n with
  | zero => intro x5 x6 h q H kE; exact nz H
  | succ n ih =>
    intro x5 x6 h q H kE
    unfold l_X9_comesTo_61 at H
    refine e_iload dX9_comesTo_61 rfl ?_
    refine e_if_lt (tgt := 105) dX9_comesTo_63 (by decide) (fun c36 => ?_) (fun c36 => ?_)
    · replace H := ot c36 H
      obtain rfl := Option.some.inj H
      exact e_wk (lk1 (lk1 (lk0 (lk1 (lk0 (lk1 (lk0 lkn))))))) kE
    · replace H := of_ c36 H
      refine e_iload dX9_comesTo_66 rfl ?_
      refine e_iload dX9_comesTo_68 rfl ?_
      refine e_icmp_ge (tgt := 105) dX9_comesTo_70 (by decide) (fun c37 => ?_) (fun c37 => ?_)
      · replace H := ot c37 H
        obtain rfl := Option.some.inj H
        exact e_wk (lk1 (lk1 (lk0 (lk1 (lk0 (lk1 (lk0 lkn))))))) kE
      · replace H := of_ c37 H
        refine e_iload dX9_comesTo_73 rfl ?_
        refine g_aload_n dX9_comesTo_75 rfl rfl ?_
        replace H := og H; obtain ⟨g38, H⟩ := H
        replace H := oom H; obtain ⟨-, H⟩ | ⟨b39, e40, H⟩ := H
        · exact nz H
        refine e_getR g38 flX9_11_10 dX9_comesTo_76 rfl e40 ?_
        replace H := og H; obtain ⟨g41, H⟩ := H
        refine e_alen g41 (by decide) dX9_comesTo_79 ?_
        refine e_icmp_ge (tgt := 105) dX9_comesTo_80 (by decide) (fun c42 => ?_) (fun c42 => ?_)
        · replace H := ot c42 H
          obtain rfl := Option.some.inj H
          exact e_wk (lk1 (lk1 (lk0 (lk1 (lk0 (lk1 (lk0 lkn))))))) kE
        · replace H := of_ c42 H
          refine g_aload_n dX9_comesTo_83 rfl rfl ?_
          refine g_aload_n dX9_comesTo_84 rfl rfl ?_
          replace H := oom H; obtain ⟨-, H⟩ | ⟨b43, e44, H⟩ := H
          · exact nz H
          refine e_getR g38 flX9_11_10 dX9_comesTo_85 rfl e44 ?_
          refine e_iload dX9_comesTo_88 rfl ?_
          replace H := og H; obtain ⟨g45, H⟩ := H
          replace H := og H; obtain ⟨g46, H⟩ := H
          refine e_iald g45 (ixb_y rfl g46) dX9_comesTo_90 ?_
          refine e_iload dX9_comesTo_91 rfl ?_
          refine g_aload_n dX9_comesTo_93 rfl rfl ?_
          replace H := ob H; obtain ⟨q47, c48, H⟩ := H
          refine v1 g38 (by decide) rfl rfl lmX9_25 liX9_step lvX9_X9_step msX9_step dX9_comesTo_94 (t_X9_step (d + 0) c48) rfl (Nat.le_of_ble_eq_true rfl) (Nat.le_refl _) ?_
          have e49 := p_X9_step c48
          have f50 := e49.k g38 (by decide)
          have f51 := e49.k g41 (by decide)
          have f52 := e49.k g45 (by decide)
          refine e_istore dX9_comesTo_97 (Nat.le_of_ble_eq_true rfl) rfl rfl ?_
          refine e_iinc dX9_comesTo_99 rfl (ii_ (by decide : Int32.ofInt (1) = (1 : Int32))) (Nat.le_of_ble_eq_true rfl) rfl rfl ?_
          refine e_goto (tgt := 61) dX9_comesTo_102 (by decide) ?_
          exact e_wk (lk1 (lk1 (lk1 (lk1 (lk1 (lk1 (lk1 lkn))))))) (ih H kE)
def f_X9_comesTo (p0 : Nat) (p1 : Int32) (p2 : Nat) (h : HS) : Option (Int32 × HS) := (Option.bind (if p1 = 0 then (some (0 : Int32)) else (if p1 = (1 : Int32) then (if hT h p0 = 11 then (some (hI h p0 2)) else none) else (if hT h p0 = 11 then (some (hI h p0 3)) else none))) (fun q2 => (Option.bind (if p1 = 0 then (if hT h p0 = 11 then (some (hI h p0 2)) else none) else (if p1 = (1 : Int32) then (if hT h p0 = 11 then (some (hI h p0 3)) else none) else (if hT h p0 = 11 then (om (hR h p0 0) none (fun b13 => (if hT h b13 = 15 then (some (nI (hLn h b13))) else none))) else none))) (fun q9 => (Option.bind (l_X9_comesTo_61 p0 p2 q9 1000 (0 : Int32) q2 h) (fun q53 => (if q53.1 ≤ 0 then (some ((0 : Int32), q53.2)) else (if hT q53.2 p0 = 11 then (om (hR q53.2 p0 1) none (fun b58 => (if hT q53.2 b58 = 15 then (if (nI (hLn q53.2 b58)) ≤ 0 then (some ((0 : Int32), q53.2)) else (om (hR q53.2 p0 1) none (fun b62 => (if hT q53.2 b62 = 15 then (if ixb (0 : Int32) (hLn q53.2 b62) = true then (some ((hI q53.2 b62 (0 : Int32).toNatClampNeg), q53.2)) else none) else none)))) else none))) else none))))))))
set_option maxHeartbeats 4000000 in
set_option maxRecDepth 20000 in
theorem p_X9_comesTo {p0 : Nat} {p1 : Int32} {p2 : Nat} {h : HS} {q : (Int32 × HS)} (H : f_X9_comesTo p0 p1 p2 h = some q) : Pr h q.2 := by
  unfold f_X9_comesTo at H
  replace H := ob H; obtain ⟨q2, c7, H⟩ := H
  replace H := ob H; obtain ⟨q9, c18, H⟩ := H
  replace H := ob H; obtain ⟨q53, c54, H⟩ := H
  have e55 := p_X9_comesTo_61 1000 c54
  replace H := oi H; obtain ⟨c56, H⟩ | ⟨c56, H⟩ := H
  · obtain rfl := Option.some.inj H
    exact e55
  · replace H := og H; obtain ⟨g57, H⟩ := H
    replace H := oom H; obtain ⟨-, H⟩ | ⟨b58, e59, H⟩ := H
    · exact nz H
    replace H := og H; obtain ⟨g60, H⟩ := H
    replace H := oi H; obtain ⟨c61, H⟩ | ⟨c61, H⟩ := H
    · obtain rfl := Option.some.inj H
      exact e55
    · replace H := oom H; obtain ⟨-, H⟩ | ⟨b62, e63, H⟩ := H
      · exact nz H
      replace H := og H; obtain ⟨g64, H⟩ := H
      replace H := og H; obtain ⟨g65, H⟩ := H
      obtain rfl := Option.some.inj H
      exact e55
set_option maxHeartbeats 4000000 in
set_option maxRecDepth 20000 in
theorem t_X9_comesTo {G : GE} (d : Nat) {p0 : Nat} {p1 : Int32} {p2 : Nat} {h : HS} {q : (Int32 × HS)} (H : f_X9_comesTo p0 p1 p2 h = some q) : CE G (d + 2) yX9_comesTo miX9_comesTo [.ref p0, .int p1, .ref p2] h (some (.int q.1)) (q.2) := by
  unfold f_X9_comesTo at H
  refine ce_of rfl (by decide) (fun q => by first | rfl | cases q) (Nat.le_of_ble_eq_true rfl) rfl ?_
  refine e_iload_n dX9_comesTo_0 rfl ?_
  replace H := ob H; obtain ⟨q2, c7, H⟩ := H
  have k3 : En G (d + 2) miX9_comesTo 24 [.ref p0, .int p1, .ref p2, dum, dum, dum, dum] [.int q2] h (some (.int q.1)) (q.2) := by
    refine e_istore_n dX9_comesTo_24 (Nat.le_of_ble_eq_true rfl) rfl rfl ?_
    refine e_iload_n dX9_comesTo_25 rfl ?_
    replace H := ob H; obtain ⟨q9, c18, H⟩ := H
    have k10 : En G (d + 2) miX9_comesTo 53 [.ref p0, dum, .ref p2, .int q2, dum, dum, dum] [.int q9] h (some (.int q.1)) (q.2) := by
      refine e_istore dX9_comesTo_53 (Nat.le_of_ble_eq_true rfl) rfl rfl ?_
      refine e_iconst (v := (0 : Int32)) dX9_comesTo_55 (by decide) ?_
      refine e_istore dX9_comesTo_56 (Nat.le_of_ble_eq_true rfl) rfl rfl ?_
      refine e_iload_n dX9_comesTo_58 rfl ?_
      refine e_istore dX9_comesTo_59 (Nat.le_of_ble_eq_true rfl) rfl rfl ?_
      replace H := ob H; obtain ⟨q53, c54, H⟩ := H
      have e55 := p_X9_comesTo_61 1000 c54
      refine e_wk (lk1 (lk1 (lk1 (lk0 (lk1 (lk1 (lk1 lkn))))))) (w_X9_comesTo_61 d 1000 c54 ?_)
      refine e_iload dX9_comesTo_105 rfl ?_
      refine e_if_le (tgt := 127) dX9_comesTo_107 (by decide) (fun c56 => ?_) (fun c56 => ?_)
      · replace H := ot c56 H
        refine e_iconst (v := (0 : Int32)) dX9_comesTo_127 (by decide) ?_
        obtain rfl := Option.some.inj H
        exact z_iret rfl rfl dX9_comesTo_128 rfl rfl
      · replace H := of_ c56 H
        refine g_aload_n dX9_comesTo_110 rfl rfl ?_
        replace H := og H; obtain ⟨g57, H⟩ := H
        replace H := oom H; obtain ⟨-, H⟩ | ⟨b58, e59, H⟩ := H
        · exact nz H
        refine e_getR g57 flX9_15_10 dX9_comesTo_111 rfl e59 ?_
        replace H := og H; obtain ⟨g60, H⟩ := H
        refine e_alen g60 (by decide) dX9_comesTo_114 ?_
        refine e_if_le (tgt := 127) dX9_comesTo_115 (by decide) (fun c61 => ?_) (fun c61 => ?_)
        · replace H := ot c61 H
          refine e_iconst (v := (0 : Int32)) dX9_comesTo_127 (by decide) ?_
          obtain rfl := Option.some.inj H
          exact z_iret rfl rfl dX9_comesTo_128 rfl rfl
        · replace H := of_ c61 H
          refine g_aload_n dX9_comesTo_118 rfl rfl ?_
          replace H := oom H; obtain ⟨-, H⟩ | ⟨b62, e63, H⟩ := H
          · exact nz H
          refine e_getR g57 flX9_15_10 dX9_comesTo_119 rfl e63 ?_
          refine e_iconst (v := (0 : Int32)) dX9_comesTo_122 (by decide) ?_
          replace H := og H; obtain ⟨g64, H⟩ := H
          replace H := og H; obtain ⟨g65, H⟩ := H
          refine e_iald g64 (ixb_y rfl g65) dX9_comesTo_123 ?_
          refine e_goto (tgt := 128) dX9_comesTo_124 (by decide) ?_
          obtain rfl := Option.some.inj H
          exact z_iret rfl rfl dX9_comesTo_128 rfl rfl
    replace H := c18
    refine e_if_ne (tgt := 36) dX9_comesTo_26 (by decide) (fun c8 => ?_) (fun c8 => ?_)
    · replace H := of_ c8 H
      refine e_iload_n dX9_comesTo_36 rfl ?_
      refine e_iconst (v := (1 : Int32)) dX9_comesTo_37 (by decide) ?_
      refine e_icmp_ne (tgt := 48) dX9_comesTo_38 (by decide) (fun c11 => ?_) (fun c11 => ?_)
      · replace H := of_ c11 H
        refine g_aload_n dX9_comesTo_48 rfl rfl ?_
        replace H := og H; obtain ⟨g12, H⟩ := H
        replace H := oom H; obtain ⟨-, H⟩ | ⟨b13, e14, H⟩ := H
        · exact nz H
        refine e_getR g12 flX9_11_10 dX9_comesTo_49 rfl e14 ?_
        replace H := og H; obtain ⟨g15, H⟩ := H
        refine e_alen g15 (by decide) dX9_comesTo_52 ?_
        obtain rfl := Option.some.inj H
        exact e_wk (lk1 (lk0 (lk1 (lk1 (lk1 (lk1 (lk1 lkn))))))) k10
      · replace H := ot c11 H
        refine g_aload_n dX9_comesTo_41 rfl rfl ?_
        replace H := og H; obtain ⟨g16, H⟩ := H
        refine e_getI g16 flX9_22_10 dX9_comesTo_42 rfl ?_
        refine e_goto (tgt := 53) dX9_comesTo_45 (by decide) ?_
        obtain rfl := Option.some.inj H
        exact e_wk (lk1 (lk0 (lk1 (lk1 (lk1 (lk1 (lk1 lkn))))))) k10
    · replace H := ot c8 H
      refine g_aload_n dX9_comesTo_29 rfl rfl ?_
      replace H := og H; obtain ⟨g17, H⟩ := H
      refine e_getI g17 flX9_18_10 dX9_comesTo_30 rfl ?_
      refine e_goto (tgt := 53) dX9_comesTo_33 (by decide) ?_
      obtain rfl := Option.some.inj H
      exact e_wk (lk1 (lk0 (lk1 (lk1 (lk1 (lk1 (lk1 lkn))))))) k10
  replace H := c7
  refine e_if_ne (tgt := 8) dX9_comesTo_1 (by decide) (fun c1 => ?_) (fun c1 => ?_)
  · replace H := of_ c1 H
    refine e_iload_n dX9_comesTo_8 rfl ?_
    refine e_iconst (v := (1 : Int32)) dX9_comesTo_9 (by decide) ?_
    refine e_icmp_ne (tgt := 20) dX9_comesTo_10 (by decide) (fun c4 => ?_) (fun c4 => ?_)
    · replace H := of_ c4 H
      refine g_aload_n dX9_comesTo_20 rfl rfl ?_
      replace H := og H; obtain ⟨g5, H⟩ := H
      refine e_getI g5 flX9_22_10 dX9_comesTo_21 rfl ?_
      obtain rfl := Option.some.inj H
      exact e_wk (lk1 (lk1 (lk1 (lk1 (lk1 (lk1 (lk1 lkn))))))) k3
    · replace H := ot c4 H
      refine g_aload_n dX9_comesTo_13 rfl rfl ?_
      replace H := og H; obtain ⟨g6, H⟩ := H
      refine e_getI g6 flX9_18_10 dX9_comesTo_14 rfl ?_
      refine e_goto (tgt := 24) dX9_comesTo_17 (by decide) ?_
      obtain rfl := Option.some.inj H
      exact e_wk (lk1 (lk1 (lk1 (lk1 (lk1 (lk1 (lk1 lkn))))))) k3
  · replace H := ot c1 H
    refine e_iconst (v := (0 : Int32)) dX9_comesTo_4 (by decide) ?_
    refine e_goto (tgt := 24) dX9_comesTo_5 (by decide) ?_
    obtain rfl := Option.some.inj H
    exact e_wk (lk1 (lk1 (lk1 (lk1 (lk1 (lk1 (lk1 lkn))))))) k3
-- Jxa1e45_init_da8c8
def f_Jxa1e45_init_da8c8 (p0 : Nat) : Option Unit := (some ())
set_option maxHeartbeats 4000000 in
set_option maxRecDepth 20000 in
theorem t_Jxa1e45_init_da8c8 {G : GE} (d : Nat) {p0 : Nat} {h : HS} {q : Unit} (H : f_Jxa1e45_init_da8c8 p0 = some q) : CE G (d + 1) yJxa1e45_init_da8c8 miJxa1e45_init_da8c8 [.ref p0] h (none) (h) := by
  unfold f_Jxa1e45_init_da8c8 at H
  refine ce_of rfl (by decide) (fun q => by first | rfl | cases q) (Nat.le_of_ble_eq_true rfl) rfl ?_
  refine g_aload_n dJxa1e45_init_da8c8_0 rfl rfl ?_
  refine e_objI lmJxa1e45_1 dJxa1e45_init_da8c8_1 (Nat.le_of_ble_eq_true rfl) (by omega) ?_
  obtain rfl := Option.some.inj H
  exact z_vret rfl dJxa1e45_init_da8c8_4 rfl rfl
-- Jxc12de_init_da8c8
def f_Jxc12de_init_da8c8 (p0 : Nat) (h : HS) : Option HS := (Option.bind (f_Jxa1e45_init_da8c8 p0) (fun q1 => (if hT h p0 = 1 then (some (sI h p0 0 (0 : Int32))) else none)))
set_option maxHeartbeats 4000000 in
set_option maxRecDepth 20000 in
theorem p_Jxc12de_init_da8c8 {p0 : Nat} {h : HS} {q : HS} (H : f_Jxc12de_init_da8c8 p0 h = some q) : Pr h q := by
  unfold f_Jxc12de_init_da8c8 at H
  replace H := ob H; obtain ⟨q1, c2, H⟩ := H
  replace H := og H; obtain ⟨g3, H⟩ := H
  obtain rfl := Option.some.inj H
  exact (Pr.rf.sI)
set_option maxHeartbeats 4000000 in
set_option maxRecDepth 20000 in
theorem t_Jxc12de_init_da8c8 {G : GE} (d : Nat) {p0 : Nat} {h : HS} {q : HS} (H : f_Jxc12de_init_da8c8 p0 h = some q) : CE G (d + 2) yJxc12de_init_da8c8 miJxc12de_init_da8c8 [.ref p0] h (none) (q) := by
  unfold f_Jxc12de_init_da8c8 at H
  refine ce_of rfl (by decide) (fun q => by first | rfl | cases q) (Nat.le_of_ble_eq_true rfl) rfl ?_
  refine g_aload_n dJxc12de_init_da8c8_0 rfl rfl ?_
  replace H := ob H; obtain ⟨q1, c2, H⟩ := H
  refine i0 rfl lmJxc12de_1 liJxa1e45_init_da8c8 msJxa1e45_init_da8c8 rfl dJxc12de_init_da8c8_1 (t_Jxa1e45_init_da8c8 (d + 0) c2) rfl (Nat.le_of_ble_eq_true rfl) (Nat.le_refl _) ?_
  refine g_aload_n dJxc12de_init_da8c8_4 rfl rfl ?_
  refine e_iconst (v := (0 : Int32)) dJxc12de_init_da8c8_5 (by decide) ?_
  replace H := og H; obtain ⟨g3, H⟩ := H
  refine e_putI g3 fpJxc12de_7_0i rfl dJxc12de_init_da8c8_6 ?_
  obtain rfl := Option.some.inj H
  exact z_vret rfl dJxc12de_init_da8c8_9 rfl rfl
-- Jx4a65c_init_da8c8
def f_Jx4a65c_init_da8c8 (p0 : Nat) (h : HS) : Option HS := (Option.bind (f_Jxc12de_init_da8c8 p0 h) (fun q1 => (if hT q1 p0 = 1 then (if fixR p0 1 = false then (some (sR q1 p0 1 (some 27))) else none) else none)))
set_option maxHeartbeats 4000000 in
set_option maxRecDepth 20000 in
theorem p_Jx4a65c_init_da8c8 {p0 : Nat} {h : HS} {q : HS} (H : f_Jx4a65c_init_da8c8 p0 h = some q) : Pr h q := by
  unfold f_Jx4a65c_init_da8c8 at H
  replace H := ob H; obtain ⟨q1, c2, H⟩ := H
  have e3 := p_Jxc12de_init_da8c8 c2
  replace H := og H; obtain ⟨g4, H⟩ := H
  replace H := og H; obtain ⟨g5, H⟩ := H
  have e6 := Pr.sR (h := q1) (a := p0) (k := 1) (v := some 27) Pr.rf g5
  obtain rfl := Option.some.inj H
  exact (e3.tr e6)
set_option maxHeartbeats 4000000 in
set_option maxRecDepth 20000 in
theorem t_Jx4a65c_init_da8c8 {G : GE} (d : Nat) {p0 : Nat} {h : HS} {q : HS} (H : f_Jx4a65c_init_da8c8 p0 h = some q) : CE G (d + 3) yJx4a65c_init_da8c8 miJx4a65c_init_da8c8 [.ref p0] h (none) (q) := by
  unfold f_Jx4a65c_init_da8c8 at H
  refine ce_of rfl (by decide) (fun q => by first | rfl | cases q) (Nat.le_of_ble_eq_true rfl) rfl ?_
  refine g_aload_n dJx4a65c_init_da8c8_0 rfl rfl ?_
  replace H := ob H; obtain ⟨q1, c2, H⟩ := H
  refine i0 rfl lmJx4a65c_1 liJxc12de_init_da8c8 msJxc12de_init_da8c8 rfl dJx4a65c_init_da8c8_1 (t_Jxc12de_init_da8c8 (d + 0) c2) rfl (Nat.le_of_ble_eq_true rfl) (Nat.le_refl _) ?_
  have e3 := p_Jxc12de_init_da8c8 c2
  refine g_aload_n dJx4a65c_init_da8c8_4 rfl rfl ?_
  refine e_gsD (gT_1 47 rfl rfl) dJx4a65c_init_da8c8_5 ?_
  replace H := og H; obtain ⟨g4, H⟩ := H
  replace H := og H; obtain ⟨g5, H⟩ := H
  refine e_putR g4 fpJx4a65c_9_0i (by first | exact Or.inl ⟨_, rfl⟩ | exact Or.inr ⟨_, rfl⟩) dJx4a65c_init_da8c8_8 ?_
  have e6 := Pr.sR (h := q1) (a := p0) (k := 1) (v := some 27) Pr.rf g5
  have f7 := e6.k g4 (by decide)
  obtain rfl := Option.some.inj H
  exact z_vret rfl dJx4a65c_init_da8c8_11 rfl rfl
-- Jx4a65c_grow_92f84
def f_Jx4a65c_grow_92f84 (p0 : Nat) (p1 : Int32) (h : HS) : Option ((Option Nat) × HS) := (if hT h p0 = 1 then (om (hR h p0 1) none (fun b2 => (if b2 = 27 then (om (hR h p0 1) none (fun b5 => (if b5 = 27 then (if nab (if (10 : Int32) < p1 then p1 else (10 : Int32)) = true then (if hT h (hN h) = 0 then (bh (hNew h 18 (if (10 : Int32) < p1 then p1 else (10 : Int32)).toNatClampNeg (if (10 : Int32) < p1 then p1 else (10 : Int32)).toNatClampNeg) (fun h12 => (if fixR p0 1 = false then (some ((some (hN h)), (sR h12 p0 1 (some (hN h))))) else none))) else none) else none) else none))) else (if hT h b2 = 18 then (if 0 < (nI (hLn h b2)) then none else (om (hR h p0 1) none (fun b24 => (if b24 = 27 then (if nab (if (10 : Int32) < p1 then p1 else (10 : Int32)) = true then (if hT h (hN h) = 0 then (bh (hNew h 18 (if (10 : Int32) < p1 then p1 else (10 : Int32)).toNatClampNeg (if (10 : Int32) < p1 then p1 else (10 : Int32)).toNatClampNeg) (fun h32 => (if fixR p0 1 = false then (some ((some (hN h)), (sR h32 p0 1 (some (hN h))))) else none))) else none) else none) else none)))) else none)))) else none)
set_option maxHeartbeats 4000000 in
set_option maxRecDepth 20000 in
theorem p_Jx4a65c_grow_92f84 {p0 : Nat} {p1 : Int32} {h : HS} {q : ((Option Nat) × HS)} (H : f_Jx4a65c_grow_92f84 p0 p1 h = some q) : Pr h q.2 := by
  unfold f_Jx4a65c_grow_92f84 at H
  replace H := og H; obtain ⟨g1, H⟩ := H
  replace H := oom H; obtain ⟨-, H⟩ | ⟨b2, e3, H⟩ := H
  · exact nz H
  replace H := oi H; obtain ⟨c44, H⟩ | ⟨c44, H⟩ := H
  · subst c44
    replace H := oom H; obtain ⟨-, H⟩ | ⟨b5, e6, H⟩ := H
    · exact nz H
    replace H := oi H; obtain ⟨c21, H⟩ | ⟨c21, H⟩ := H
    · subst c21
      replace H := og H; obtain ⟨g8, H⟩ := H
      replace H := og H; obtain ⟨g9, H⟩ := H
      have e10 := Pr.nw (h := h) (kd := 18) (ln := (if (10 : Int32) < p1 then p1 else (10 : Int32)).toNatClampNeg) (ns := (if (10 : Int32) < p1 then p1 else (10 : Int32)).toNatClampNeg) Pr.rf g9
      replace H := obh H; obtain ⟨h12, e13, H⟩ := H
      replace H := og H; obtain ⟨g16, H⟩ := H
      have e17 := Pr.sR (h := h12) (a := p0) (k := 1) (v := some (hN h)) Pr.rf g16
      obtain rfl := Option.some.inj H
      exact ((kP e13 e10).tr e17)
    · exact nz H
  · replace H := og H; obtain ⟨g22, H⟩ := H
    replace H := oi H; obtain ⟨c23, H⟩ | ⟨c23, H⟩ := H
    · exact nz H
    · replace H := oom H; obtain ⟨-, H⟩ | ⟨b24, e25, H⟩ := H
      · exact nz H
      replace H := oi H; obtain ⟨c43, H⟩ | ⟨c43, H⟩ := H
      · subst c43
        replace H := og H; obtain ⟨g27, H⟩ := H
        replace H := og H; obtain ⟨g28, H⟩ := H
        have e29 := Pr.nw (h := h) (kd := 18) (ln := (if (10 : Int32) < p1 then p1 else (10 : Int32)).toNatClampNeg) (ns := (if (10 : Int32) < p1 then p1 else (10 : Int32)).toNatClampNeg) Pr.rf g28
        replace H := obh H; obtain ⟨h32, e33, H⟩ := H
        replace H := og H; obtain ⟨g37, H⟩ := H
        have e38 := Pr.sR (h := h32) (a := p0) (k := 1) (v := some (hN h)) Pr.rf g37
        obtain rfl := Option.some.inj H
        exact ((kP e33 e29).tr e38)
      · exact nz H
set_option maxHeartbeats 4000000 in
set_option maxRecDepth 20000 in
theorem t_Jx4a65c_grow_92f84 {G : GE} (d : Nat) {p0 : Nat} {p1 : Int32} {h : HS} {q : ((Option Nat) × HS)} (H : f_Jx4a65c_grow_92f84 p0 p1 h = some q) : CE G (d + 1) yJx4a65c_grow_92f84 miJx4a65c_grow_92f84 [.ref p0, .int p1] h (some (va_rf q.1)) (q.2) := by
  unfold f_Jx4a65c_grow_92f84 at H
  refine ce_of rfl (by decide) (fun q => by first | rfl | cases q) (Nat.le_of_ble_eq_true rfl) rfl ?_
  refine g_aload_n dJx4a65c_grow_92f84_0 rfl rfl ?_
  replace H := og H; obtain ⟨g1, H⟩ := H
  replace H := oom H; obtain ⟨-, H⟩ | ⟨b2, e3, H⟩ := H
  · exact nz H
  refine e_getR g1 flJx4a65c_9_0 dJx4a65c_grow_92f84_1 rfl e3 ?_
  replace H := oi H; obtain ⟨c44, H⟩ | ⟨c44, H⟩ := H
  · subst c44
    refine e_cDl dJx4a65c_grow_92f84_4 ?_
    refine e_istore_n dJx4a65c_grow_92f84_5 (Nat.le_of_ble_eq_true rfl) rfl rfl ?_
    refine e_iload_n dJx4a65c_grow_92f84_6 rfl ?_
    refine e_if_gt (tgt := 20) dJx4a65c_grow_92f84_7 (by decide) (fun c4 => absurd c4 (by decide)) (fun c4 => ?_)
    refine g_aload_n dJx4a65c_grow_92f84_10 rfl rfl ?_
    replace H := oom H; obtain ⟨-, H⟩ | ⟨b5, e6, H⟩ := H
    · exact nz H
    refine e_getR g1 flJx4a65c_9_0 dJx4a65c_grow_92f84_11 rfl e6 ?_
    replace H := oi H; obtain ⟨c21, H⟩ | ⟨c21, H⟩ := H
    · subst c21
      refine e_gsD (gT_1 47 rfl rfl) dJx4a65c_grow_92f84_14 ?_
      refine e_acmp_eq (tgt := 45) dJx4a65c_grow_92f84_17 (by decide) ?_
      refine g_aload_n dJx4a65c_grow_92f84_45 rfl rfl ?_
      refine e_bipush (v := (10 : Int32)) dJx4a65c_grow_92f84_46 (by decide) ?_
      refine e_iload_n dJx4a65c_grow_92f84_48 rfl ?_
      refine e_mmax lmJx4a65c_79 lsJ9_max_7cf53 msJ9_max_7cf53.2.1 (Nat.le_of_ble_eq_true rfl) (by omega) dJx4a65c_grow_92f84_49 ?_
      replace H := og H; obtain ⟨g8, H⟩ := H
      replace H := og H; obtain ⟨g9, H⟩ := H
      refine e_anewO lcJx4a65c_7 (nab_t g8).1 (nab_t g8).2 dJx4a65c_grow_92f84_52 ?_
      have e10 := Pr.nw (h := h) (kd := 18) (ln := (if (10 : Int32) < p1 then p1 else (10 : Int32)).toNatClampNeg) (ns := (if (10 : Int32) < p1 then p1 else (10 : Int32)).toNatClampNeg) Pr.rf g9
      have f11 := e10.k g1 (by decide)
      replace H := obh H; obtain ⟨h12, e13, H⟩ := H
      refine e_hq e13 ?_
      have f14 := kT e13 f11
      have f15 := kT e13 hT_new
      refine e_dup_x1 dJx4a65c_grow_92f84_55 rfl rfl ?_
      replace H := og H; obtain ⟨g16, H⟩ := H
      refine e_putR f14 fpJx4a65c_9_0 (by first | exact Or.inl ⟨_, rfl⟩ | exact Or.inr ⟨_, rfl⟩) dJx4a65c_grow_92f84_56 ?_
      have e17 := Pr.sR (h := h12) (a := p0) (k := 1) (v := some (hN h)) Pr.rf g16
      have f18 := e17.k f14 (by decide)
      have f19 := e17.k f15 (by decide)
      obtain rfl := Option.some.inj H
      exact z_aret rfl (by first | exact Or.inl ⟨_, rfl⟩ | exact Or.inr ⟨_, rfl⟩) (by first | exact Or.inl rfl | exact Or.inr ⟨_, rfl⟩) dJx4a65c_grow_92f84_59 rfl rfl
    · refine e_gsD (gT_1 47 rfl rfl) dJx4a65c_grow_92f84_14 ?_
      exact nz H
  · replace H := og H; obtain ⟨g22, H⟩ := H
    refine e_alen g22 (by decide) dJx4a65c_grow_92f84_4 ?_
    refine e_istore_n dJx4a65c_grow_92f84_5 (Nat.le_of_ble_eq_true rfl) rfl rfl ?_
    refine e_iload_n dJx4a65c_grow_92f84_6 rfl ?_
    refine e_if_gt (tgt := 20) dJx4a65c_grow_92f84_7 (by decide) (fun c23 => ?_) (fun c23 => ?_)
    · replace H := ot c23 H
      refine e_iload_n dJx4a65c_grow_92f84_20 rfl ?_
      refine e_iload_n dJx4a65c_grow_92f84_21 rfl ?_
      refine e_iload_n dJx4a65c_grow_92f84_22 rfl ?_
      refine e_isub dJx4a65c_grow_92f84_23 ?_
      refine e_iload_n dJx4a65c_grow_92f84_24 rfl ?_
      refine e_iconst (v := (1 : Int32)) dJx4a65c_grow_92f84_25 (by decide) ?_
      refine e_ishr dJx4a65c_grow_92f84_26 ?_
      exact nz H
    · replace H := of_ c23 H
      refine g_aload_n dJx4a65c_grow_92f84_10 rfl rfl ?_
      replace H := oom H; obtain ⟨-, H⟩ | ⟨b24, e25, H⟩ := H
      · exact nz H
      refine e_getR g1 flJx4a65c_9_0 dJx4a65c_grow_92f84_11 rfl e25 ?_
      replace H := oi H; obtain ⟨c43, H⟩ | ⟨c43, H⟩ := H
      · subst c43
        refine e_gsD (gT_1 47 rfl rfl) dJx4a65c_grow_92f84_14 ?_
        refine e_acmp_eq (tgt := 45) dJx4a65c_grow_92f84_17 (by decide) ?_
        refine g_aload_n dJx4a65c_grow_92f84_45 rfl rfl ?_
        refine e_bipush (v := (10 : Int32)) dJx4a65c_grow_92f84_46 (by decide) ?_
        refine e_iload_n dJx4a65c_grow_92f84_48 rfl ?_
        refine e_mmax lmJx4a65c_79 lsJ9_max_7cf53 msJ9_max_7cf53.2.1 (Nat.le_of_ble_eq_true rfl) (by omega) dJx4a65c_grow_92f84_49 ?_
        replace H := og H; obtain ⟨g27, H⟩ := H
        replace H := og H; obtain ⟨g28, H⟩ := H
        refine e_anewO lcJx4a65c_7 (nab_t g27).1 (nab_t g27).2 dJx4a65c_grow_92f84_52 ?_
        have e29 := Pr.nw (h := h) (kd := 18) (ln := (if (10 : Int32) < p1 then p1 else (10 : Int32)).toNatClampNeg) (ns := (if (10 : Int32) < p1 then p1 else (10 : Int32)).toNatClampNeg) Pr.rf g28
        have f30 := e29.k g1 (by decide)
        have f31 := e29.k g22 (by decide)
        replace H := obh H; obtain ⟨h32, e33, H⟩ := H
        refine e_hq e33 ?_
        have f34 := kT e33 f30
        have f35 := kT e33 f31
        have f36 := kT e33 hT_new
        refine e_dup_x1 dJx4a65c_grow_92f84_55 rfl rfl ?_
        replace H := og H; obtain ⟨g37, H⟩ := H
        refine e_putR f34 fpJx4a65c_9_0 (by first | exact Or.inl ⟨_, rfl⟩ | exact Or.inr ⟨_, rfl⟩) dJx4a65c_grow_92f84_56 ?_
        have e38 := Pr.sR (h := h32) (a := p0) (k := 1) (v := some (hN h)) Pr.rf g37
        have f39 := e38.k f34 (by decide)
        have f40 := e38.k f35 (by decide)
        have f41 := e38.k f36 (by decide)
        obtain rfl := Option.some.inj H
        exact z_aret rfl (by first | exact Or.inl ⟨_, rfl⟩ | exact Or.inr ⟨_, rfl⟩) (by first | exact Or.inl rfl | exact Or.inr ⟨_, rfl⟩) dJx4a65c_grow_92f84_59 rfl rfl
      · refine e_gsD (gT_1 47 rfl rfl) dJx4a65c_grow_92f84_14 ?_
        exact nz H
-- Jx4a65c_grow_d5877
def f_Jx4a65c_grow_d5877 (p0 : Nat) (h : HS) : Option ((Option Nat) × HS) := (if hT h p0 = 1 then (Option.bind (f_Jx4a65c_grow_92f84 p0 ((hI h p0 2) + (1 : Int32)) h) (fun q2 => (om q2.1 (some (none, q2.2)) (fun b5 => (some ((some b5), q2.2)))))) else none)
set_option maxHeartbeats 4000000 in
set_option maxRecDepth 20000 in
theorem p_Jx4a65c_grow_d5877 {p0 : Nat} {h : HS} {q : ((Option Nat) × HS)} (H : f_Jx4a65c_grow_d5877 p0 h = some q) : Pr h q.2 := by
  unfold f_Jx4a65c_grow_d5877 at H
  replace H := og H; obtain ⟨g1, H⟩ := H
  replace H := ob H; obtain ⟨q2, c3, H⟩ := H
  have e6 := p_Jx4a65c_grow_92f84 c3
  replace H := oom H; obtain ⟨e4, H⟩ | ⟨b5, e4, H⟩ := H
  · obtain rfl := Option.some.inj H
    exact e6
  · obtain rfl := Option.some.inj H
    exact e6
set_option maxHeartbeats 4000000 in
set_option maxRecDepth 20000 in
theorem t_Jx4a65c_grow_d5877 {G : GE} (d : Nat) {p0 : Nat} {h : HS} {q : ((Option Nat) × HS)} (H : f_Jx4a65c_grow_d5877 p0 h = some q) : CE G (d + 2) yJx4a65c_grow_d5877 miJx4a65c_grow_d5877 [.ref p0] h (some (va_rf q.1)) (q.2) := by
  unfold f_Jx4a65c_grow_d5877 at H
  refine ce_of rfl (by decide) (fun q => by first | rfl | cases q) (Nat.le_of_ble_eq_true rfl) rfl ?_
  refine g_aload_n dJx4a65c_grow_d5877_0 rfl rfl ?_
  refine g_aload_n dJx4a65c_grow_d5877_1 rfl rfl ?_
  replace H := og H; obtain ⟨g1, H⟩ := H
  refine e_getI g1 flJx4a65c_48_0 dJx4a65c_grow_d5877_2 rfl ?_
  refine e_iconst (v := (1 : Int32)) dJx4a65c_grow_d5877_5 (by decide) ?_
  refine e_iadd dJx4a65c_grow_d5877_6 ?_
  replace H := ob H; obtain ⟨q2, c3, H⟩ := H
  have e6 := p_Jx4a65c_grow_92f84 c3
  have f7 := e6.k g1 (by decide)
  replace H := oom H; obtain ⟨e4, H⟩ | ⟨b5, e4, H⟩ := H
  · refine v1 g1 (by decide) rfl rfl lmJx4a65c_69 liJx4a65c_grow_92f84 lvJx4a65c_Jx4a65c_grow_92f84 msJx4a65c_grow_92f84 dJx4a65c_grow_d5877_7 (ceN e4 (t_Jx4a65c_grow_92f84 (d + 0) c3)) rfl (Nat.le_of_ble_eq_true rfl) (Nat.le_refl _) ?_
    obtain rfl := Option.some.inj H
    exact z_aret rfl (by first | exact Or.inl ⟨_, rfl⟩ | exact Or.inr ⟨_, rfl⟩) (by first | exact Or.inl rfl | exact Or.inr ⟨_, rfl⟩) dJx4a65c_grow_d5877_10 rfl rfl
  · refine v1 g1 (by decide) rfl rfl lmJx4a65c_69 liJx4a65c_grow_92f84 lvJx4a65c_Jx4a65c_grow_92f84 msJx4a65c_grow_92f84 dJx4a65c_grow_d5877_7 (ceS e4 (t_Jx4a65c_grow_92f84 (d + 0) c3)) rfl (Nat.le_of_ble_eq_true rfl) (Nat.le_refl _) ?_
    obtain rfl := Option.some.inj H
    exact z_aret rfl (by first | exact Or.inl ⟨_, rfl⟩ | exact Or.inr ⟨_, rfl⟩) (by first | exact Or.inl rfl | exact Or.inr ⟨_, rfl⟩) dJx4a65c_grow_d5877_10 rfl rfl
-- Jx4a65c_add_72be8
def f_Jx4a65c_add_72be8 (p0 : Nat) (p1 : Nat) (p2 : Nat) (p3 : Int32) (h : HS) : Option HS := (if p2 = 27 then (if p3 = (0 : Int32) then (if hT h p0 = 1 then (Option.bind (f_Jx4a65c_grow_d5877 p0 h) (fun q2 => (om q2.1 none (fun b6 => (if hT q2.2 b6 = 18 then (if ixb p3 (hLn q2.2 b6) = true then (if fixR b6 p3.toNatClampNeg = false then (if isEl (hT q2.2 p1) = true then (some (sI (sR q2.2 b6 p3.toNatClampNeg (some p1)) p0 2 (p3 + (1 : Int32)))) else none) else none) else none) else none))))) else none) else none) else (if hT h p2 = 18 then (if p3 = (nI (hLn h p2)) then (if hT h p0 = 1 then (Option.bind (f_Jx4a65c_grow_d5877 p0 h) (fun q24 => (om q24.1 none (fun b28 => (if hT q24.2 b28 = 18 then (if ixb p3 (hLn q24.2 b28) = true then (if fixR b28 p3.toNatClampNeg = false then (if isEl (hT q24.2 p1) = true then (some (sI (sR q24.2 b28 p3.toNatClampNeg (some p1)) p0 2 (p3 + (1 : Int32)))) else none) else none) else none) else none))))) else none) else (if ixb p3 (hLn h p2) = true then (if fixR p2 p3.toNatClampNeg = false then (if isEl (hT h p1) = true then (if hT (sR h p2 p3.toNatClampNeg (some p1)) p0 = 1 then (some (sI (sR h p2 p3.toNatClampNeg (some p1)) p0 2 (p3 + (1 : Int32)))) else none) else none) else none) else none)) else none))
set_option maxHeartbeats 4000000 in
set_option maxRecDepth 20000 in
theorem p_Jx4a65c_add_72be8 {p0 : Nat} {p1 : Nat} {p2 : Nat} {p3 : Int32} {h : HS} {q : HS} (H : f_Jx4a65c_add_72be8 p0 p1 p2 p3 h = some q) : Pr h q := by
  unfold f_Jx4a65c_add_72be8 at H
  replace H := oi H; obtain ⟨c0, H⟩ | ⟨c0, H⟩ := H
  · subst c0
    replace H := oi H; obtain ⟨c1, H⟩ | ⟨c1, H⟩ := H
    · replace H := og H; obtain ⟨g4, H⟩ := H
      replace H := ob H; obtain ⟨q2, c3, H⟩ := H
      have e7 := p_Jx4a65c_grow_d5877 c3
      replace H := oom H; obtain ⟨e5, H⟩ | ⟨b6, e5, H⟩ := H
      · exact nz H
      · replace H := og H; obtain ⟨g9, H⟩ := H
        replace H := og H; obtain ⟨g10, H⟩ := H
        replace H := og H; obtain ⟨g11, H⟩ := H
        replace H := og H; obtain ⟨g12, H⟩ := H
        have e13 := Pr.sR (h := q2.2) (a := b6) (k := p3.toNatClampNeg) (v := (some p1)) Pr.rf g11
        obtain rfl := Option.some.inj H
        exact ((e7.tr e13).sI)
    · exact nz H
  · replace H := og H; obtain ⟨g16, H⟩ := H
    replace H := oi H; obtain ⟨c17, H⟩ | ⟨c17, H⟩ := H
    · replace H := og H; obtain ⟨g26, H⟩ := H
      replace H := ob H; obtain ⟨q24, c25, H⟩ := H
      have e29 := p_Jx4a65c_grow_d5877 c25
      replace H := oom H; obtain ⟨e27, H⟩ | ⟨b28, e27, H⟩ := H
      · exact nz H
      · replace H := og H; obtain ⟨g32, H⟩ := H
        replace H := og H; obtain ⟨g33, H⟩ := H
        replace H := og H; obtain ⟨g34, H⟩ := H
        replace H := og H; obtain ⟨g35, H⟩ := H
        have e36 := Pr.sR (h := q24.2) (a := b28) (k := p3.toNatClampNeg) (v := (some p1)) Pr.rf g34
        obtain rfl := Option.some.inj H
        exact ((e29.tr e36).sI)
    · replace H := og H; obtain ⟨g18, H⟩ := H
      replace H := og H; obtain ⟨g19, H⟩ := H
      replace H := og H; obtain ⟨g20, H⟩ := H
      have e21 := Pr.sR (h := h) (a := p2) (k := p3.toNatClampNeg) (v := (some p1)) Pr.rf g19
      replace H := og H; obtain ⟨g23, H⟩ := H
      obtain rfl := Option.some.inj H
      exact (e21.sI)
set_option maxHeartbeats 4000000 in
set_option maxRecDepth 20000 in
theorem t_Jx4a65c_add_72be8 {G : GE} (d : Nat) {p0 : Nat} {p1 : Nat} {p2 : Nat} {p3 : Int32} {h : HS} {q : HS} (H : f_Jx4a65c_add_72be8 p0 p1 p2 p3 h = some q) : CE G (d + 3) yJx4a65c_add_72be8 miJx4a65c_add_72be8 [.ref p0, .ref p1, .ref p2, .int p3] h (none) (q) := by
  unfold f_Jx4a65c_add_72be8 at H
  refine ce_of rfl (by decide) (fun q => by first | rfl | cases q) (Nat.le_of_ble_eq_true rfl) rfl ?_
  replace H := oi H; obtain ⟨c0, H⟩ | ⟨c0, H⟩ := H
  · subst c0
    refine e_iload_n dJx4a65c_add_72be8_0 rfl ?_
    refine g_aload_n dJx4a65c_add_72be8_1 rfl rfl ?_
    refine e_cDl dJx4a65c_add_72be8_2 ?_
    refine e_icmp_ne (tgt := 11) dJx4a65c_add_72be8_3 (by decide) (fun c1 => ?_) (fun c1 => ?_)
    · replace H := of_ c1 H
      refine g_aload_n dJx4a65c_add_72be8_11 rfl rfl ?_
      refine e_iload_n dJx4a65c_add_72be8_12 rfl ?_
      refine g_aload_n dJx4a65c_add_72be8_13 rfl rfl ?_
      exact nz H
    · replace H := ot c1 H
      refine g_aload_n dJx4a65c_add_72be8_6 rfl rfl ?_
      replace H := og H; obtain ⟨g4, H⟩ := H
      replace H := ob H; obtain ⟨q2, c3, H⟩ := H
      have e7 := p_Jx4a65c_grow_d5877 c3
      have f8 := e7.k g4 (by decide)
      replace H := oom H; obtain ⟨e5, H⟩ | ⟨b6, e5, H⟩ := H
      · refine v1 g4 (by decide) rfl rfl lmJx4a65c_129 liJx4a65c_grow_d5877 lvJx4a65c_Jx4a65c_grow_d5877 msJx4a65c_grow_d5877 dJx4a65c_add_72be8_7 (ceN e5 (t_Jx4a65c_grow_d5877 (d + 0) c3)) rfl (Nat.le_of_ble_eq_true rfl) (Nat.le_refl _) ?_
        refine g_astore_n dJx4a65c_add_72be8_10 (Nat.le_of_ble_eq_true rfl) rfl rfl rfl ?_
        refine g_aload_n dJx4a65c_add_72be8_11 rfl rfl ?_
        refine e_iload_n dJx4a65c_add_72be8_12 rfl ?_
        refine g_aload_n dJx4a65c_add_72be8_13 rfl rfl ?_
        exact nz H
      · refine v1 g4 (by decide) rfl rfl lmJx4a65c_129 liJx4a65c_grow_d5877 lvJx4a65c_Jx4a65c_grow_d5877 msJx4a65c_grow_d5877 dJx4a65c_add_72be8_7 (ceS e5 (t_Jx4a65c_grow_d5877 (d + 0) c3)) rfl (Nat.le_of_ble_eq_true rfl) (Nat.le_refl _) ?_
        refine g_astore_n dJx4a65c_add_72be8_10 (Nat.le_of_ble_eq_true rfl) rfl rfl rfl ?_
        refine g_aload_n dJx4a65c_add_72be8_11 rfl rfl ?_
        refine e_iload_n dJx4a65c_add_72be8_12 rfl ?_
        refine g_aload_n dJx4a65c_add_72be8_13 rfl rfl ?_
        replace H := og H; obtain ⟨g9, H⟩ := H
        replace H := og H; obtain ⟨g10, H⟩ := H
        replace H := og H; obtain ⟨g11, H⟩ := H
        replace H := og H; obtain ⟨g12, H⟩ := H
        refine e_aastE g9 (ixb_y rfl g10) g12 dJx4a65c_add_72be8_14 ?_
        have e13 := Pr.sR (h := q2.2) (a := b6) (k := p3.toNatClampNeg) (v := (some p1)) Pr.rf g11
        have f14 := e13.k f8 (by decide)
        have f15 := e13.k g9 (by decide)
        refine g_aload_n dJx4a65c_add_72be8_15 rfl rfl ?_
        refine e_iload_n dJx4a65c_add_72be8_16 rfl ?_
        refine e_iconst (v := (1 : Int32)) dJx4a65c_add_72be8_17 (by decide) ?_
        refine e_iadd dJx4a65c_add_72be8_18 ?_
        refine e_putI f14 fpJx4a65c_48_0 rfl dJx4a65c_add_72be8_19 ?_
        obtain rfl := Option.some.inj H
        exact z_vret rfl dJx4a65c_add_72be8_22 rfl rfl
  · refine e_iload_n dJx4a65c_add_72be8_0 rfl ?_
    refine g_aload_n dJx4a65c_add_72be8_1 rfl rfl ?_
    replace H := og H; obtain ⟨g16, H⟩ := H
    refine e_alen g16 (by decide) dJx4a65c_add_72be8_2 ?_
    refine e_icmp_ne (tgt := 11) dJx4a65c_add_72be8_3 (by decide) (fun c17 => ?_) (fun c17 => ?_)
    · replace H := of_ c17 H
      refine g_aload_n dJx4a65c_add_72be8_11 rfl rfl ?_
      refine e_iload_n dJx4a65c_add_72be8_12 rfl ?_
      refine g_aload_n dJx4a65c_add_72be8_13 rfl rfl ?_
      replace H := og H; obtain ⟨g18, H⟩ := H
      replace H := og H; obtain ⟨g19, H⟩ := H
      replace H := og H; obtain ⟨g20, H⟩ := H
      refine e_aastE g16 (ixb_y rfl g18) g20 dJx4a65c_add_72be8_14 ?_
      have e21 := Pr.sR (h := h) (a := p2) (k := p3.toNatClampNeg) (v := (some p1)) Pr.rf g19
      have f22 := e21.k g16 (by decide)
      refine g_aload_n dJx4a65c_add_72be8_15 rfl rfl ?_
      refine e_iload_n dJx4a65c_add_72be8_16 rfl ?_
      refine e_iconst (v := (1 : Int32)) dJx4a65c_add_72be8_17 (by decide) ?_
      refine e_iadd dJx4a65c_add_72be8_18 ?_
      replace H := og H; obtain ⟨g23, H⟩ := H
      refine e_putI g23 fpJx4a65c_48_0 rfl dJx4a65c_add_72be8_19 ?_
      obtain rfl := Option.some.inj H
      exact z_vret rfl dJx4a65c_add_72be8_22 rfl rfl
    · replace H := ot c17 H
      refine g_aload_n dJx4a65c_add_72be8_6 rfl rfl ?_
      replace H := og H; obtain ⟨g26, H⟩ := H
      replace H := ob H; obtain ⟨q24, c25, H⟩ := H
      have e29 := p_Jx4a65c_grow_d5877 c25
      have f30 := e29.k g16 (by decide)
      have f31 := e29.k g26 (by decide)
      replace H := oom H; obtain ⟨e27, H⟩ | ⟨b28, e27, H⟩ := H
      · refine v1 g26 (by decide) rfl rfl lmJx4a65c_129 liJx4a65c_grow_d5877 lvJx4a65c_Jx4a65c_grow_d5877 msJx4a65c_grow_d5877 dJx4a65c_add_72be8_7 (ceN e27 (t_Jx4a65c_grow_d5877 (d + 0) c25)) rfl (Nat.le_of_ble_eq_true rfl) (Nat.le_refl _) ?_
        refine g_astore_n dJx4a65c_add_72be8_10 (Nat.le_of_ble_eq_true rfl) rfl rfl rfl ?_
        refine g_aload_n dJx4a65c_add_72be8_11 rfl rfl ?_
        refine e_iload_n dJx4a65c_add_72be8_12 rfl ?_
        refine g_aload_n dJx4a65c_add_72be8_13 rfl rfl ?_
        exact nz H
      · refine v1 g26 (by decide) rfl rfl lmJx4a65c_129 liJx4a65c_grow_d5877 lvJx4a65c_Jx4a65c_grow_d5877 msJx4a65c_grow_d5877 dJx4a65c_add_72be8_7 (ceS e27 (t_Jx4a65c_grow_d5877 (d + 0) c25)) rfl (Nat.le_of_ble_eq_true rfl) (Nat.le_refl _) ?_
        refine g_astore_n dJx4a65c_add_72be8_10 (Nat.le_of_ble_eq_true rfl) rfl rfl rfl ?_
        refine g_aload_n dJx4a65c_add_72be8_11 rfl rfl ?_
        refine e_iload_n dJx4a65c_add_72be8_12 rfl ?_
        refine g_aload_n dJx4a65c_add_72be8_13 rfl rfl ?_
        replace H := og H; obtain ⟨g32, H⟩ := H
        replace H := og H; obtain ⟨g33, H⟩ := H
        replace H := og H; obtain ⟨g34, H⟩ := H
        replace H := og H; obtain ⟨g35, H⟩ := H
        refine e_aastE g32 (ixb_y rfl g33) g35 dJx4a65c_add_72be8_14 ?_
        have e36 := Pr.sR (h := q24.2) (a := b28) (k := p3.toNatClampNeg) (v := (some p1)) Pr.rf g34
        have f37 := e36.k f30 (by decide)
        have f38 := e36.k f31 (by decide)
        have f39 := e36.k g32 (by decide)
        refine g_aload_n dJx4a65c_add_72be8_15 rfl rfl ?_
        refine e_iload_n dJx4a65c_add_72be8_16 rfl ?_
        refine e_iconst (v := (1 : Int32)) dJx4a65c_add_72be8_17 (by decide) ?_
        refine e_iadd dJx4a65c_add_72be8_18 ?_
        refine e_putI f38 fpJx4a65c_48_0 rfl dJx4a65c_add_72be8_19 ?_
        obtain rfl := Option.some.inj H
        exact z_vret rfl dJx4a65c_add_72be8_22 rfl rfl
