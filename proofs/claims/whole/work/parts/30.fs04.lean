-- X10_init
def f_X10_init (p0 : Nat) (p1 : Int32) (p2 : Int32) (p3 : Int32) (p4 : Int32) (h : HS) : Option HS := (Option.bind (f_X8_init p0 p1 p2 p3 p4 h) (fun q1 => (some q1)))
set_option maxHeartbeats 4000000 in
set_option maxRecDepth 20000 in
theorem p_X10_init {p0 : Nat} {p1 : Int32} {p2 : Int32} {p3 : Int32} {p4 : Int32} {h : HS} {q : HS} (H : f_X10_init p0 p1 p2 p3 p4 h = some q) : Pr h q := by
  unfold f_X10_init at H
  replace H := ob H; obtain ⟨q1, c2, H⟩ := H
  have e3 := p_X8_init c2
  obtain rfl := Option.some.inj H
  exact e3
set_option maxHeartbeats 4000000 in
set_option maxRecDepth 20000 in
theorem t_X10_init {G : GE} (d : Nat) {p0 : Nat} {p1 : Int32} {p2 : Int32} {p3 : Int32} {p4 : Int32} {h : HS} {q : HS} (H : f_X10_init p0 p1 p2 p3 p4 h = some q) : CE G (d + 2) yX10_init miX10_init [.ref p0, .int p1, .int p2, .int p3, .int p4] h (none) (q) := by
  unfold f_X10_init at H
  refine ce_of rfl (by decide) (fun q => by first | rfl | cases q) (Nat.le_of_ble_eq_true rfl) rfl ?_
  refine g_aload_n dX10_init_0 rfl rfl ?_
  refine e_iload_n dX10_init_1 rfl ?_
  refine e_iload_n dX10_init_2 rfl ?_
  refine e_iload_n dX10_init_3 rfl ?_
  refine e_iload dX10_init_4 rfl ?_
  replace H := ob H; obtain ⟨q1, c2, H⟩ := H
  refine i0 rfl lmX10_1 liX8_init msX8_init rfl dX10_init_6 (t_X8_init (d + 0) c2) rfl (Nat.le_of_ble_eq_true rfl) (Nat.le_refl _) ?_
  have e3 := p_X8_init c2
  obtain rfl := Option.some.inj H
  exact z_vret rfl dX10_init_9 rfl rfl
-- X7_init
def f_X7_init (p0 : Nat) (p1 : Int32) (p2 : Int32) (p3 : Int32) (p4 : Int32) (h : HS) : Option HS := (Option.bind (f_X10_init p0 p1 p2 p3 p4 h) (fun q1 => (some q1)))
set_option maxHeartbeats 4000000 in
set_option maxRecDepth 20000 in
theorem p_X7_init {p0 : Nat} {p1 : Int32} {p2 : Int32} {p3 : Int32} {p4 : Int32} {h : HS} {q : HS} (H : f_X7_init p0 p1 p2 p3 p4 h = some q) : Pr h q := by
  unfold f_X7_init at H
  replace H := ob H; obtain ⟨q1, c2, H⟩ := H
  have e3 := p_X10_init c2
  obtain rfl := Option.some.inj H
  exact e3
set_option maxHeartbeats 4000000 in
set_option maxRecDepth 20000 in
theorem t_X7_init {G : GE} (d : Nat) {p0 : Nat} {p1 : Int32} {p2 : Int32} {p3 : Int32} {p4 : Int32} {h : HS} {q : HS} (H : f_X7_init p0 p1 p2 p3 p4 h = some q) : CE G (d + 3) yX7_init miX7_init [.ref p0, .int p1, .int p2, .int p3, .int p4] h (none) (q) := by
  unfold f_X7_init at H
  refine ce_of rfl (by decide) (fun q => by first | rfl | cases q) (Nat.le_of_ble_eq_true rfl) rfl ?_
  refine g_aload_n dX7_init_0 rfl rfl ?_
  refine e_iload_n dX7_init_1 rfl ?_
  refine e_iload_n dX7_init_2 rfl ?_
  refine e_iload_n dX7_init_3 rfl ?_
  refine e_iload dX7_init_4 rfl ?_
  replace H := ob H; obtain ⟨q1, c2, H⟩ := H
  refine i0 rfl lmX7_1 liX10_init msX10_init rfl dX7_init_6 (t_X10_init (d + 0) c2) rfl (Nat.le_of_ble_eq_true rfl) (Nat.le_refl _) ?_
  have e3 := p_X10_init c2
  obtain rfl := Option.some.inj H
  exact z_vret rfl dX7_init_9 rfl rfl
-- X10_gaffs
def f_X10_gaffs (p0 : Nat) : Option Int32 := (some (1 : Int32))
set_option maxHeartbeats 4000000 in
set_option maxRecDepth 20000 in
theorem t_X10_gaffs {G : GE} (d : Nat) {p0 : Nat} {h : HS} {q : Int32} (H : f_X10_gaffs p0 = some q) : CE G (d + 0) yX10_gaffs miX10_gaffs [.ref p0] h (some (.int q)) (h) := by
  unfold f_X10_gaffs at H
  refine ce_of rfl (by decide) (fun q => by first | rfl | cases q) (Nat.le_of_ble_eq_true rfl) rfl ?_
  refine e_iconst (v := (1 : Int32)) dX10_gaffs_0 (by decide) ?_
  obtain rfl := Option.some.inj H
  exact z_iret rfl rfl dX10_gaffs_1 rfl rfl
-- X7_gaffs
def f_X7_gaffs (p0 : Nat) : Option Int32 := (if hT h p0 = 9 then (Option.bind (f_X10_gaffs p0) (fun q1 => (some (q1 + (1 : Int32))))) else none)
set_option maxHeartbeats 4000000 in
set_option maxRecDepth 20000 in
theorem t_X7_gaffs {G : GE} (d : Nat) {p0 : Nat} {h : HS} {q : Int32} (H : f_X7_gaffs p0 = some q) : CE G (d + 1) yX7_gaffs miX7_gaffs [.ref p0] h (some (.int q)) (h) := by
  unfold f_X7_gaffs at H
  refine ce_of rfl (by decide) (fun q => by first | rfl | cases q) (Nat.le_of_ble_eq_true rfl) rfl ?_
  refine g_aload_n dX7_gaffs_0 rfl rfl ?_
  replace H := og H; obtain ⟨g3, H⟩ := H
  replace H := ob H; obtain ⟨q1, c2, H⟩ := H
  refine u1 g3 (by decide) rfl lmX7_11 lqX10_gaffs lpX7 liX10_gaffs (by decide) msX10_gaffs dX7_gaffs_1 (t_X10_gaffs (d + 0) c2) rfl (Nat.le_of_ble_eq_true rfl) (Nat.le_refl _) ?_
  refine e_iconst (v := (1 : Int32)) dX7_gaffs_4 (by decide) ?_
  refine e_iadd dX7_gaffs_5 ?_
  obtain rfl := Option.some.inj H
  exact z_iret rfl rfl dX7_gaffs_6 rfl rfl
-- X8_gaffs
def f_X8_gaffs (p0 : Nat) : Option Int32 := (some (0 : Int32))
set_option maxHeartbeats 4000000 in
set_option maxRecDepth 20000 in
theorem t_X8_gaffs {G : GE} (d : Nat) {p0 : Nat} {h : HS} {q : Int32} (H : f_X8_gaffs p0 = some q) : CE G (d + 0) yX8_gaffs miX8_gaffs [.ref p0] h (some (.int q)) (h) := by
  unfold f_X8_gaffs at H
  refine ce_of rfl (by decide) (fun q => by first | rfl | cases q) (Nat.le_of_ble_eq_true rfl) rfl ?_
  refine e_iconst (v := (0 : Int32)) dX8_gaffs_0 (by decide) ?_
  obtain rfl := Option.some.inj H
  exact z_iret rfl rfl dX8_gaffs_1 rfl rfl
-- X9_push
def f_X9_push (p0 : Nat) (p1 : Int32) (p2 : Int32) (h : HS) : Option (Int32 × HS) := (if p2 < 0 then (some (p2, h)) else (if hT h p0 = 11 then (om (hR h p0 1) none (fun b3 => (if hT h b3 = 15 then (if p2 < (nI (hLn h b3)) then (om (hR h p0 1) none (fun b7 => (if hT h b7 = 15 then (if ixb p2 (hLn h b7) = true then (some ((p2 + (1 : Int32)), (sI h b7 p2.toNatClampNeg p1))) else none) else none))) else (some (p2, h))) else none))) else none))
set_option maxHeartbeats 4000000 in
set_option maxRecDepth 20000 in
theorem p_X9_push {p0 : Nat} {p1 : Int32} {p2 : Int32} {h : HS} {q : (Int32 × HS)} (H : f_X9_push p0 p1 p2 h = some q) : Pr h q.2 := by
  unfold f_X9_push at H
  replace H := oi H; obtain ⟨c1, H⟩ | ⟨c1, H⟩ := H
  · obtain rfl := Option.some.inj H
    exact Pr.rf
  · replace H := og H; obtain ⟨g2, H⟩ := H
    replace H := oom H; obtain ⟨-, H⟩ | ⟨b3, e4, H⟩ := H
    · exact nz H
    replace H := og H; obtain ⟨g5, H⟩ := H
    replace H := oi H; obtain ⟨c6, H⟩ | ⟨c6, H⟩ := H
    · replace H := oom H; obtain ⟨-, H⟩ | ⟨b7, e8, H⟩ := H
      · exact nz H
      replace H := og H; obtain ⟨g9, H⟩ := H
      replace H := og H; obtain ⟨g10, H⟩ := H
      obtain rfl := Option.some.inj H
      exact Pr.rf
    · obtain rfl := Option.some.inj H
      exact Pr.rf
set_option maxHeartbeats 4000000 in
set_option maxRecDepth 20000 in
theorem t_X9_push {G : GE} (d : Nat) {p0 : Nat} {p1 : Int32} {p2 : Int32} {h : HS} {q : (Int32 × HS)} (H : f_X9_push p0 p1 p2 h = some q) : CE G (d + 0) yX9_push miX9_push [.ref p0, .int p1, .int p2] h (some (.int q.1)) (q.2) := by
  unfold f_X9_push at H
  refine ce_of rfl (by decide) (fun q => by first | rfl | cases q) (Nat.le_of_ble_eq_true rfl) rfl ?_
  refine e_iload_n dX9_push_0 rfl ?_
  refine e_if_lt (tgt := 13) dX9_push_1 (by decide) (fun c1 => ?_) (fun c1 => ?_)
  · replace H := ot c1 H
    refine e_iload_n dX9_push_13 rfl ?_
    obtain rfl := Option.some.inj H
    exact z_iret rfl rfl dX9_push_14 rfl rfl
  · replace H := of_ c1 H
    refine e_iload_n dX9_push_4 rfl ?_
    refine g_aload_n dX9_push_5 rfl rfl ?_
    replace H := og H; obtain ⟨g2, H⟩ := H
    replace H := oom H; obtain ⟨-, H⟩ | ⟨b3, e4, H⟩ := H
    · exact nz H
    refine e_getR g2 flX9_15_10 dX9_push_6 rfl e4 ?_
    replace H := og H; obtain ⟨g5, H⟩ := H
    refine e_alen g5 (by decide) dX9_push_9 ?_
    refine e_icmp_lt (tgt := 15) dX9_push_10 (by decide) (fun c6 => ?_) (fun c6 => ?_)
    · replace H := ot c6 H
      refine g_aload_n dX9_push_15 rfl rfl ?_
      replace H := oom H; obtain ⟨-, H⟩ | ⟨b7, e8, H⟩ := H
      · exact nz H
      refine e_getR g2 flX9_15_10 dX9_push_16 rfl e8 ?_
      refine e_iload_n dX9_push_19 rfl ?_
      refine e_iload_n dX9_push_20 rfl ?_
      replace H := og H; obtain ⟨g9, H⟩ := H
      replace H := og H; obtain ⟨g10, H⟩ := H
      refine e_iast g9 (ixb_y rfl g10) dX9_push_21 ?_
      refine e_iload_n dX9_push_22 rfl ?_
      refine e_iconst (v := (1 : Int32)) dX9_push_23 (by decide) ?_
      refine e_iadd dX9_push_24 ?_
      obtain rfl := Option.some.inj H
      exact z_iret rfl rfl dX9_push_25 rfl rfl
    · replace H := of_ c6 H
      refine e_iload_n dX9_push_13 rfl ?_
      obtain rfl := Option.some.inj H
      exact z_iret rfl rfl dX9_push_14 rfl rfl
-- X9_alter
def f_X9_alter (p0 : Nat) (p1 : Int32) (p2 : Int32) (h : HS) : Option (Int32 × HS) := (if p2 < (1 : Int32) then (some (p2, h)) else (if hT h p0 = 11 then (om (hR h p0 1) none (fun b3 => (if hT h b3 = 15 then (if p2 ≤ (nI (hLn h b3)) then (om (hR h p0 1) none (fun b7 => (if hT h b7 = 15 then (if ixb (p2 - (1 : Int32)) (hLn h b7) = true then (om (hR h p0 1) none (fun b11 => (if p1 = (10001 : Int32) then (if hT h b11 = 15 then (if ixb (p2 - (1 : Int32)) (hLn h b11) = true then (some (p2, (sI h b11 (p2 - (1 : Int32)).toNatClampNeg (-(hI h b7 (p2 - (1 : Int32)).toNatClampNeg))))) else none) else none) else (if (hI h b7 (p2 - (1 : Int32)).toNatClampNeg) = 0 then (if hT h b11 = 15 then (if ixb (p2 - (1 : Int32)) (hLn h b11) = true then (some (p2, (sI h b11 (p2 - (1 : Int32)).toNatClampNeg (1 : Int32)))) else none) else none) else (if hT h b11 = 15 then (if ixb (p2 - (1 : Int32)) (hLn h b11) = true then (some (p2, (sI h b11 (p2 - (1 : Int32)).toNatClampNeg (0 : Int32)))) else none) else none))))) else none) else none))) else (some (p2, h))) else none))) else none))
set_option maxHeartbeats 4000000 in
set_option maxRecDepth 20000 in
theorem p_X9_alter {p0 : Nat} {p1 : Int32} {p2 : Int32} {h : HS} {q : (Int32 × HS)} (H : f_X9_alter p0 p1 p2 h = some q) : Pr h q.2 := by
  unfold f_X9_alter at H
  replace H := oi H; obtain ⟨c1, H⟩ | ⟨c1, H⟩ := H
  · obtain rfl := Option.some.inj H
    exact Pr.rf
  · replace H := og H; obtain ⟨g2, H⟩ := H
    replace H := oom H; obtain ⟨-, H⟩ | ⟨b3, e4, H⟩ := H
    · exact nz H
    replace H := og H; obtain ⟨g5, H⟩ := H
    replace H := oi H; obtain ⟨c6, H⟩ | ⟨c6, H⟩ := H
    · replace H := oom H; obtain ⟨-, H⟩ | ⟨b7, e8, H⟩ := H
      · exact nz H
      replace H := og H; obtain ⟨g9, H⟩ := H
      replace H := og H; obtain ⟨g10, H⟩ := H
      replace H := oom H; obtain ⟨-, H⟩ | ⟨b11, e12, H⟩ := H
      · exact nz H
      replace H := oi H; obtain ⟨c13, H⟩ | ⟨c13, H⟩ := H
      · replace H := og H; obtain ⟨g19, H⟩ := H
        replace H := og H; obtain ⟨g20, H⟩ := H
        obtain rfl := Option.some.inj H
        exact Pr.rf
      · replace H := oi H; obtain ⟨c14, H⟩ | ⟨c14, H⟩ := H
        · replace H := og H; obtain ⟨g17, H⟩ := H
          replace H := og H; obtain ⟨g18, H⟩ := H
          obtain rfl := Option.some.inj H
          exact Pr.rf
        · replace H := og H; obtain ⟨g15, H⟩ := H
          replace H := og H; obtain ⟨g16, H⟩ := H
          obtain rfl := Option.some.inj H
          exact Pr.rf
    · obtain rfl := Option.some.inj H
      exact Pr.rf
set_option maxHeartbeats 4000000 in
set_option maxRecDepth 20000 in
theorem t_X9_alter {G : GE} (d : Nat) {p0 : Nat} {p1 : Int32} {p2 : Int32} {h : HS} {q : (Int32 × HS)} (H : f_X9_alter p0 p1 p2 h = some q) : CE G (d + 0) yX9_alter miX9_alter [.ref p0, .int p1, .int p2] h (some (.int q.1)) (q.2) := by
  unfold f_X9_alter at H
  refine ce_of rfl (by decide) (fun q => by first | rfl | cases q) (Nat.le_of_ble_eq_true rfl) rfl ?_
  refine e_iload_n dX9_alter_0 rfl ?_
  refine e_iconst (v := (1 : Int32)) dX9_alter_1 (by decide) ?_
  refine e_icmp_lt (tgt := 14) dX9_alter_2 (by decide) (fun c1 => ?_) (fun c1 => ?_)
  · replace H := ot c1 H
    refine e_iload_n dX9_alter_14 rfl ?_
    obtain rfl := Option.some.inj H
    exact z_iret rfl rfl dX9_alter_15 rfl rfl
  · replace H := of_ c1 H
    refine e_iload_n dX9_alter_5 rfl ?_
    refine g_aload_n dX9_alter_6 rfl rfl ?_
    replace H := og H; obtain ⟨g2, H⟩ := H
    replace H := oom H; obtain ⟨-, H⟩ | ⟨b3, e4, H⟩ := H
    · exact nz H
    refine e_getR g2 flX9_15_10 dX9_alter_7 rfl e4 ?_
    replace H := og H; obtain ⟨g5, H⟩ := H
    refine e_alen g5 (by decide) dX9_alter_10 ?_
    refine e_icmp_le (tgt := 16) dX9_alter_11 (by decide) (fun c6 => ?_) (fun c6 => ?_)
    · replace H := ot c6 H
      refine g_aload_n dX9_alter_16 rfl rfl ?_
      replace H := oom H; obtain ⟨-, H⟩ | ⟨b7, e8, H⟩ := H
      · exact nz H
      refine e_getR g2 flX9_15_10 dX9_alter_17 rfl e8 ?_
      refine e_iload_n dX9_alter_20 rfl ?_
      refine e_iconst (v := (1 : Int32)) dX9_alter_21 (by decide) ?_
      refine e_isub dX9_alter_22 ?_
      replace H := og H; obtain ⟨g9, H⟩ := H
      replace H := og H; obtain ⟨g10, H⟩ := H
      refine e_iald g9 (ixb_y rfl g10) dX9_alter_23 ?_
      refine e_istore_n dX9_alter_24 (Nat.le_of_ble_eq_true rfl) rfl rfl ?_
      refine g_aload_n dX9_alter_25 rfl rfl ?_
      replace H := oom H; obtain ⟨-, H⟩ | ⟨b11, e12, H⟩ := H
      · exact nz H
      refine e_getR g2 flX9_15_10 dX9_alter_26 rfl e12 ?_
      refine e_iload_n dX9_alter_29 rfl ?_
      refine e_iconst (v := (1 : Int32)) dX9_alter_30 (by decide) ?_
      refine e_isub dX9_alter_31 ?_
      refine e_iload_n dX9_alter_32 rfl ?_
      refine e_sipush (v := (10001 : Int32)) dX9_alter_33 (by decide) ?_
      refine e_icmp_ne (tgt := 44) dX9_alter_36 (by decide) (fun c13 => ?_) (fun c13 => ?_)
      · replace H := of_ c13 H
        refine e_iload_n dX9_alter_44 rfl ?_
        refine e_if_ne (tgt := 52) dX9_alter_45 (by decide) (fun c14 => ?_) (fun c14 => ?_)
        · replace H := of_ c14 H
          refine e_iconst (v := (0 : Int32)) dX9_alter_52 (by decide) ?_
          replace H := og H; obtain ⟨g15, H⟩ := H
          replace H := og H; obtain ⟨g16, H⟩ := H
          refine e_iast g15 (ixb_y rfl g16) dX9_alter_53 ?_
          refine e_iload_n dX9_alter_54 rfl ?_
          obtain rfl := Option.some.inj H
          exact z_iret rfl rfl dX9_alter_55 rfl rfl
        · replace H := ot c14 H
          refine e_iconst (v := (1 : Int32)) dX9_alter_48 (by decide) ?_
          refine e_goto (tgt := 53) dX9_alter_49 (by decide) ?_
          replace H := og H; obtain ⟨g17, H⟩ := H
          replace H := og H; obtain ⟨g18, H⟩ := H
          refine e_iast g17 (ixb_y rfl g18) dX9_alter_53 ?_
          refine e_iload_n dX9_alter_54 rfl ?_
          obtain rfl := Option.some.inj H
          exact z_iret rfl rfl dX9_alter_55 rfl rfl
      · replace H := ot c13 H
        refine e_iload_n dX9_alter_39 rfl ?_
        refine e_ineg dX9_alter_40 ?_
        refine e_goto (tgt := 53) dX9_alter_41 (by decide) ?_
        replace H := og H; obtain ⟨g19, H⟩ := H
        replace H := og H; obtain ⟨g20, H⟩ := H
        refine e_iast g19 (ixb_y rfl g20) dX9_alter_53 ?_
        refine e_iload_n dX9_alter_54 rfl ?_
        obtain rfl := Option.some.inj H
        exact z_iret rfl rfl dX9_alter_55 rfl rfl
    · replace H := of_ c6 H
      refine e_iload_n dX9_alter_14 rfl ?_
      obtain rfl := Option.some.inj H
      exact z_iret rfl rfl dX9_alter_15 rfl rfl
-- X9_joined
def f_X9_joined (p0 : Int32) (p1 : Int32) (p2 : Int32) : Option Int32 := (if p0 = (10042 : Int32) then (some (p1 * p2)) else (if p0 = (10043 : Int32) then (some (p1 + p2)) else (if p0 = (10045 : Int32) then (some (p1 - p2)) else (if p0 = (10060 : Int32) then (if p2 ≤ p1 then (some (0 : Int32)) else (some (1 : Int32))) else (if p0 = (10061 : Int32) then (if p1 = p2 then (some (1 : Int32)) else (some (0 : Int32))) else (if p0 = (10210 : Int32) then (if p1 = 0 then (if p2 = 0 then (some (0 : Int32)) else (some (1 : Int32))) else (some (1 : Int32))) else (if p0 = (10211 : Int32) then (if p1 = 0 then (some (0 : Int32)) else (if p2 = 0 then (some (0 : Int32)) else (some (1 : Int32)))) else (some (0 : Int32)))))))))
set_option maxHeartbeats 4000000 in
set_option maxRecDepth 20000 in
theorem t_X9_joined {G : GE} (d : Nat) {p0 : Int32} {p1 : Int32} {p2 : Int32} {h : HS} {q : Int32} (H : f_X9_joined p0 p1 p2 = some q) : CE G (d + 0) yX9_joined miX9_joined [.int p0, .int p1, .int p2] h (some (.int q)) (h) := by
  unfold f_X9_joined at H
  refine ce_of rfl (by decide) (fun q => by first | rfl | cases q) (Nat.le_of_ble_eq_true rfl) rfl ?_
  refine e_iload_n dX9_joined_0 rfl ?_
  by_cases k1 : p0 = (10042 : Int32)
  · replace H := ot k1 H
    refine e_lookup (off := 75) (tgt := 76) dX9_joined_1 (by decide) (by rw [k1]; decide) (by decide) ?_
    refine e_iload_n dX9_joined_76 rfl ?_
    refine e_iload_n dX9_joined_77 rfl ?_
    refine e_imul dX9_joined_78 ?_
    obtain rfl := Option.some.inj H
    exact z_iret rfl rfl dX9_joined_79 rfl rfl
  · replace H := of_ k1 H
    by_cases k2 : p0 = (10043 : Int32)
    · replace H := ot k2 H
      refine e_lookup (off := 67) (tgt := 68) dX9_joined_1 (by decide) (by rw [k2]; decide) (by decide) ?_
      refine e_iload_n dX9_joined_68 rfl ?_
      refine e_iload_n dX9_joined_69 rfl ?_
      refine e_iadd dX9_joined_70 ?_
      obtain rfl := Option.some.inj H
      exact z_iret rfl rfl dX9_joined_71 rfl rfl
    · replace H := of_ k2 H
      by_cases k3 : p0 = (10045 : Int32)
      · replace H := ot k3 H
        refine e_lookup (off := 71) (tgt := 72) dX9_joined_1 (by decide) (by rw [k3]; decide) (by decide) ?_
        refine e_iload_n dX9_joined_72 rfl ?_
        refine e_iload_n dX9_joined_73 rfl ?_
        refine e_isub dX9_joined_74 ?_
        obtain rfl := Option.some.inj H
        exact z_iret rfl rfl dX9_joined_75 rfl rfl
      · replace H := of_ k3 H
        by_cases k4 : p0 = (10060 : Int32)
        · replace H := ot k4 H
          refine e_lookup (off := 79) (tgt := 80) dX9_joined_1 (by decide) (by rw [k4]; decide) (by decide) ?_
          refine e_iload_n dX9_joined_80 rfl ?_
          refine e_iload_n dX9_joined_81 rfl ?_
          refine e_icmp_ge (tgt := 89) dX9_joined_82 (by decide) (fun c13 => ?_) (fun c13 => ?_)
          · replace H := ot c13 H
            refine e_iconst (v := (0 : Int32)) dX9_joined_89 (by decide) ?_
            obtain rfl := Option.some.inj H
            exact z_iret rfl rfl dX9_joined_90 rfl rfl
          · replace H := of_ c13 H
            refine e_iconst (v := (1 : Int32)) dX9_joined_85 (by decide) ?_
            refine e_goto (tgt := 90) dX9_joined_86 (by decide) ?_
            obtain rfl := Option.some.inj H
            exact z_iret rfl rfl dX9_joined_90 rfl rfl
        · replace H := of_ k4 H
          by_cases k5 : p0 = (10061 : Int32)
          · replace H := ot k5 H
            refine e_lookup (off := 90) (tgt := 91) dX9_joined_1 (by decide) (by rw [k5]; decide) (by decide) ?_
            refine e_iload_n dX9_joined_91 rfl ?_
            refine e_iload_n dX9_joined_92 rfl ?_
            refine e_icmp_ne (tgt := 100) dX9_joined_93 (by decide) (fun c12 => ?_) (fun c12 => ?_)
            · replace H := of_ c12 H
              refine e_iconst (v := (0 : Int32)) dX9_joined_100 (by decide) ?_
              obtain rfl := Option.some.inj H
              exact z_iret rfl rfl dX9_joined_101 rfl rfl
            · replace H := ot c12 H
              refine e_iconst (v := (1 : Int32)) dX9_joined_96 (by decide) ?_
              refine e_goto (tgt := 101) dX9_joined_97 (by decide) ?_
              obtain rfl := Option.some.inj H
              exact z_iret rfl rfl dX9_joined_101 rfl rfl
          · replace H := of_ k5 H
            by_cases k6 : p0 = (10210 : Int32)
            · replace H := ot k6 H
              refine e_lookup (off := 115) (tgt := 116) dX9_joined_1 (by decide) (by rw [k6]; decide) (by decide) ?_
              refine e_iload_n dX9_joined_116 rfl ?_
              refine e_if_ne (tgt := 124) dX9_joined_117 (by decide) (fun c10 => ?_) (fun c10 => ?_)
              · replace H := of_ c10 H
                refine e_iconst (v := (1 : Int32)) dX9_joined_124 (by decide) ?_
                refine e_goto (tgt := 129) dX9_joined_125 (by decide) ?_
                obtain rfl := Option.some.inj H
                exact z_iret rfl rfl dX9_joined_129 rfl rfl
              · replace H := ot c10 H
                refine e_iload_n dX9_joined_120 rfl ?_
                refine e_if_eq (tgt := 128) dX9_joined_121 (by decide) (fun c11 => ?_) (fun c11 => ?_)
                · replace H := ot c11 H
                  refine e_iconst (v := (0 : Int32)) dX9_joined_128 (by decide) ?_
                  obtain rfl := Option.some.inj H
                  exact z_iret rfl rfl dX9_joined_129 rfl rfl
                · replace H := of_ c11 H
                  refine e_iconst (v := (1 : Int32)) dX9_joined_124 (by decide) ?_
                  refine e_goto (tgt := 129) dX9_joined_125 (by decide) ?_
                  obtain rfl := Option.some.inj H
                  exact z_iret rfl rfl dX9_joined_129 rfl rfl
            · replace H := of_ k6 H
              by_cases k7 : p0 = (10211 : Int32)
              · replace H := ot k7 H
                refine e_lookup (off := 101) (tgt := 102) dX9_joined_1 (by decide) (by rw [k7]; decide) (by decide) ?_
                refine e_iload_n dX9_joined_102 rfl ?_
                refine e_if_eq (tgt := 114) dX9_joined_103 (by decide) (fun c8 => ?_) (fun c8 => ?_)
                · replace H := ot c8 H
                  refine e_iconst (v := (0 : Int32)) dX9_joined_114 (by decide) ?_
                  obtain rfl := Option.some.inj H
                  exact z_iret rfl rfl dX9_joined_115 rfl rfl
                · replace H := of_ c8 H
                  refine e_iload_n dX9_joined_106 rfl ?_
                  refine e_if_eq (tgt := 114) dX9_joined_107 (by decide) (fun c9 => ?_) (fun c9 => ?_)
                  · replace H := ot c9 H
                    refine e_iconst (v := (0 : Int32)) dX9_joined_114 (by decide) ?_
                    obtain rfl := Option.some.inj H
                    exact z_iret rfl rfl dX9_joined_115 rfl rfl
                  · replace H := of_ c9 H
                    refine e_iconst (v := (1 : Int32)) dX9_joined_110 (by decide) ?_
                    refine e_goto (tgt := 115) dX9_joined_111 (by decide) ?_
                    obtain rfl := Option.some.inj H
                    exact z_iret rfl rfl dX9_joined_115 rfl rfl
              · replace H := of_ k7 H
                refine e_lookup (off := 129) (tgt := 130) dX9_joined_1 (by decide) (by have q10042 := i32_ne k1; have q10043 := i32_ne k2; have q10045 := i32_ne k3; have q10060 := i32_ne k4; have q10061 := i32_ne k5; have q10210 := i32_ne k6; have q10211 := i32_ne k7; simp [Op.lookupswitch.offset, *]) (by decide) ?_
                refine e_iconst (v := (0 : Int32)) dX9_joined_130 (by decide) ?_
                obtain rfl := Option.some.inj H
                exact z_iret rfl rfl dX9_joined_131 rfl rfl
-- X9_step
def f_X9_step (p0 : Nat) (p1 : Int32) (p2 : Int32) (p3 : Nat) (h : HS) : Option (Int32 × HS) := (if (10000 : Int32) ≤ p1 then (if (p1 - (10200 : Int32)) < 0 then (if p1 = (10001 : Int32) then (if hT h p0 = 11 then (Option.bind (f_X9_alter p0 p1 p2 h) (fun q4 => (some (q4.1, q4.2)))) else none) else (if p1 = (10212 : Int32) then (if hT h p0 = 11 then (Option.bind (f_X9_alter p0 p1 p2 h) (fun q29 => (some (q29.1, q29.2)))) else none) else (if p2 < (2 : Int32) then (some (p2, h)) else (if hT h p0 = 11 then (om (hR h p0 1) none (fun b11 => (if hT h b11 = 15 then (if p2 ≤ (nI (hLn h b11)) then (om (hR h p0 1) none (fun b15 => (om (hR h p0 1) none (fun b17 => (if hT h b17 = 15 then (if ixb (p2 - (2 : Int32)) (hLn h b17) = true then (om (hR h p0 1) none (fun b21 => (if hT h b21 = 15 then (if ixb (p2 - (1 : Int32)) (hLn h b21) = true then (Option.bind (f_X9_joined p1 (hI h b17 (p2 - (2 : Int32)).toNatClampNeg) (hI h b21 (p2 - (1 : Int32)).toNatClampNeg)) (fun q25 => (if hT h b15 = 15 then (if ixb (p2 - (2 : Int32)) (hLn h b15) = true then (some ((p2 - (1 : Int32)), (sI h b15 (p2 - (2 : Int32)).toNatClampNeg q25))) else none) else none))) else none) else none))) else none) else none))))) else (some (p2, h))) else none))) else none)))) else (if (6 : Int32) ≤ (p1 - (10200 : Int32)) then (if p1 = (10001 : Int32) then (if hT h p0 = 11 then (Option.bind (f_X9_alter p0 p1 p2 h) (fun q35 => (some (q35.1, q35.2)))) else none) else (if p1 = (10212 : Int32) then (if hT h p0 = 11 then (Option.bind (f_X9_alter p0 p1 p2 h) (fun q60 => (some (q60.1, q60.2)))) else none) else (if p2 < (2 : Int32) then (some (p2, h)) else (if hT h p0 = 11 then (om (hR h p0 1) none (fun b42 => (if hT h b42 = 15 then (if p2 ≤ (nI (hLn h b42)) then (om (hR h p0 1) none (fun b46 => (om (hR h p0 1) none (fun b48 => (if hT h b48 = 15 then (if ixb (p2 - (2 : Int32)) (hLn h b48) = true then (om (hR h p0 1) none (fun b52 => (if hT h b52 = 15 then (if ixb (p2 - (1 : Int32)) (hLn h b52) = true then (Option.bind (f_X9_joined p1 (hI h b48 (p2 - (2 : Int32)).toNatClampNeg) (hI h b52 (p2 - (1 : Int32)).toNatClampNeg)) (fun q56 => (if hT h b46 = 15 then (if ixb (p2 - (2 : Int32)) (hLn h b46) = true then (some ((p2 - (1 : Int32)), (sI h b46 (p2 - (2 : Int32)).toNatClampNeg q56))) else none) else none))) else none) else none))) else none) else none))))) else (some (p2, h))) else none))) else none)))) else (if hT h p3 = 15 then (if (nI (hLn h p3)) ≤ (p1 - (10200 : Int32)) then (if p1 = (10001 : Int32) then (if hT h p0 = 11 then (Option.bind (f_X9_alter p0 p1 p2 h) (fun q67 => (some (q67.1, q67.2)))) else none) else (if p1 = (10212 : Int32) then (if hT h p0 = 11 then (Option.bind (f_X9_alter p0 p1 p2 h) (fun q92 => (some (q92.1, q92.2)))) else none) else (if p2 < (2 : Int32) then (some (p2, h)) else (if hT h p0 = 11 then (om (hR h p0 1) none (fun b74 => (if hT h b74 = 15 then (if p2 ≤ (nI (hLn h b74)) then (om (hR h p0 1) none (fun b78 => (om (hR h p0 1) none (fun b80 => (if hT h b80 = 15 then (if ixb (p2 - (2 : Int32)) (hLn h b80) = true then (om (hR h p0 1) none (fun b84 => (if hT h b84 = 15 then (if ixb (p2 - (1 : Int32)) (hLn h b84) = true then (Option.bind (f_X9_joined p1 (hI h b80 (p2 - (2 : Int32)).toNatClampNeg) (hI h b84 (p2 - (1 : Int32)).toNatClampNeg)) (fun q88 => (if hT h b78 = 15 then (if ixb (p2 - (2 : Int32)) (hLn h b78) = true then (some ((p2 - (1 : Int32)), (sI h b78 (p2 - (2 : Int32)).toNatClampNeg q88))) else none) else none))) else none) else none))) else none) else none))))) else (some (p2, h))) else none))) else none)))) else (if ixb (p1 - (10200 : Int32)) (hLn h p3) = true then (if hT h p0 = 11 then (Option.bind (f_X9_push p0 (hI h p3 (p1 - (10200 : Int32)).toNatClampNeg) p2 h) (fun q97 => (some (q97.1, q97.2)))) else none) else none)) else none))) else (if hT h p0 = 11 then (Option.bind (f_X9_push p0 p1 p2 h) (fun q101 => (some (q101.1, q101.2)))) else none))
set_option maxHeartbeats 4000000 in
set_option maxRecDepth 20000 in
theorem p_X9_step {p0 : Nat} {p1 : Int32} {p2 : Int32} {p3 : Nat} {h : HS} {q : (Int32 × HS)} (H : f_X9_step p0 p1 p2 p3 h = some q) : Pr h q.2 := by
  unfold f_X9_step at H
  replace H := oi H; obtain ⟨c1, H⟩ | ⟨c1, H⟩ := H
  · replace H := oi H; obtain ⟨c2, H⟩ | ⟨c2, H⟩ := H
    · replace H := oi H; obtain ⟨c3, H⟩ | ⟨c3, H⟩ := H
      · replace H := og H; obtain ⟨g6, H⟩ := H
        replace H := ob H; obtain ⟨q4, c5, H⟩ := H
        have e7 := p_X9_alter c5
        obtain rfl := Option.some.inj H
        exact e7
      · replace H := oi H; obtain ⟨c8, H⟩ | ⟨c8, H⟩ := H
        · replace H := og H; obtain ⟨g31, H⟩ := H
          replace H := ob H; obtain ⟨q29, c30, H⟩ := H
          have e32 := p_X9_alter c30
          obtain rfl := Option.some.inj H
          exact e32
        · replace H := oi H; obtain ⟨c9, H⟩ | ⟨c9, H⟩ := H
          · obtain rfl := Option.some.inj H
            exact Pr.rf
          · replace H := og H; obtain ⟨g10, H⟩ := H
            replace H := oom H; obtain ⟨-, H⟩ | ⟨b11, e12, H⟩ := H
            · exact nz H
            replace H := og H; obtain ⟨g13, H⟩ := H
            replace H := oi H; obtain ⟨c14, H⟩ | ⟨c14, H⟩ := H
            · replace H := oom H; obtain ⟨-, H⟩ | ⟨b15, e16, H⟩ := H
              · exact nz H
              replace H := oom H; obtain ⟨-, H⟩ | ⟨b17, e18, H⟩ := H
              · exact nz H
              replace H := og H; obtain ⟨g19, H⟩ := H
              replace H := og H; obtain ⟨g20, H⟩ := H
              replace H := oom H; obtain ⟨-, H⟩ | ⟨b21, e22, H⟩ := H
              · exact nz H
              replace H := og H; obtain ⟨g23, H⟩ := H
              replace H := og H; obtain ⟨g24, H⟩ := H
              replace H := ob H; obtain ⟨q25, c26, H⟩ := H
              replace H := og H; obtain ⟨g27, H⟩ := H
              replace H := og H; obtain ⟨g28, H⟩ := H
              obtain rfl := Option.some.inj H
              exact Pr.rf
            · obtain rfl := Option.some.inj H
              exact Pr.rf
    · replace H := oi H; obtain ⟨c33, H⟩ | ⟨c33, H⟩ := H
      · replace H := oi H; obtain ⟨c34, H⟩ | ⟨c34, H⟩ := H
        · replace H := og H; obtain ⟨g37, H⟩ := H
          replace H := ob H; obtain ⟨q35, c36, H⟩ := H
          have e38 := p_X9_alter c36
          obtain rfl := Option.some.inj H
          exact e38
        · replace H := oi H; obtain ⟨c39, H⟩ | ⟨c39, H⟩ := H
          · replace H := og H; obtain ⟨g62, H⟩ := H
            replace H := ob H; obtain ⟨q60, c61, H⟩ := H
            have e63 := p_X9_alter c61
            obtain rfl := Option.some.inj H
            exact e63
          · replace H := oi H; obtain ⟨c40, H⟩ | ⟨c40, H⟩ := H
            · obtain rfl := Option.some.inj H
              exact Pr.rf
            · replace H := og H; obtain ⟨g41, H⟩ := H
              replace H := oom H; obtain ⟨-, H⟩ | ⟨b42, e43, H⟩ := H
              · exact nz H
              replace H := og H; obtain ⟨g44, H⟩ := H
              replace H := oi H; obtain ⟨c45, H⟩ | ⟨c45, H⟩ := H
              · replace H := oom H; obtain ⟨-, H⟩ | ⟨b46, e47, H⟩ := H
                · exact nz H
                replace H := oom H; obtain ⟨-, H⟩ | ⟨b48, e49, H⟩ := H
                · exact nz H
                replace H := og H; obtain ⟨g50, H⟩ := H
                replace H := og H; obtain ⟨g51, H⟩ := H
                replace H := oom H; obtain ⟨-, H⟩ | ⟨b52, e53, H⟩ := H
                · exact nz H
                replace H := og H; obtain ⟨g54, H⟩ := H
                replace H := og H; obtain ⟨g55, H⟩ := H
                replace H := ob H; obtain ⟨q56, c57, H⟩ := H
                replace H := og H; obtain ⟨g58, H⟩ := H
                replace H := og H; obtain ⟨g59, H⟩ := H
                obtain rfl := Option.some.inj H
                exact Pr.rf
              · obtain rfl := Option.some.inj H
                exact Pr.rf
      · replace H := og H; obtain ⟨g64, H⟩ := H
        replace H := oi H; obtain ⟨c65, H⟩ | ⟨c65, H⟩ := H
        · replace H := oi H; obtain ⟨c66, H⟩ | ⟨c66, H⟩ := H
          · replace H := og H; obtain ⟨g69, H⟩ := H
            replace H := ob H; obtain ⟨q67, c68, H⟩ := H
            have e70 := p_X9_alter c68
            obtain rfl := Option.some.inj H
            exact e70
          · replace H := oi H; obtain ⟨c71, H⟩ | ⟨c71, H⟩ := H
            · replace H := og H; obtain ⟨g94, H⟩ := H
              replace H := ob H; obtain ⟨q92, c93, H⟩ := H
              have e95 := p_X9_alter c93
              obtain rfl := Option.some.inj H
              exact e95
            · replace H := oi H; obtain ⟨c72, H⟩ | ⟨c72, H⟩ := H
              · obtain rfl := Option.some.inj H
                exact Pr.rf
              · replace H := og H; obtain ⟨g73, H⟩ := H
                replace H := oom H; obtain ⟨-, H⟩ | ⟨b74, e75, H⟩ := H
                · exact nz H
                replace H := og H; obtain ⟨g76, H⟩ := H
                replace H := oi H; obtain ⟨c77, H⟩ | ⟨c77, H⟩ := H
                · replace H := oom H; obtain ⟨-, H⟩ | ⟨b78, e79, H⟩ := H
                  · exact nz H
                  replace H := oom H; obtain ⟨-, H⟩ | ⟨b80, e81, H⟩ := H
                  · exact nz H
                  replace H := og H; obtain ⟨g82, H⟩ := H
                  replace H := og H; obtain ⟨g83, H⟩ := H
                  replace H := oom H; obtain ⟨-, H⟩ | ⟨b84, e85, H⟩ := H
                  · exact nz H
                  replace H := og H; obtain ⟨g86, H⟩ := H
                  replace H := og H; obtain ⟨g87, H⟩ := H
                  replace H := ob H; obtain ⟨q88, c89, H⟩ := H
                  replace H := og H; obtain ⟨g90, H⟩ := H
                  replace H := og H; obtain ⟨g91, H⟩ := H
                  obtain rfl := Option.some.inj H
                  exact Pr.rf
                · obtain rfl := Option.some.inj H
                  exact Pr.rf
        · replace H := og H; obtain ⟨g96, H⟩ := H
          replace H := og H; obtain ⟨g99, H⟩ := H
          replace H := ob H; obtain ⟨q97, c98, H⟩ := H
          have e100 := p_X9_push c98
          obtain rfl := Option.some.inj H
          exact e100
  · replace H := og H; obtain ⟨g103, H⟩ := H
    replace H := ob H; obtain ⟨q101, c102, H⟩ := H
    have e104 := p_X9_push c102
    obtain rfl := Option.some.inj H
    exact e104
set_option maxHeartbeats 4000000 in
set_option maxRecDepth 20000 in
theorem t_X9_step {G : GE} (d : Nat) {p0 : Nat} {p1 : Int32} {p2 : Int32} {p3 : Nat} {h : HS} {q : (Int32 × HS)} (H : f_X9_step p0 p1 p2 p3 h = some q) : CE G (d + 1) yX9_step miX9_step [.ref p0, .int p1, .int p2, .ref p3] h (some (.int q.1)) (q.2) := by
  unfold f_X9_step at H
  refine ce_of rfl (by decide) (fun q => by first | rfl | cases q) (Nat.le_of_ble_eq_true rfl) rfl ?_
  refine e_iload_n dX9_step_0 rfl ?_
  refine e_sipush (v := (10200 : Int32)) dX9_step_1 (by decide) ?_
  refine e_isub dX9_step_4 ?_
  refine e_istore dX9_step_5 (Nat.le_of_ble_eq_true rfl) rfl rfl ?_
  refine e_iload_n dX9_step_7 rfl ?_
  refine e_sipush (v := (10000 : Int32)) dX9_step_8 (by decide) ?_
  refine e_icmp_ge (tgt := 21) dX9_step_11 (by decide) (fun c1 => ?_) (fun c1 => ?_)
  · replace H := ot c1 H
    refine e_iload dX9_step_21 rfl ?_
    refine e_if_lt (tgt := 50) dX9_step_23 (by decide) (fun c2 => ?_) (fun c2 => ?_)
    · replace H := ot c2 H
      refine e_iload_n dX9_step_50 rfl ?_
      refine e_sipush (v := (10001 : Int32)) dX9_step_51 (by decide) ?_
      refine e_icmp_eq (tgt := 64) dX9_step_54 (by decide) (fun c3 => ?_) (fun c3 => ?_)
      · replace H := ot c3 H
        refine g_aload_n dX9_step_64 rfl rfl ?_
        refine e_iload_n dX9_step_65 rfl ?_
        refine e_iload_n dX9_step_66 rfl ?_
        replace H := og H; obtain ⟨g6, H⟩ := H
        replace H := ob H; obtain ⟨q4, c5, H⟩ := H
        refine v1 g6 (by decide) rfl rfl lmX9_33 liX9_alter lvX9_X9_alter msX9_alter dX9_step_67 (t_X9_alter (d + 0) c5) rfl (Nat.le_of_ble_eq_true rfl) (Nat.le_refl _) ?_
        have e7 := p_X9_alter c5
        obtain rfl := Option.some.inj H
        exact z_iret rfl rfl dX9_step_70 rfl rfl
      · replace H := of_ c3 H
        refine e_iload_n dX9_step_57 rfl ?_
        refine e_sipush (v := (10212 : Int32)) dX9_step_58 (by decide) ?_
        refine e_icmp_ne (tgt := 71) dX9_step_61 (by decide) (fun c8 => ?_) (fun c8 => ?_)
        · replace H := of_ c8 H
          refine e_iload_n dX9_step_71 rfl ?_
          refine e_iconst (v := (2 : Int32)) dX9_step_72 (by decide) ?_
          refine e_icmp_lt (tgt := 85) dX9_step_73 (by decide) (fun c9 => ?_) (fun c9 => ?_)
          · replace H := ot c9 H
            refine e_iload_n dX9_step_85 rfl ?_
            obtain rfl := Option.some.inj H
            exact z_iret rfl rfl dX9_step_86 rfl rfl
          · replace H := of_ c9 H
            refine e_iload_n dX9_step_76 rfl ?_
            refine g_aload_n dX9_step_77 rfl rfl ?_
            replace H := og H; obtain ⟨g10, H⟩ := H
            replace H := oom H; obtain ⟨-, H⟩ | ⟨b11, e12, H⟩ := H
            · exact nz H
            refine e_getR g10 flX9_15_10 dX9_step_78 rfl e12 ?_
            replace H := og H; obtain ⟨g13, H⟩ := H
            refine e_alen g13 (by decide) dX9_step_81 ?_
            refine e_icmp_le (tgt := 87) dX9_step_82 (by decide) (fun c14 => ?_) (fun c14 => ?_)
            · replace H := ot c14 H
              refine g_aload_n dX9_step_87 rfl rfl ?_
              replace H := oom H; obtain ⟨-, H⟩ | ⟨b15, e16, H⟩ := H
              · exact nz H
              refine e_getR g10 flX9_15_10 dX9_step_88 rfl e16 ?_
              refine e_iload_n dX9_step_91 rfl ?_
              refine e_iconst (v := (2 : Int32)) dX9_step_92 (by decide) ?_
              refine e_isub dX9_step_93 ?_
              refine e_iload_n dX9_step_94 rfl ?_
              refine g_aload_n dX9_step_95 rfl rfl ?_
              replace H := oom H; obtain ⟨-, H⟩ | ⟨b17, e18, H⟩ := H
              · exact nz H
              refine e_getR g10 flX9_15_10 dX9_step_96 rfl e18 ?_
              refine e_iload_n dX9_step_99 rfl ?_
              refine e_iconst (v := (2 : Int32)) dX9_step_100 (by decide) ?_
              refine e_isub dX9_step_101 ?_
              replace H := og H; obtain ⟨g19, H⟩ := H
              replace H := og H; obtain ⟨g20, H⟩ := H
              refine e_iald g19 (ixb_y rfl g20) dX9_step_102 ?_
              refine g_aload_n dX9_step_103 rfl rfl ?_
              replace H := oom H; obtain ⟨-, H⟩ | ⟨b21, e22, H⟩ := H
              · exact nz H
              refine e_getR g10 flX9_15_10 dX9_step_104 rfl e22 ?_
              refine e_iload_n dX9_step_107 rfl ?_
              refine e_iconst (v := (1 : Int32)) dX9_step_108 (by decide) ?_
              refine e_isub dX9_step_109 ?_
              replace H := og H; obtain ⟨g23, H⟩ := H
              replace H := og H; obtain ⟨g24, H⟩ := H
              refine e_iald g23 (ixb_y rfl g24) dX9_step_110 ?_
              replace H := ob H; obtain ⟨q25, c26, H⟩ := H
              refine s1 lmX9_36 lsX9_joined msX9_joined dX9_step_111 (t_X9_joined (d + 0) c26) rfl (Nat.le_of_ble_eq_true rfl) (Nat.le_refl _) ?_
              replace H := og H; obtain ⟨g27, H⟩ := H
              replace H := og H; obtain ⟨g28, H⟩ := H
              refine e_iast g27 (ixb_y rfl g28) dX9_step_114 ?_
              refine e_iload_n dX9_step_115 rfl ?_
              refine e_iconst (v := (1 : Int32)) dX9_step_116 (by decide) ?_
              refine e_isub dX9_step_117 ?_
              obtain rfl := Option.some.inj H
              exact z_iret rfl rfl dX9_step_118 rfl rfl
            · replace H := of_ c14 H
              refine e_iload_n dX9_step_85 rfl ?_
              obtain rfl := Option.some.inj H
              exact z_iret rfl rfl dX9_step_86 rfl rfl
        · replace H := ot c8 H
          refine g_aload_n dX9_step_64 rfl rfl ?_
          refine e_iload_n dX9_step_65 rfl ?_
          refine e_iload_n dX9_step_66 rfl ?_
          replace H := og H; obtain ⟨g31, H⟩ := H
          replace H := ob H; obtain ⟨q29, c30, H⟩ := H
          refine v1 g31 (by decide) rfl rfl lmX9_33 liX9_alter lvX9_X9_alter msX9_alter dX9_step_67 (t_X9_alter (d + 0) c30) rfl (Nat.le_of_ble_eq_true rfl) (Nat.le_refl _) ?_
          have e32 := p_X9_alter c30
          obtain rfl := Option.some.inj H
          exact z_iret rfl rfl dX9_step_70 rfl rfl
    · replace H := of_ c2 H
      refine e_iload dX9_step_26 rfl ?_
      refine e_bipush (v := (6 : Int32)) dX9_step_28 (by decide) ?_
      refine e_icmp_ge (tgt := 50) dX9_step_30 (by decide) (fun c33 => ?_) (fun c33 => ?_)
      · replace H := ot c33 H
        refine e_iload_n dX9_step_50 rfl ?_
        refine e_sipush (v := (10001 : Int32)) dX9_step_51 (by decide) ?_
        refine e_icmp_eq (tgt := 64) dX9_step_54 (by decide) (fun c34 => ?_) (fun c34 => ?_)
        · replace H := ot c34 H
          refine g_aload_n dX9_step_64 rfl rfl ?_
          refine e_iload_n dX9_step_65 rfl ?_
          refine e_iload_n dX9_step_66 rfl ?_
          replace H := og H; obtain ⟨g37, H⟩ := H
          replace H := ob H; obtain ⟨q35, c36, H⟩ := H
          refine v1 g37 (by decide) rfl rfl lmX9_33 liX9_alter lvX9_X9_alter msX9_alter dX9_step_67 (t_X9_alter (d + 0) c36) rfl (Nat.le_of_ble_eq_true rfl) (Nat.le_refl _) ?_
          have e38 := p_X9_alter c36
          obtain rfl := Option.some.inj H
          exact z_iret rfl rfl dX9_step_70 rfl rfl
        · replace H := of_ c34 H
          refine e_iload_n dX9_step_57 rfl ?_
          refine e_sipush (v := (10212 : Int32)) dX9_step_58 (by decide) ?_
          refine e_icmp_ne (tgt := 71) dX9_step_61 (by decide) (fun c39 => ?_) (fun c39 => ?_)
          · replace H := of_ c39 H
            refine e_iload_n dX9_step_71 rfl ?_
            refine e_iconst (v := (2 : Int32)) dX9_step_72 (by decide) ?_
            refine e_icmp_lt (tgt := 85) dX9_step_73 (by decide) (fun c40 => ?_) (fun c40 => ?_)
            · replace H := ot c40 H
              refine e_iload_n dX9_step_85 rfl ?_
              obtain rfl := Option.some.inj H
              exact z_iret rfl rfl dX9_step_86 rfl rfl
            · replace H := of_ c40 H
              refine e_iload_n dX9_step_76 rfl ?_
              refine g_aload_n dX9_step_77 rfl rfl ?_
              replace H := og H; obtain ⟨g41, H⟩ := H
              replace H := oom H; obtain ⟨-, H⟩ | ⟨b42, e43, H⟩ := H
              · exact nz H
              refine e_getR g41 flX9_15_10 dX9_step_78 rfl e43 ?_
              replace H := og H; obtain ⟨g44, H⟩ := H
              refine e_alen g44 (by decide) dX9_step_81 ?_
              refine e_icmp_le (tgt := 87) dX9_step_82 (by decide) (fun c45 => ?_) (fun c45 => ?_)
              · replace H := ot c45 H
                refine g_aload_n dX9_step_87 rfl rfl ?_
                replace H := oom H; obtain ⟨-, H⟩ | ⟨b46, e47, H⟩ := H
                · exact nz H
                refine e_getR g41 flX9_15_10 dX9_step_88 rfl e47 ?_
                refine e_iload_n dX9_step_91 rfl ?_
                refine e_iconst (v := (2 : Int32)) dX9_step_92 (by decide) ?_
                refine e_isub dX9_step_93 ?_
                refine e_iload_n dX9_step_94 rfl ?_
                refine g_aload_n dX9_step_95 rfl rfl ?_
                replace H := oom H; obtain ⟨-, H⟩ | ⟨b48, e49, H⟩ := H
                · exact nz H
                refine e_getR g41 flX9_15_10 dX9_step_96 rfl e49 ?_
                refine e_iload_n dX9_step_99 rfl ?_
                refine e_iconst (v := (2 : Int32)) dX9_step_100 (by decide) ?_
                refine e_isub dX9_step_101 ?_
                replace H := og H; obtain ⟨g50, H⟩ := H
                replace H := og H; obtain ⟨g51, H⟩ := H
                refine e_iald g50 (ixb_y rfl g51) dX9_step_102 ?_
                refine g_aload_n dX9_step_103 rfl rfl ?_
                replace H := oom H; obtain ⟨-, H⟩ | ⟨b52, e53, H⟩ := H
                · exact nz H
                refine e_getR g41 flX9_15_10 dX9_step_104 rfl e53 ?_
                refine e_iload_n dX9_step_107 rfl ?_
                refine e_iconst (v := (1 : Int32)) dX9_step_108 (by decide) ?_
                refine e_isub dX9_step_109 ?_
                replace H := og H; obtain ⟨g54, H⟩ := H
                replace H := og H; obtain ⟨g55, H⟩ := H
                refine e_iald g54 (ixb_y rfl g55) dX9_step_110 ?_
                replace H := ob H; obtain ⟨q56, c57, H⟩ := H
                refine s1 lmX9_36 lsX9_joined msX9_joined dX9_step_111 (t_X9_joined (d + 0) c57) rfl (Nat.le_of_ble_eq_true rfl) (Nat.le_refl _) ?_
                replace H := og H; obtain ⟨g58, H⟩ := H
                replace H := og H; obtain ⟨g59, H⟩ := H
                refine e_iast g58 (ixb_y rfl g59) dX9_step_114 ?_
                refine e_iload_n dX9_step_115 rfl ?_
                refine e_iconst (v := (1 : Int32)) dX9_step_116 (by decide) ?_
                refine e_isub dX9_step_117 ?_
                obtain rfl := Option.some.inj H
                exact z_iret rfl rfl dX9_step_118 rfl rfl
              · replace H := of_ c45 H
                refine e_iload_n dX9_step_85 rfl ?_
                obtain rfl := Option.some.inj H
                exact z_iret rfl rfl dX9_step_86 rfl rfl
          · replace H := ot c39 H
            refine g_aload_n dX9_step_64 rfl rfl ?_
            refine e_iload_n dX9_step_65 rfl ?_
            refine e_iload_n dX9_step_66 rfl ?_
            replace H := og H; obtain ⟨g62, H⟩ := H
            replace H := ob H; obtain ⟨q60, c61, H⟩ := H
            refine v1 g62 (by decide) rfl rfl lmX9_33 liX9_alter lvX9_X9_alter msX9_alter dX9_step_67 (t_X9_alter (d + 0) c61) rfl (Nat.le_of_ble_eq_true rfl) (Nat.le_refl _) ?_
            have e63 := p_X9_alter c61
            obtain rfl := Option.some.inj H
            exact z_iret rfl rfl dX9_step_70 rfl rfl
      · replace H := of_ c33 H
        refine e_iload dX9_step_33 rfl ?_
        refine g_aload_n dX9_step_35 rfl rfl ?_
        replace H := og H; obtain ⟨g64, H⟩ := H
        refine e_alen g64 (by decide) dX9_step_36 ?_
        refine e_icmp_ge (tgt := 50) dX9_step_37 (by decide) (fun c65 => ?_) (fun c65 => ?_)
        · replace H := ot c65 H
          refine e_iload_n dX9_step_50 rfl ?_
          refine e_sipush (v := (10001 : Int32)) dX9_step_51 (by decide) ?_
          refine e_icmp_eq (tgt := 64) dX9_step_54 (by decide) (fun c66 => ?_) (fun c66 => ?_)
          · replace H := ot c66 H
            refine g_aload_n dX9_step_64 rfl rfl ?_
            refine e_iload_n dX9_step_65 rfl ?_
            refine e_iload_n dX9_step_66 rfl ?_
            replace H := og H; obtain ⟨g69, H⟩ := H
            replace H := ob H; obtain ⟨q67, c68, H⟩ := H
            refine v1 g69 (by decide) rfl rfl lmX9_33 liX9_alter lvX9_X9_alter msX9_alter dX9_step_67 (t_X9_alter (d + 0) c68) rfl (Nat.le_of_ble_eq_true rfl) (Nat.le_refl _) ?_
            have e70 := p_X9_alter c68
            obtain rfl := Option.some.inj H
            exact z_iret rfl rfl dX9_step_70 rfl rfl
          · replace H := of_ c66 H
            refine e_iload_n dX9_step_57 rfl ?_
            refine e_sipush (v := (10212 : Int32)) dX9_step_58 (by decide) ?_
            refine e_icmp_ne (tgt := 71) dX9_step_61 (by decide) (fun c71 => ?_) (fun c71 => ?_)
            · replace H := of_ c71 H
              refine e_iload_n dX9_step_71 rfl ?_
              refine e_iconst (v := (2 : Int32)) dX9_step_72 (by decide) ?_
              refine e_icmp_lt (tgt := 85) dX9_step_73 (by decide) (fun c72 => ?_) (fun c72 => ?_)
              · replace H := ot c72 H
                refine e_iload_n dX9_step_85 rfl ?_
                obtain rfl := Option.some.inj H
                exact z_iret rfl rfl dX9_step_86 rfl rfl
              · replace H := of_ c72 H
                refine e_iload_n dX9_step_76 rfl ?_
                refine g_aload_n dX9_step_77 rfl rfl ?_
                replace H := og H; obtain ⟨g73, H⟩ := H
                replace H := oom H; obtain ⟨-, H⟩ | ⟨b74, e75, H⟩ := H
                · exact nz H
                refine e_getR g73 flX9_15_10 dX9_step_78 rfl e75 ?_
                replace H := og H; obtain ⟨g76, H⟩ := H
                refine e_alen g76 (by decide) dX9_step_81 ?_
                refine e_icmp_le (tgt := 87) dX9_step_82 (by decide) (fun c77 => ?_) (fun c77 => ?_)
                · replace H := ot c77 H
                  refine g_aload_n dX9_step_87 rfl rfl ?_
                  replace H := oom H; obtain ⟨-, H⟩ | ⟨b78, e79, H⟩ := H
                  · exact nz H
                  refine e_getR g73 flX9_15_10 dX9_step_88 rfl e79 ?_
                  refine e_iload_n dX9_step_91 rfl ?_
                  refine e_iconst (v := (2 : Int32)) dX9_step_92 (by decide) ?_
                  refine e_isub dX9_step_93 ?_
                  refine e_iload_n dX9_step_94 rfl ?_
                  refine g_aload_n dX9_step_95 rfl rfl ?_
                  replace H := oom H; obtain ⟨-, H⟩ | ⟨b80, e81, H⟩ := H
                  · exact nz H
                  refine e_getR g73 flX9_15_10 dX9_step_96 rfl e81 ?_
                  refine e_iload_n dX9_step_99 rfl ?_
                  refine e_iconst (v := (2 : Int32)) dX9_step_100 (by decide) ?_
                  refine e_isub dX9_step_101 ?_
                  replace H := og H; obtain ⟨g82, H⟩ := H
                  replace H := og H; obtain ⟨g83, H⟩ := H
                  refine e_iald g82 (ixb_y rfl g83) dX9_step_102 ?_
                  refine g_aload_n dX9_step_103 rfl rfl ?_
                  replace H := oom H; obtain ⟨-, H⟩ | ⟨b84, e85, H⟩ := H
                  · exact nz H
                  refine e_getR g73 flX9_15_10 dX9_step_104 rfl e85 ?_
                  refine e_iload_n dX9_step_107 rfl ?_
                  refine e_iconst (v := (1 : Int32)) dX9_step_108 (by decide) ?_
                  refine e_isub dX9_step_109 ?_
                  replace H := og H; obtain ⟨g86, H⟩ := H
                  replace H := og H; obtain ⟨g87, H⟩ := H
                  refine e_iald g86 (ixb_y rfl g87) dX9_step_110 ?_
                  replace H := ob H; obtain ⟨q88, c89, H⟩ := H
                  refine s1 lmX9_36 lsX9_joined msX9_joined dX9_step_111 (t_X9_joined (d + 0) c89) rfl (Nat.le_of_ble_eq_true rfl) (Nat.le_refl _) ?_
                  replace H := og H; obtain ⟨g90, H⟩ := H
                  replace H := og H; obtain ⟨g91, H⟩ := H
                  refine e_iast g90 (ixb_y rfl g91) dX9_step_114 ?_
                  refine e_iload_n dX9_step_115 rfl ?_
                  refine e_iconst (v := (1 : Int32)) dX9_step_116 (by decide) ?_
                  refine e_isub dX9_step_117 ?_
                  obtain rfl := Option.some.inj H
                  exact z_iret rfl rfl dX9_step_118 rfl rfl
                · replace H := of_ c77 H
                  refine e_iload_n dX9_step_85 rfl ?_
                  obtain rfl := Option.some.inj H
                  exact z_iret rfl rfl dX9_step_86 rfl rfl
            · replace H := ot c71 H
              refine g_aload_n dX9_step_64 rfl rfl ?_
              refine e_iload_n dX9_step_65 rfl ?_
              refine e_iload_n dX9_step_66 rfl ?_
              replace H := og H; obtain ⟨g94, H⟩ := H
              replace H := ob H; obtain ⟨q92, c93, H⟩ := H
              refine v1 g94 (by decide) rfl rfl lmX9_33 liX9_alter lvX9_X9_alter msX9_alter dX9_step_67 (t_X9_alter (d + 0) c93) rfl (Nat.le_of_ble_eq_true rfl) (Nat.le_refl _) ?_
              have e95 := p_X9_alter c93
              obtain rfl := Option.some.inj H
              exact z_iret rfl rfl dX9_step_70 rfl rfl
        · replace H := of_ c65 H
          refine g_aload_n dX9_step_40 rfl rfl ?_
          refine g_aload_n dX9_step_41 rfl rfl ?_
          refine e_iload dX9_step_42 rfl ?_
          replace H := og H; obtain ⟨g96, H⟩ := H
          refine e_iald g64 (ixb_y rfl g96) dX9_step_44 ?_
          refine e_iload_n dX9_step_45 rfl ?_
          replace H := og H; obtain ⟨g99, H⟩ := H
          replace H := ob H; obtain ⟨q97, c98, H⟩ := H
          refine v1 g99 (by decide) rfl rfl lmX9_29 liX9_push lvX9_X9_push msX9_push dX9_step_46 (t_X9_push (d + 0) c98) rfl (Nat.le_of_ble_eq_true rfl) (Nat.le_refl _) ?_
          have e100 := p_X9_push c98
          obtain rfl := Option.some.inj H
          exact z_iret rfl rfl dX9_step_49 rfl rfl
  · replace H := of_ c1 H
    refine g_aload_n dX9_step_14 rfl rfl ?_
    refine e_iload_n dX9_step_15 rfl ?_
    refine e_iload_n dX9_step_16 rfl ?_
    replace H := og H; obtain ⟨g103, H⟩ := H
    replace H := ob H; obtain ⟨q101, c102, H⟩ := H
    refine v1 g103 (by decide) rfl rfl lmX9_29 liX9_push lvX9_X9_push msX9_push dX9_step_17 (t_X9_push (d + 0) c102) rfl (Nat.le_of_ble_eq_true rfl) (Nat.le_refl _) ?_
    have e104 := p_X9_push c102
    obtain rfl := Option.some.inj H
    exact z_iret rfl rfl dX9_step_20 rfl rfl
-- X9_comesTo
def l_X9_comesTo_61 (y0 : Nat) (y2 : Nat) (y4 : Int32)  : Nat → Int32 → Int32 → HS → Option (Int32 × HS)
  | 0, _, _, _ => none
  | n + 1, x5, x6, h => (if x6 < 0 then (some (x5, h)) else (if y4 ≤ x6 then (some (x5, h)) else (if hT h y0 = 11 then (om (hR h y0 0) none (fun b36 => (if hT h b36 = 15 then (if (nI (hLn h b36)) ≤ x6 then (some (x5, h)) else (om (hR h y0 0) none (fun b40 => (if hT h b40 = 15 then (if ixb x6 (hLn h b40) = true then (Option.bind (f_X9_step y0 (hI h b40 x6.toNatClampNeg) x5 y2 h) (fun q44 => (l_X9_comesTo_61 y0 y2 y4 n q44.1 (x6 + (1 : Int32)) q44.2))) else none) else none)))) else none))) else none)))
set_option maxHeartbeats 4000000 in
set_option maxRecDepth 20000 in
theorem p_X9_comesTo_61 {y0 : Nat} {y2 : Nat} {y4 : Int32} : ∀ (n : Nat) {x5 : Int32} {x6 : Int32} {h : HS} {q : (Int32 × HS)}, l_X9_comesTo_61 y0 y2 y4 n x5 x6 h = some q → Pr h q.2 := by
  intro n
  induction n with
  | zero => intro x5 x6 h q H; exact nz H
  | succ n ih =>
    intro x5 x6 h q H
    unfold l_X9_comesTo_61 at H
    replace H := oi H; obtain ⟨c33, H⟩ | ⟨c33, H⟩ := H
    · obtain rfl := Option.some.inj H
      exact Pr.rf
    · replace H := oi H; obtain ⟨c34, H⟩ | ⟨c34, H⟩ := H
      · obtain rfl := Option.some.inj H
        exact Pr.rf
      · replace H := og H; obtain ⟨g35, H⟩ := H
        replace H := oom H; obtain ⟨-, H⟩ | ⟨b36, e37, H⟩ := H
        · exact nz H
        replace H := og H; obtain ⟨g38, H⟩ := H
        replace H := oi H; obtain ⟨c39, H⟩ | ⟨c39, H⟩ := H
        · obtain rfl := Option.some.inj H
          exact Pr.rf
        · replace H := oom H; obtain ⟨-, H⟩ | ⟨b40, e41, H⟩ := H
          · exact nz H
          replace H := og H; obtain ⟨g42, H⟩ := H
          replace H := og H; obtain ⟨g43, H⟩ := H
          replace H := ob H; obtain ⟨q44, c45, H⟩ := H
          have e46 := p_X9_step c45
          exact e46.tr (ih H)
set_option maxHeartbeats 4000000 in
set_option maxRecDepth 20000 in
theorem w_X9_comesTo_61 {G : GE} (d : Nat) {y0 : Nat} {y2 : Nat} {y4 : Int32} {r : Option Value} {h' : HS}  : ∀ (n : Nat) {x5 : Int32} {x6 : Int32} {h : HS} {q : (Int32 × HS)}, l_X9_comesTo_61 y0 y2 y4 n x5 x6 h = some q → En G (d + 2) miX9_comesTo 105 [.ref y0, dum, dum, dum, dum, .int q.1, dum] [] q.2 r h' → En G (d + 2) miX9_comesTo 61 [.ref y0, dum, .ref y2, dum, .int y4, .int x5, .int x6] [] h r h' := by
  intro n
  induction n with
  | zero => intro x5 x6 h q H kE; exact nz H
  | succ n ih =>
    intro x5 x6 h q H kE
    unfold l_X9_comesTo_61 at H
    refine e_iload dX9_comesTo_61 rfl ?_
    refine e_if_lt (tgt := 105) dX9_comesTo_63 (by decide) (fun c33 => ?_) (fun c33 => ?_)
    · replace H := ot c33 H
      obtain rfl := Option.some.inj H
      exact e_wk (lk1 (lk1 (lk0 (lk1 (lk0 (lk1 (lk0 lkn))))))) kE
    · replace H := of_ c33 H
      refine e_iload dX9_comesTo_66 rfl ?_
      refine e_iload dX9_comesTo_68 rfl ?_
      refine e_icmp_ge (tgt := 105) dX9_comesTo_70 (by decide) (fun c34 => ?_) (fun c34 => ?_)
      · replace H := ot c34 H
        obtain rfl := Option.some.inj H
        exact e_wk (lk1 (lk1 (lk0 (lk1 (lk0 (lk1 (lk0 lkn))))))) kE
      · replace H := of_ c34 H
        refine e_iload dX9_comesTo_73 rfl ?_
        refine g_aload_n dX9_comesTo_75 rfl rfl ?_
        replace H := og H; obtain ⟨g35, H⟩ := H
        replace H := oom H; obtain ⟨-, H⟩ | ⟨b36, e37, H⟩ := H
        · exact nz H
        refine e_getR g35 flX9_11_10 dX9_comesTo_76 rfl e37 ?_
        replace H := og H; obtain ⟨g38, H⟩ := H
        refine e_alen g38 (by decide) dX9_comesTo_79 ?_
        refine e_icmp_ge (tgt := 105) dX9_comesTo_80 (by decide) (fun c39 => ?_) (fun c39 => ?_)
        · replace H := ot c39 H
          obtain rfl := Option.some.inj H
          exact e_wk (lk1 (lk1 (lk0 (lk1 (lk0 (lk1 (lk0 lkn))))))) kE
        · replace H := of_ c39 H
          refine g_aload_n dX9_comesTo_83 rfl rfl ?_
          refine g_aload_n dX9_comesTo_84 rfl rfl ?_
          replace H := oom H; obtain ⟨-, H⟩ | ⟨b40, e41, H⟩ := H
          · exact nz H
          refine e_getR g35 flX9_11_10 dX9_comesTo_85 rfl e41 ?_
          refine e_iload dX9_comesTo_88 rfl ?_
          replace H := og H; obtain ⟨g42, H⟩ := H
          replace H := og H; obtain ⟨g43, H⟩ := H
          refine e_iald g42 (ixb_y rfl g43) dX9_comesTo_90 ?_
          refine e_iload dX9_comesTo_91 rfl ?_
          refine g_aload_n dX9_comesTo_93 rfl rfl ?_
          replace H := ob H; obtain ⟨q44, c45, H⟩ := H
          refine v1 g35 (by decide) rfl rfl lmX9_25 liX9_step lvX9_X9_step msX9_step dX9_comesTo_94 (t_X9_step (d + 0) c45) rfl (Nat.le_of_ble_eq_true rfl) (Nat.le_refl _) ?_
          have e46 := p_X9_step c45
          refine e_istore dX9_comesTo_97 (Nat.le_of_ble_eq_true rfl) rfl rfl ?_
          refine e_iinc dX9_comesTo_99 rfl (ii_ (by decide : Int32.ofInt (1) = (1 : Int32))) (Nat.le_of_ble_eq_true rfl) rfl rfl ?_
          refine e_goto (tgt := 61) dX9_comesTo_102 (by decide) ?_
          exact e_wk (lk1 (lk1 (lk1 (lk1 (lk1 (lk1 (lk1 lkn))))))) (ih H kE)
def f_X9_comesTo (p0 : Nat) (p1 : Int32) (p2 : Nat) (h : HS) : Option (Int32 × HS) := (Option.bind (if p1 = 0 then (some (0 : Int32)) else (if p1 = (1 : Int32) then (if hT h p0 = 11 then (some (hI h p0 2)) else none) else (if hT h p0 = 11 then (some (hI h p0 3)) else none))) (fun q2 => (Option.bind (if p1 = 0 then (if hT h p0 = 11 then (some (hI h p0 2)) else none) else (if p1 = (1 : Int32) then (if hT h p0 = 11 then (some (hI h p0 3)) else none) else (if hT h p0 = 11 then (om (hR h p0 0) none (fun b13 => (if hT h b13 = 15 then (some (nI (hLn h b13))) else none))) else none))) (fun q9 => (Option.bind (l_X9_comesTo_61 p0 p2 q9 1000 (0 : Int32) q2 h) (fun q47 => (if q47.1 ≤ 0 then (some ((0 : Int32), q47.2)) else (if hT q47.2 p0 = 11 then (om (hR q47.2 p0 1) none (fun b52 => (if hT q47.2 b52 = 15 then (if (nI (hLn q47.2 b52)) ≤ 0 then (some ((0 : Int32), q47.2)) else (om (hR q47.2 p0 1) none (fun b56 => (if hT q47.2 b56 = 15 then (if ixb (0 : Int32) (hLn q47.2 b56) = true then (some ((hI q47.2 b56 (0 : Int32).toNatClampNeg), q47.2)) else none) else none)))) else none))) else none))))))))
set_option maxHeartbeats 4000000 in
set_option maxRecDepth 20000 in
theorem p_X9_comesTo {p0 : Nat} {p1 : Int32} {p2 : Nat} {h : HS} {q : (Int32 × HS)} (H : f_X9_comesTo p0 p1 p2 h = some q) : Pr h q.2 := by
  unfold f_X9_comesTo at H
  replace H := ob H; obtain ⟨q2, c7, H⟩ := H
  replace H := ob H; obtain ⟨q9, c18, H⟩ := H
  replace H := ob H; obtain ⟨q47, c48, H⟩ := H
  have e49 := p_X9_comesTo_61 1000 c48
  replace H := oi H; obtain ⟨c50, H⟩ | ⟨c50, H⟩ := H
  · obtain rfl := Option.some.inj H
    exact e49
  · replace H := og H; obtain ⟨g51, H⟩ := H
    replace H := oom H; obtain ⟨-, H⟩ | ⟨b52, e53, H⟩ := H
    · exact nz H
    replace H := og H; obtain ⟨g54, H⟩ := H
    replace H := oi H; obtain ⟨c55, H⟩ | ⟨c55, H⟩ := H
    · obtain rfl := Option.some.inj H
      exact e49
    · replace H := oom H; obtain ⟨-, H⟩ | ⟨b56, e57, H⟩ := H
      · exact nz H
      replace H := og H; obtain ⟨g58, H⟩ := H
      replace H := og H; obtain ⟨g59, H⟩ := H
      obtain rfl := Option.some.inj H
      exact e49
set_option maxHeartbeats 4000000 in
set_option maxRecDepth 20000 in
theorem t_X9_comesTo {G : GE} (d : Nat) {p0 : Nat} {p1 : Int32} {p2 : Nat} {h : HS} {q : (Int32 × HS)} (H : f_X9_comesTo p0 p1 p2 h = some q) : CE G (d + 2) yX9_comesTo miX9_comesTo [.ref p0, .int p1, .ref p2] h (some (.int q.1)) (q.2) := by
  unfold f_X9_comesTo at H
  refine ce_of rfl (by decide) (fun q => by first | rfl | cases q) (Nat.le_of_ble_eq_true rfl) rfl ?_
  refine e_iload_n dX9_comesTo_0 rfl ?_
  replace H := ob H; obtain ⟨q2, c7, H⟩ := H
  have k3 : En G (d + 2) miX9_comesTo 24 [.ref p0, .int p1, .ref p2, dum, dum, dum, dum] [.int q2] h (some (.int q.1)) (q.2) := by
    refine e_istore_n dX9_comesTo_24 (Nat.le_of_ble_eq_true rfl) rfl rfl ?_
    refine e_iload_n dX9_comesTo_25 rfl ?_
    replace H := ob H; obtain ⟨q9, c18, H⟩ := H
    have k10 : En G (d + 2) miX9_comesTo 53 [.ref p0, dum, .ref p2, .int q2, dum, dum, dum] [.int q9] h (some (.int q.1)) (q.2) := by
      refine e_istore dX9_comesTo_53 (Nat.le_of_ble_eq_true rfl) rfl rfl ?_
      refine e_iconst (v := (0 : Int32)) dX9_comesTo_55 (by decide) ?_
      refine e_istore dX9_comesTo_56 (Nat.le_of_ble_eq_true rfl) rfl rfl ?_
      refine e_iload_n dX9_comesTo_58 rfl ?_
      refine e_istore dX9_comesTo_59 (Nat.le_of_ble_eq_true rfl) rfl rfl ?_
      replace H := ob H; obtain ⟨q47, c48, H⟩ := H
      have e49 := p_X9_comesTo_61 1000 c48
      refine e_wk (lk1 (lk1 (lk1 (lk0 (lk1 (lk1 (lk1 lkn))))))) (w_X9_comesTo_61 d 1000 c48 ?_)
      refine e_iload dX9_comesTo_105 rfl ?_
      refine e_if_le (tgt := 127) dX9_comesTo_107 (by decide) (fun c50 => ?_) (fun c50 => ?_)
      · replace H := ot c50 H
        refine e_iconst (v := (0 : Int32)) dX9_comesTo_127 (by decide) ?_
        obtain rfl := Option.some.inj H
        exact z_iret rfl rfl dX9_comesTo_128 rfl rfl
      · replace H := of_ c50 H
        refine g_aload_n dX9_comesTo_110 rfl rfl ?_
        replace H := og H; obtain ⟨g51, H⟩ := H
        replace H := oom H; obtain ⟨-, H⟩ | ⟨b52, e53, H⟩ := H
        · exact nz H
        refine e_getR g51 flX9_15_10 dX9_comesTo_111 rfl e53 ?_
        replace H := og H; obtain ⟨g54, H⟩ := H
        refine e_alen g54 (by decide) dX9_comesTo_114 ?_
        refine e_if_le (tgt := 127) dX9_comesTo_115 (by decide) (fun c55 => ?_) (fun c55 => ?_)
        · replace H := ot c55 H
          refine e_iconst (v := (0 : Int32)) dX9_comesTo_127 (by decide) ?_
          obtain rfl := Option.some.inj H
          exact z_iret rfl rfl dX9_comesTo_128 rfl rfl
        · replace H := of_ c55 H
          refine g_aload_n dX9_comesTo_118 rfl rfl ?_
          replace H := oom H; obtain ⟨-, H⟩ | ⟨b56, e57, H⟩ := H
          · exact nz H
          refine e_getR g51 flX9_15_10 dX9_comesTo_119 rfl e57 ?_
          refine e_iconst (v := (0 : Int32)) dX9_comesTo_122 (by decide) ?_
          replace H := og H; obtain ⟨g58, H⟩ := H
          replace H := og H; obtain ⟨g59, H⟩ := H
          refine e_iald g58 (ixb_y rfl g59) dX9_comesTo_123 ?_
          refine e_goto (tgt := 128) dX9_comesTo_124 (by decide) ?_
          obtain rfl := Option.some.inj H
          exact z_iret rfl rfl dX9_comesTo_128 rfl rfl
    replace H := c18
    refine e_if_ne (tgt := 36) dX9_comesTo_26 (by decide) (fun c8 => ?_) (fun c8 => ?_)
    · replace H := of_ c8 H
      refine e_iload_n dX9_comesTo_36 rfl ?_
      refine e_iconst (v := (1 : Int32)) dX9_comesTo_37 (by decide) ?_
      refine e_icmp_ne (tgt := 48) dX9_comesTo_38 (by decide) (fun c11 => ?_) (fun c11 => ?_)
      · replace H := of_ c11 H
        refine g_aload_n dX9_comesTo_48 rfl rfl ?_
        replace H := og H; obtain ⟨g12, H⟩ := H
        replace H := oom H; obtain ⟨-, H⟩ | ⟨b13, e14, H⟩ := H
        · exact nz H
        refine e_getR g12 flX9_11_10 dX9_comesTo_49 rfl e14 ?_
        replace H := og H; obtain ⟨g15, H⟩ := H
        refine e_alen g15 (by decide) dX9_comesTo_52 ?_
        obtain rfl := Option.some.inj H
        exact e_wk (lk1 (lk0 (lk1 (lk1 (lk1 (lk1 (lk1 lkn))))))) k10
      · replace H := ot c11 H
        refine g_aload_n dX9_comesTo_41 rfl rfl ?_
        replace H := og H; obtain ⟨g16, H⟩ := H
        refine e_getI g16 flX9_22_10 dX9_comesTo_42 rfl ?_
        refine e_goto (tgt := 53) dX9_comesTo_45 (by decide) ?_
        obtain rfl := Option.some.inj H
        exact e_wk (lk1 (lk0 (lk1 (lk1 (lk1 (lk1 (lk1 lkn))))))) k10
    · replace H := ot c8 H
      refine g_aload_n dX9_comesTo_29 rfl rfl ?_
      replace H := og H; obtain ⟨g17, H⟩ := H
      refine e_getI g17 flX9_18_10 dX9_comesTo_30 rfl ?_
      refine e_goto (tgt := 53) dX9_comesTo_33 (by decide) ?_
      obtain rfl := Option.some.inj H
      exact e_wk (lk1 (lk0 (lk1 (lk1 (lk1 (lk1 (lk1 lkn))))))) k10
  replace H := c7
  refine e_if_ne (tgt := 8) dX9_comesTo_1 (by decide) (fun c1 => ?_) (fun c1 => ?_)
  · replace H := of_ c1 H
    refine e_iload_n dX9_comesTo_8 rfl ?_
    refine e_iconst (v := (1 : Int32)) dX9_comesTo_9 (by decide) ?_
    refine e_icmp_ne (tgt := 20) dX9_comesTo_10 (by decide) (fun c4 => ?_) (fun c4 => ?_)
    · replace H := of_ c4 H
      refine g_aload_n dX9_comesTo_20 rfl rfl ?_
      replace H := og H; obtain ⟨g5, H⟩ := H
      refine e_getI g5 flX9_22_10 dX9_comesTo_21 rfl ?_
      obtain rfl := Option.some.inj H
      exact e_wk (lk1 (lk1 (lk1 (lk1 (lk1 (lk1 (lk1 lkn))))))) k3
    · replace H := ot c4 H
      refine g_aload_n dX9_comesTo_13 rfl rfl ?_
      replace H := og H; obtain ⟨g6, H⟩ := H
      refine e_getI g6 flX9_18_10 dX9_comesTo_14 rfl ?_
      refine e_goto (tgt := 24) dX9_comesTo_17 (by decide) ?_
      obtain rfl := Option.some.inj H
      exact e_wk (lk1 (lk1 (lk1 (lk1 (lk1 (lk1 (lk1 lkn))))))) k3
  · replace H := ot c1 H
    refine e_iconst (v := (0 : Int32)) dX9_comesTo_4 (by decide) ?_
    refine e_goto (tgt := 24) dX9_comesTo_5 (by decide) ?_
    obtain rfl := Option.some.inj H
    exact e_wk (lk1 (lk1 (lk1 (lk1 (lk1 (lk1 (lk1 lkn))))))) k3
-- Jxa1e45_init_da8c8
def f_Jxa1e45_init_da8c8 (p0 : Nat) : Option Unit := (some ())
set_option maxHeartbeats 4000000 in
set_option maxRecDepth 20000 in
theorem t_Jxa1e45_init_da8c8 {G : GE} (d : Nat) {p0 : Nat} {h : HS} {q : Unit} (H : f_Jxa1e45_init_da8c8 p0 = some q) : CE G (d + 1) yJxa1e45_init_da8c8 miJxa1e45_init_da8c8 [.ref p0] h (none) (h) := by
  unfold f_Jxa1e45_init_da8c8 at H
  refine ce_of rfl (by decide) (fun q => by first | rfl | cases q) (Nat.le_of_ble_eq_true rfl) rfl ?_
  refine g_aload_n dJxa1e45_init_da8c8_0 rfl rfl ?_
  refine e_objI lmJxa1e45_1 dJxa1e45_init_da8c8_1 (Nat.le_of_ble_eq_true rfl) (by omega) ?_
  obtain rfl := Option.some.inj H
  exact z_vret rfl dJxa1e45_init_da8c8_4 rfl rfl
-- Jxc12de_init_da8c8
def f_Jxc12de_init_da8c8 (p0 : Nat) (h : HS) : Option HS := (Option.bind (f_Jxa1e45_init_da8c8 p0) (fun q1 => (if hT h p0 = 1 then (some (sI h p0 0 (0 : Int32))) else none)))
set_option maxHeartbeats 4000000 in
set_option maxRecDepth 20000 in
theorem p_Jxc12de_init_da8c8 {p0 : Nat} {h : HS} {q : HS} (H : f_Jxc12de_init_da8c8 p0 h = some q) : Pr h q := by
  unfold f_Jxc12de_init_da8c8 at H
  replace H := ob H; obtain ⟨q1, c2, H⟩ := H
  replace H := og H; obtain ⟨g3, H⟩ := H
  obtain rfl := Option.some.inj H
  exact Pr.rf
set_option maxHeartbeats 4000000 in
set_option maxRecDepth 20000 in
theorem t_Jxc12de_init_da8c8 {G : GE} (d : Nat) {p0 : Nat} {h : HS} {q : HS} (H : f_Jxc12de_init_da8c8 p0 h = some q) : CE G (d + 2) yJxc12de_init_da8c8 miJxc12de_init_da8c8 [.ref p0] h (none) (q) := by
  unfold f_Jxc12de_init_da8c8 at H
  refine ce_of rfl (by decide) (fun q => by first | rfl | cases q) (Nat.le_of_ble_eq_true rfl) rfl ?_
  refine g_aload_n dJxc12de_init_da8c8_0 rfl rfl ?_
  replace H := ob H; obtain ⟨q1, c2, H⟩ := H
  refine i0 rfl lmJxc12de_1 liJxa1e45_init_da8c8 msJxa1e45_init_da8c8 rfl dJxc12de_init_da8c8_1 (t_Jxa1e45_init_da8c8 (d + 0) c2) rfl (Nat.le_of_ble_eq_true rfl) (Nat.le_refl _) ?_
  refine g_aload_n dJxc12de_init_da8c8_4 rfl rfl ?_
  refine e_iconst (v := (0 : Int32)) dJxc12de_init_da8c8_5 (by decide) ?_
  replace H := og H; obtain ⟨g3, H⟩ := H
  refine e_putI g3 fpJxc12de_7_0i rfl dJxc12de_init_da8c8_6 ?_
  obtain rfl := Option.some.inj H
  exact z_vret rfl dJxc12de_init_da8c8_9 rfl rfl
-- Jx4a65c_init_da8c8
def f_Jx4a65c_init_da8c8 (p0 : Nat) (h : HS) : Option HS := (Option.bind (f_Jxc12de_init_da8c8 p0 h) (fun q1 => (if hT q1 p0 = 1 then (if fixR p0 1 = false then (some (sR q1 p0 1 (some 27))) else none) else none)))
set_option maxHeartbeats 4000000 in
set_option maxRecDepth 20000 in
theorem p_Jx4a65c_init_da8c8 {p0 : Nat} {h : HS} {q : HS} (H : f_Jx4a65c_init_da8c8 p0 h = some q) : Pr h q := by
  unfold f_Jx4a65c_init_da8c8 at H
  replace H := ob H; obtain ⟨q1, c2, H⟩ := H
  have e3 := p_Jxc12de_init_da8c8 c2
  replace H := og H; obtain ⟨g4, H⟩ := H
  replace H := og H; obtain ⟨g5, H⟩ := H
  have e6 := Pr.sR (h := q1) (a := p0) (k := 1) (v := some 27) Pr.rf g5
  obtain rfl := Option.some.inj H
  exact (e3.tr e6)
set_option maxHeartbeats 4000000 in
set_option maxRecDepth 20000 in
theorem t_Jx4a65c_init_da8c8 {G : GE} (d : Nat) {p0 : Nat} {h : HS} {q : HS} (H : f_Jx4a65c_init_da8c8 p0 h = some q) : CE G (d + 3) yJx4a65c_init_da8c8 miJx4a65c_init_da8c8 [.ref p0] h (none) (q) := by
  unfold f_Jx4a65c_init_da8c8 at H
  refine ce_of rfl (by decide) (fun q => by first | rfl | cases q) (Nat.le_of_ble_eq_true rfl) rfl ?_
  refine g_aload_n dJx4a65c_init_da8c8_0 rfl rfl ?_
  replace H := ob H; obtain ⟨q1, c2, H⟩ := H
  refine i0 rfl lmJx4a65c_1 liJxc12de_init_da8c8 msJxc12de_init_da8c8 rfl dJx4a65c_init_da8c8_1 (t_Jxc12de_init_da8c8 (d + 0) c2) rfl (Nat.le_of_ble_eq_true rfl) (Nat.le_refl _) ?_
  have e3 := p_Jxc12de_init_da8c8 c2
  refine g_aload_n dJx4a65c_init_da8c8_4 rfl rfl ?_
  refine e_gsD (gT_1 47 rfl rfl) dJx4a65c_init_da8c8_5 ?_
  replace H := og H; obtain ⟨g4, H⟩ := H
  replace H := og H; obtain ⟨g5, H⟩ := H
  refine e_putR g4 fpJx4a65c_9_0i (by first | exact Or.inl ⟨_, rfl⟩ | exact Or.inr ⟨_, rfl⟩) dJx4a65c_init_da8c8_8 ?_
  have e6 := Pr.sR (h := q1) (a := p0) (k := 1) (v := some 27) Pr.rf g5
  obtain rfl := Option.some.inj H
  exact z_vret rfl dJx4a65c_init_da8c8_11 rfl rfl
-- Jx4a65c_grow_92f84
def f_Jx4a65c_grow_92f84 (p0 : Nat) (p1 : Int32) (h : HS) : Option (Option Nat × HS) := (if hT h p0 = 1 then (om (hR h p0 1) none (fun b2 => (if b2 = 27 then (om (hR h p0 1) none (fun b5 => (if b5 = 27 then (Option.bind (f_J9_max_7cf53 (10 : Int32) p1) (fun q8 => (if nab q8 = true then (if hT h (hN h) = 0 then (bh (hNew h 18 q8.toNatClampNeg q8.toNatClampNeg) (fun h13 => (if fixR p0 1 = false then (some ((some (hN h)), (sR h13 p0 1 (some (hN h))))) else none))) else none) else none))) else none))) else (if hT h b2 = 18 then (if 0 < (nI (hLn h b2)) then none else (om (hR h p0 1) none (fun b21 => (if b21 = 27 then (Option.bind (f_J9_max_7cf53 (10 : Int32) p1) (fun q24 => (if nab q24 = true then (if hT h (hN h) = 0 then (bh (hNew h 18 q24.toNatClampNeg q24.toNatClampNeg) (fun h29 => (if fixR p0 1 = false then (some ((some (hN h)), (sR h29 p0 1 (some (hN h))))) else none))) else none) else none))) else none)))) else none)))) else none)
set_option maxHeartbeats 4000000 in
set_option maxRecDepth 20000 in
theorem p_Jx4a65c_grow_92f84 {p0 : Nat} {p1 : Int32} {h : HS} {q : (Option Nat × HS)} (H : f_Jx4a65c_grow_92f84 p0 p1 h = some q) : Pr h q.2 := by
  unfold f_Jx4a65c_grow_92f84 at H
  replace H := og H; obtain ⟨g1, H⟩ := H
  replace H := oom H; obtain ⟨-, H⟩ | ⟨b2, e3, H⟩ := H
  · exact nz H
  replace H := oi H; obtain ⟨c35, H⟩ | ⟨c35, H⟩ := H
  · subst c35
    replace H := oom H; obtain ⟨-, H⟩ | ⟨b5, e6, H⟩ := H
    · exact nz H
    replace H := oi H; obtain ⟨c18, H⟩ | ⟨c18, H⟩ := H
    · subst c18
      replace H := ob H; obtain ⟨q8, c9, H⟩ := H
      replace H := og H; obtain ⟨g10, H⟩ := H
      replace H := og H; obtain ⟨g11, H⟩ := H
      have e12 := Pr.nw (h := h) (kd := 18) (ln := q8.toNatClampNeg) (ns := q8.toNatClampNeg) Pr.rf g11
      replace H := obh H; obtain ⟨h13, e14, H⟩ := H
      replace H := og H; obtain ⟨g15, H⟩ := H
      have e16 := Pr.sR (h := h13) (a := p0) (k := 1) (v := some (hN h)) Pr.rf g15
      obtain rfl := Option.some.inj H
      exact ((kP e14 e12).tr e16)
    · exact nz H
  · replace H := og H; obtain ⟨g19, H⟩ := H
    replace H := oi H; obtain ⟨c20, H⟩ | ⟨c20, H⟩ := H
    · exact nz H
    · replace H := oom H; obtain ⟨-, H⟩ | ⟨b21, e22, H⟩ := H
      · exact nz H
      replace H := oi H; obtain ⟨c34, H⟩ | ⟨c34, H⟩ := H
      · subst c34
        replace H := ob H; obtain ⟨q24, c25, H⟩ := H
        replace H := og H; obtain ⟨g26, H⟩ := H
        replace H := og H; obtain ⟨g27, H⟩ := H
        have e28 := Pr.nw (h := h) (kd := 18) (ln := q24.toNatClampNeg) (ns := q24.toNatClampNeg) Pr.rf g27
        replace H := obh H; obtain ⟨h29, e30, H⟩ := H
        replace H := og H; obtain ⟨g31, H⟩ := H
        have e32 := Pr.sR (h := h29) (a := p0) (k := 1) (v := some (hN h)) Pr.rf g31
        obtain rfl := Option.some.inj H
        exact ((kP e30 e28).tr e32)
      · exact nz H
set_option maxHeartbeats 4000000 in
set_option maxRecDepth 20000 in
theorem t_Jx4a65c_grow_92f84 {G : GE} (d : Nat) {p0 : Nat} {p1 : Int32} {h : HS} {q : (Option Nat × HS)} (H : f_Jx4a65c_grow_92f84 p0 p1 h = some q) : CE G (d + 1) yJx4a65c_grow_92f84 miJx4a65c_grow_92f84 [.ref p0, .int p1] h (some (va_rf q.1)) (q.2) := by
  unfold f_Jx4a65c_grow_92f84 at H
  refine ce_of rfl (by decide) (fun q => by first | rfl | cases q) (Nat.le_of_ble_eq_true rfl) rfl ?_
  refine g_aload_n dJx4a65c_grow_92f84_0 rfl rfl ?_
  replace H := og H; obtain ⟨g1, H⟩ := H
  replace H := oom H; obtain ⟨-, H⟩ | ⟨b2, e3, H⟩ := H
  · exact nz H
  refine e_getR g1 flJx4a65c_9_0 dJx4a65c_grow_92f84_1 rfl e3 ?_
  replace H := oi H; obtain ⟨c35, H⟩ | ⟨c35, H⟩ := H
  · subst c35
    refine e_cDl dJx4a65c_grow_92f84_4 ?_
    refine e_istore_n dJx4a65c_grow_92f84_5 (Nat.le_of_ble_eq_true rfl) rfl rfl ?_
    refine e_iload_n dJx4a65c_grow_92f84_6 rfl ?_
    refine e_if_gt (tgt := 20) dJx4a65c_grow_92f84_7 (by decide) (fun c4 => absurd c4 (by decide)) (fun c4 => ?_)
    refine g_aload_n dJx4a65c_grow_92f84_10 rfl rfl ?_
    replace H := oom H; obtain ⟨-, H⟩ | ⟨b5, e6, H⟩ := H
    · exact nz H
    refine e_getR g1 flJx4a65c_9_0 dJx4a65c_grow_92f84_11 rfl e6 ?_
    replace H := oi H; obtain ⟨c18, H⟩ | ⟨c18, H⟩ := H
    · subst c18
      refine e_gsD (gT_1 47 rfl rfl) dJx4a65c_grow_92f84_14 ?_
      refine e_acmp_eq (tgt := 45) dJx4a65c_grow_92f84_17 (by decide) ?_
      refine g_aload_n dJx4a65c_grow_92f84_45 rfl rfl ?_
      refine e_bipush (v := (10 : Int32)) dJx4a65c_grow_92f84_46 (by decide) ?_
      refine e_iload_n dJx4a65c_grow_92f84_48 rfl ?_
      replace H := ob H; obtain ⟨q8, c9, H⟩ := H
      refine s1 lmJx4a65c_79 lsJ9_max_7cf53 msJ9_max_7cf53 dJx4a65c_grow_92f84_49 (t_J9_max_7cf53 (d + 0) c9) rfl (Nat.le_of_ble_eq_true rfl) (Nat.le_refl _) ?_
      replace H := og H; obtain ⟨g10, H⟩ := H
      replace H := og H; obtain ⟨g11, H⟩ := H
      refine e_anewO lcJx4a65c_7 (nab_t g10).1 (nab_t g10).2 dJx4a65c_grow_92f84_52 ?_
      have e12 := Pr.nw (h := h) (kd := 18) (ln := q8.toNatClampNeg) (ns := q8.toNatClampNeg) Pr.rf g11
      replace H := obh H; obtain ⟨h13, e14, H⟩ := H
      refine e_hq e14 ?_
      refine e_dup_x1 dJx4a65c_grow_92f84_55 rfl rfl ?_
      replace H := og H; obtain ⟨g15, H⟩ := H
      refine e_putR (kT e14 (e12.k g1 (by decide))) fpJx4a65c_9_0 (by first | exact Or.inl ⟨_, rfl⟩ | exact Or.inr ⟨_, rfl⟩) dJx4a65c_grow_92f84_56 ?_
      have e16 := Pr.sR (h := h13) (a := p0) (k := 1) (v := some (hN h)) Pr.rf g15
      obtain rfl := Option.some.inj H
      exact z_aret rfl (by first | exact Or.inl ⟨_, rfl⟩ | exact Or.inr ⟨_, rfl⟩) (by first | exact Or.inl rfl | exact Or.inr ⟨_, rfl⟩) dJx4a65c_grow_92f84_59 rfl rfl
    · refine e_gsD (gT_1 47 rfl rfl) dJx4a65c_grow_92f84_14 ?_
      exact nz H
  · replace H := og H; obtain ⟨g19, H⟩ := H
    refine e_alen g19 (by decide) dJx4a65c_grow_92f84_4 ?_
    refine e_istore_n dJx4a65c_grow_92f84_5 (Nat.le_of_ble_eq_true rfl) rfl rfl ?_
    refine e_iload_n dJx4a65c_grow_92f84_6 rfl ?_
    refine e_if_gt (tgt := 20) dJx4a65c_grow_92f84_7 (by decide) (fun c20 => ?_) (fun c20 => ?_)
    · replace H := ot c20 H
      refine e_iload_n dJx4a65c_grow_92f84_20 rfl ?_
      refine e_iload_n dJx4a65c_grow_92f84_21 rfl ?_
      refine e_iload_n dJx4a65c_grow_92f84_22 rfl ?_
      refine e_isub dJx4a65c_grow_92f84_23 ?_
      refine e_iload_n dJx4a65c_grow_92f84_24 rfl ?_
      refine e_iconst (v := (1 : Int32)) dJx4a65c_grow_92f84_25 (by decide) ?_
      refine e_ishr dJx4a65c_grow_92f84_26 ?_
      exact nz H
    · replace H := of_ c20 H
      refine g_aload_n dJx4a65c_grow_92f84_10 rfl rfl ?_
      replace H := oom H; obtain ⟨-, H⟩ | ⟨b21, e22, H⟩ := H
      · exact nz H
      refine e_getR g1 flJx4a65c_9_0 dJx4a65c_grow_92f84_11 rfl e22 ?_
      replace H := oi H; obtain ⟨c34, H⟩ | ⟨c34, H⟩ := H
      · subst c34
        refine e_gsD (gT_1 47 rfl rfl) dJx4a65c_grow_92f84_14 ?_
        refine e_acmp_eq (tgt := 45) dJx4a65c_grow_92f84_17 (by decide) ?_
        refine g_aload_n dJx4a65c_grow_92f84_45 rfl rfl ?_
        refine e_bipush (v := (10 : Int32)) dJx4a65c_grow_92f84_46 (by decide) ?_
        refine e_iload_n dJx4a65c_grow_92f84_48 rfl ?_
        replace H := ob H; obtain ⟨q24, c25, H⟩ := H
        refine s1 lmJx4a65c_79 lsJ9_max_7cf53 msJ9_max_7cf53 dJx4a65c_grow_92f84_49 (t_J9_max_7cf53 (d + 0) c25) rfl (Nat.le_of_ble_eq_true rfl) (Nat.le_refl _) ?_
        replace H := og H; obtain ⟨g26, H⟩ := H
        replace H := og H; obtain ⟨g27, H⟩ := H
        refine e_anewO lcJx4a65c_7 (nab_t g26).1 (nab_t g26).2 dJx4a65c_grow_92f84_52 ?_
        have e28 := Pr.nw (h := h) (kd := 18) (ln := q24.toNatClampNeg) (ns := q24.toNatClampNeg) Pr.rf g27
        replace H := obh H; obtain ⟨h29, e30, H⟩ := H
        refine e_hq e30 ?_
        refine e_dup_x1 dJx4a65c_grow_92f84_55 rfl rfl ?_
        replace H := og H; obtain ⟨g31, H⟩ := H
        refine e_putR (kT e30 (e28.k g1 (by decide))) fpJx4a65c_9_0 (by first | exact Or.inl ⟨_, rfl⟩ | exact Or.inr ⟨_, rfl⟩) dJx4a65c_grow_92f84_56 ?_
        have e32 := Pr.sR (h := h29) (a := p0) (k := 1) (v := some (hN h)) Pr.rf g31
        obtain rfl := Option.some.inj H
        exact z_aret rfl (by first | exact Or.inl ⟨_, rfl⟩ | exact Or.inr ⟨_, rfl⟩) (by first | exact Or.inl rfl | exact Or.inr ⟨_, rfl⟩) dJx4a65c_grow_92f84_59 rfl rfl
      · refine e_gsD (gT_1 47 rfl rfl) dJx4a65c_grow_92f84_14 ?_
        exact nz H
-- Jx4a65c_grow_d5877
def f_Jx4a65c_grow_d5877 (p0 : Nat) (h : HS) : Option (Option Nat × HS) := (if hT h p0 = 1 then (Option.bind (f_Jx4a65c_grow_92f84 p0 ((hI h p0 2) + (1 : Int32)) h) (fun q2 => (om q2.1 (some (none, q2.2)) (fun b5 => (some ((some b5), q2.2)))))) else none)
set_option maxHeartbeats 4000000 in
set_option maxRecDepth 20000 in
theorem p_Jx4a65c_grow_d5877 {p0 : Nat} {h : HS} {q : (Option Nat × HS)} (H : f_Jx4a65c_grow_d5877 p0 h = some q) : Pr h q.2 := by
  unfold f_Jx4a65c_grow_d5877 at H
  replace H := og H; obtain ⟨g1, H⟩ := H
  replace H := ob H; obtain ⟨q2, c3, H⟩ := H
  have e6 := p_Jx4a65c_grow_92f84 c3
  replace H := oom H; obtain ⟨e4, H⟩ | ⟨b5, e4, H⟩ := H
  · obtain rfl := Option.some.inj H
    exact e6
  · obtain rfl := Option.some.inj H
    exact e6
set_option maxHeartbeats 4000000 in
set_option maxRecDepth 20000 in
theorem t_Jx4a65c_grow_d5877 {G : GE} (d : Nat) {p0 : Nat} {h : HS} {q : (Option Nat × HS)} (H : f_Jx4a65c_grow_d5877 p0 h = some q) : CE G (d + 2) yJx4a65c_grow_d5877 miJx4a65c_grow_d5877 [.ref p0] h (some (va_rf q.1)) (q.2) := by
  unfold f_Jx4a65c_grow_d5877 at H
  refine ce_of rfl (by decide) (fun q => by first | rfl | cases q) (Nat.le_of_ble_eq_true rfl) rfl ?_
  refine g_aload_n dJx4a65c_grow_d5877_0 rfl rfl ?_
  refine g_aload_n dJx4a65c_grow_d5877_1 rfl rfl ?_
  replace H := og H; obtain ⟨g1, H⟩ := H
  refine e_getI g1 flJx4a65c_48_0 dJx4a65c_grow_d5877_2 rfl ?_
  refine e_iconst (v := (1 : Int32)) dJx4a65c_grow_d5877_5 (by decide) ?_
  refine e_iadd dJx4a65c_grow_d5877_6 ?_
  replace H := ob H; obtain ⟨q2, c3, H⟩ := H
  have e6 := p_Jx4a65c_grow_92f84 c3
  replace H := oom H; obtain ⟨e4, H⟩ | ⟨b5, e4, H⟩ := H
  · refine v1 (e6.k g1 (by decide)) (by decide) rfl rfl lmJx4a65c_69 liJx4a65c_grow_92f84 lvJx4a65c_Jx4a65c_grow_92f84 msJx4a65c_grow_92f84 dJx4a65c_grow_d5877_7 (ceN e4 (t_Jx4a65c_grow_92f84 (d + 0) c3)) rfl (Nat.le_of_ble_eq_true rfl) (Nat.le_refl _) ?_
    obtain rfl := Option.some.inj H
    exact z_aret rfl (by first | exact Or.inl ⟨_, rfl⟩ | exact Or.inr ⟨_, rfl⟩) (by first | exact Or.inl rfl | exact Or.inr ⟨_, rfl⟩) dJx4a65c_grow_d5877_10 rfl rfl
  · refine v1 (e6.k g1 (by decide)) (by decide) rfl rfl lmJx4a65c_69 liJx4a65c_grow_92f84 lvJx4a65c_Jx4a65c_grow_92f84 msJx4a65c_grow_92f84 dJx4a65c_grow_d5877_7 (ceS e4 (t_Jx4a65c_grow_92f84 (d + 0) c3)) rfl (Nat.le_of_ble_eq_true rfl) (Nat.le_refl _) ?_
    obtain rfl := Option.some.inj H
    exact z_aret rfl (by first | exact Or.inl ⟨_, rfl⟩ | exact Or.inr ⟨_, rfl⟩) (by first | exact Or.inl rfl | exact Or.inr ⟨_, rfl⟩) dJx4a65c_grow_d5877_10 rfl rfl
-- Jx4a65c_add_72be8
def f_Jx4a65c_add_72be8 (p0 : Nat) (p1 : Nat) (p2 : Nat) (p3 : Int32) (h : HS) : Option HS := (if hT h p2 = 18 then (if p3 = (nI (hLn h p2)) then (if hT h p0 = 1 then (Option.bind (f_Jx4a65c_grow_d5877 p0 h) (fun q8 => (om q8.1 none (fun b12 => (if hT q8.2 b12 = 18 then (if ixb p3 (hLn q8.2 b12) = true then (if fixR b12 p3.toNatClampNeg = false then (if isEl (hT q8.2 p1) = true then (some (sI (sR q8.2 b12 p3.toNatClampNeg (some p1)) p0 2 (p3 + (1 : Int32)))) else none) else none) else none) else none))))) else none) else (if ixb p3 (hLn h p2) = true then (if fixR p2 p3.toNatClampNeg = false then (if isEl (hT h p1) = true then (if hT (sR h p2 p3.toNatClampNeg (some p1)) p0 = 1 then (some (sI (sR h p2 p3.toNatClampNeg (some p1)) p0 2 (p3 + (1 : Int32)))) else none) else none) else none) else none)) else none)
set_option maxHeartbeats 4000000 in
set_option maxRecDepth 20000 in
theorem p_Jx4a65c_add_72be8 {p0 : Nat} {p1 : Nat} {p2 : Nat} {p3 : Int32} {h : HS} {q : HS} (H : f_Jx4a65c_add_72be8 p0 p1 p2 p3 h = some q) : Pr h q := by
  unfold f_Jx4a65c_add_72be8 at H
  replace H := og H; obtain ⟨g1, H⟩ := H
  replace H := oi H; obtain ⟨c2, H⟩ | ⟨c2, H⟩ := H
  · replace H := og H; obtain ⟨g10, H⟩ := H
    replace H := ob H; obtain ⟨q8, c9, H⟩ := H
    have e13 := p_Jx4a65c_grow_d5877 c9
    replace H := oom H; obtain ⟨e11, H⟩ | ⟨b12, e11, H⟩ := H
    · exact nz H
    · replace H := og H; obtain ⟨g14, H⟩ := H
      replace H := og H; obtain ⟨g15, H⟩ := H
      replace H := og H; obtain ⟨g16, H⟩ := H
      replace H := og H; obtain ⟨g17, H⟩ := H
      have e18 := Pr.sR (h := q8.2) (a := b12) (k := p3.toNatClampNeg) (v := (some p1)) Pr.rf g16
      obtain rfl := Option.some.inj H
      exact (e13.tr e18)
  · replace H := og H; obtain ⟨g3, H⟩ := H
    replace H := og H; obtain ⟨g4, H⟩ := H
    replace H := og H; obtain ⟨g5, H⟩ := H
    have e6 := Pr.sR (h := h) (a := p2) (k := p3.toNatClampNeg) (v := (some p1)) Pr.rf g4
    replace H := og H; obtain ⟨g7, H⟩ := H
    obtain rfl := Option.some.inj H
    exact e6
set_option maxHeartbeats 4000000 in
set_option maxRecDepth 20000 in
theorem t_Jx4a65c_add_72be8 {G : GE} (d : Nat) {p0 : Nat} {p1 : Nat} {p2 : Nat} {p3 : Int32} {h : HS} {q : HS} (H : f_Jx4a65c_add_72be8 p0 p1 p2 p3 h = some q) : CE G (d + 3) yJx4a65c_add_72be8 miJx4a65c_add_72be8 [.ref p0, .ref p1, .ref p2, .int p3] h (none) (q) := by
  unfold f_Jx4a65c_add_72be8 at H
  refine ce_of rfl (by decide) (fun q => by first | rfl | cases q) (Nat.le_of_ble_eq_true rfl) rfl ?_
  refine e_iload_n dJx4a65c_add_72be8_0 rfl ?_
  refine g_aload_n dJx4a65c_add_72be8_1 rfl rfl ?_
  replace H := og H; obtain ⟨g1, H⟩ := H
  refine e_alen g1 (by decide) dJx4a65c_add_72be8_2 ?_
  refine e_icmp_ne (tgt := 11) dJx4a65c_add_72be8_3 (by decide) (fun c2 => ?_) (fun c2 => ?_)
  · replace H := of_ c2 H
    refine g_aload_n dJx4a65c_add_72be8_11 rfl rfl ?_
    refine e_iload_n dJx4a65c_add_72be8_12 rfl ?_
    refine g_aload_n dJx4a65c_add_72be8_13 rfl rfl ?_
    replace H := og H; obtain ⟨g3, H⟩ := H
    replace H := og H; obtain ⟨g4, H⟩ := H
    replace H := og H; obtain ⟨g5, H⟩ := H
    refine e_aastE g1 (ixb_y rfl g3) g5 dJx4a65c_add_72be8_14 ?_
    have e6 := Pr.sR (h := h) (a := p2) (k := p3.toNatClampNeg) (v := (some p1)) Pr.rf g4
    refine g_aload_n dJx4a65c_add_72be8_15 rfl rfl ?_
    refine e_iload_n dJx4a65c_add_72be8_16 rfl ?_
    refine e_iconst (v := (1 : Int32)) dJx4a65c_add_72be8_17 (by decide) ?_
    refine e_iadd dJx4a65c_add_72be8_18 ?_
    replace H := og H; obtain ⟨g7, H⟩ := H
    refine e_putI g7 fpJx4a65c_48_0 rfl dJx4a65c_add_72be8_19 ?_
    obtain rfl := Option.some.inj H
    exact z_vret rfl dJx4a65c_add_72be8_22 rfl rfl
  · replace H := ot c2 H
    refine g_aload_n dJx4a65c_add_72be8_6 rfl rfl ?_
    replace H := og H; obtain ⟨g10, H⟩ := H
    replace H := ob H; obtain ⟨q8, c9, H⟩ := H
    have e13 := p_Jx4a65c_grow_d5877 c9
    replace H := oom H; obtain ⟨e11, H⟩ | ⟨b12, e11, H⟩ := H
    · refine v1 (e13.k g10 (by decide)) (by decide) rfl rfl lmJx4a65c_129 liJx4a65c_grow_d5877 lvJx4a65c_Jx4a65c_grow_d5877 msJx4a65c_grow_d5877 dJx4a65c_add_72be8_7 (ceN e11 (t_Jx4a65c_grow_d5877 (d + 0) c9)) rfl (Nat.le_of_ble_eq_true rfl) (Nat.le_refl _) ?_
      refine g_astore_n dJx4a65c_add_72be8_10 (Nat.le_of_ble_eq_true rfl) rfl rfl rfl ?_
      refine g_aload_n dJx4a65c_add_72be8_11 rfl rfl ?_
      refine e_iload_n dJx4a65c_add_72be8_12 rfl ?_
      refine g_aload_n dJx4a65c_add_72be8_13 rfl rfl ?_
      exact nz H
    · refine v1 (e13.k g10 (by decide)) (by decide) rfl rfl lmJx4a65c_129 liJx4a65c_grow_d5877 lvJx4a65c_Jx4a65c_grow_d5877 msJx4a65c_grow_d5877 dJx4a65c_add_72be8_7 (ceS e11 (t_Jx4a65c_grow_d5877 (d + 0) c9)) rfl (Nat.le_of_ble_eq_true rfl) (Nat.le_refl _) ?_
      refine g_astore_n dJx4a65c_add_72be8_10 (Nat.le_of_ble_eq_true rfl) rfl rfl rfl ?_
      refine g_aload_n dJx4a65c_add_72be8_11 rfl rfl ?_
      refine e_iload_n dJx4a65c_add_72be8_12 rfl ?_
      refine g_aload_n dJx4a65c_add_72be8_13 rfl rfl ?_
      replace H := og H; obtain ⟨g14, H⟩ := H
      replace H := og H; obtain ⟨g15, H⟩ := H
      replace H := og H; obtain ⟨g16, H⟩ := H
      replace H := og H; obtain ⟨g17, H⟩ := H
      refine e_aastE g14 (ixb_y rfl g15) g17 dJx4a65c_add_72be8_14 ?_
      have e18 := Pr.sR (h := q8.2) (a := b12) (k := p3.toNatClampNeg) (v := (some p1)) Pr.rf g16
      refine g_aload_n dJx4a65c_add_72be8_15 rfl rfl ?_
      refine e_iload_n dJx4a65c_add_72be8_16 rfl ?_
      refine e_iconst (v := (1 : Int32)) dJx4a65c_add_72be8_17 (by decide) ?_
      refine e_iadd dJx4a65c_add_72be8_18 ?_
      refine e_putI (e18.k (e13.k g10 (by decide)) (by decide)) fpJx4a65c_48_0 rfl dJx4a65c_add_72be8_19 ?_
      obtain rfl := Option.some.inj H
      exact z_vret rfl dJx4a65c_add_72be8_22 rfl rfl
-- Jx4a65c_add_9ea2d
def f_Jx4a65c_add_9ea2d (p0 : Nat) (p1 : Nat) (h : HS) : Option (Bool × HS) := (if hT h p0 = 1 then (om (hR (sI h p0 0 ((hI h p0 0) + (1 : Int32))) p0 1) none (fun b2 => (if b2 = 27 then (Option.bind (f_Jx4a65c_add_72be8 p0 p1 27 (hI (sI h p0 0 ((hI h p0 0) + (1 : Int32))) p0 2) (sI h p0 0 ((hI h p0 0) + (1 : Int32)))) (fun q4 => (some (true, q4)))) else (Option.bind (f_Jx4a65c_add_72be8 p0 p1 b2 (hI (sI h p0 0 ((hI h p0 0) + (1 : Int32))) p0 2) (sI h p0 0 ((hI h p0 0) + (1 : Int32)))) (fun q7 => (some (true, q7))))))) else none)
set_option maxHeartbeats 4000000 in
set_option maxRecDepth 20000 in
theorem p_Jx4a65c_add_9ea2d {p0 : Nat} {p1 : Nat} {h : HS} {q : (Bool × HS)} (H : f_Jx4a65c_add_9ea2d p0 p1 h = some q) : Pr h q.2 := by
  unfold f_Jx4a65c_add_9ea2d at H
  replace H := og H; obtain ⟨g1, H⟩ := H
  replace H := oom H; obtain ⟨-, H⟩ | ⟨b2, e3, H⟩ := H
  · exact nz H
  replace H := oi H; obtain ⟨c10, H⟩ | ⟨c10, H⟩ := H
  · subst c10
    replace H := ob H; obtain ⟨q4, c5, H⟩ := H
    have e6 := p_Jx4a65c_add_72be8 c5
    obtain rfl := Option.some.inj H
    exact e6
  · replace H := ob H; obtain ⟨q7, c8, H⟩ := H
    have e9 := p_Jx4a65c_add_72be8 c8
    obtain rfl := Option.some.inj H
    exact e9
set_option maxHeartbeats 4000000 in
set_option maxRecDepth 20000 in
theorem t_Jx4a65c_add_9ea2d {G : GE} (d : Nat) {p0 : Nat} {p1 : Nat} {h : HS} {q : (Bool × HS)} (H : f_Jx4a65c_add_9ea2d p0 p1 h = some q) : CE G (d + 4) yJx4a65c_add_9ea2d miJx4a65c_add_9ea2d [.ref p0, .ref p1] h (some (.int (b2i q.1))) (q.2) := by
  unfold f_Jx4a65c_add_9ea2d at H
  refine ce_of rfl (by decide) (fun q => by first | rfl | cases q) (Nat.le_of_ble_eq_true rfl) rfl ?_
  refine g_aload_n dJx4a65c_add_9ea2d_0 rfl rfl ?_
  refine e_dup dJx4a65c_add_9ea2d_1 rfl ?_
  replace H := og H; obtain ⟨g1, H⟩ := H
  refine e_getI g1 flJx4a65c_63_0 dJx4a65c_add_9ea2d_2 rfl ?_
  refine e_iconst (v := (1 : Int32)) dJx4a65c_add_9ea2d_5 (by decide) ?_
  refine e_iadd dJx4a65c_add_9ea2d_6 ?_
  refine e_putI g1 fpJx4a65c_63_0 rfl dJx4a65c_add_9ea2d_7 ?_
  refine g_aload_n dJx4a65c_add_9ea2d_10 rfl rfl ?_
  refine g_aload_n dJx4a65c_add_9ea2d_11 rfl rfl ?_
  refine g_aload_n dJx4a65c_add_9ea2d_12 rfl rfl ?_
  replace H := oom H; obtain ⟨-, H⟩ | ⟨b2, e3, H⟩ := H
  · exact nz H
  refine e_getR g1 flJx4a65c_9_0 dJx4a65c_add_9ea2d_13 rfl e3 ?_
  replace H := oi H; obtain ⟨c10, H⟩ | ⟨c10, H⟩ := H
  · subst c10
    refine g_aload_n dJx4a65c_add_9ea2d_16 rfl rfl ?_
    refine e_getI g1 flJx4a65c_48_0 dJx4a65c_add_9ea2d_17 rfl ?_
    replace H := ob H; obtain ⟨q4, c5, H⟩ := H
    refine v0 g1 (by decide) rfl rfl lmJx4a65c_131 liJx4a65c_add_72be8 lvJx4a65c_Jx4a65c_add_72be8 msJx4a65c_add_72be8 dJx4a65c_add_9ea2d_20 (t_Jx4a65c_add_72be8 (d + 0) c5) rfl (Nat.le_of_ble_eq_true rfl) (Nat.le_refl _) ?_
    have e6 := p_Jx4a65c_add_72be8 c5
    refine e_iconst (v := (1 : Int32)) dJx4a65c_add_9ea2d_23 (by decide) ?_
    obtain rfl := Option.some.inj H
    exact z_iret rfl rfl dJx4a65c_add_9ea2d_24 rfl rfl
  · refine g_aload_n dJx4a65c_add_9ea2d_16 rfl rfl ?_
    refine e_getI g1 flJx4a65c_48_0 dJx4a65c_add_9ea2d_17 rfl ?_
    replace H := ob H; obtain ⟨q7, c8, H⟩ := H
    refine v0 g1 (by decide) rfl rfl lmJx4a65c_131 liJx4a65c_add_72be8 lvJx4a65c_Jx4a65c_add_72be8 msJx4a65c_add_72be8 dJx4a65c_add_9ea2d_20 (t_Jx4a65c_add_72be8 (d + 0) c8) rfl (Nat.le_of_ble_eq_true rfl) (Nat.le_refl _) ?_
    have e9 := p_Jx4a65c_add_72be8 c8
    refine e_iconst (v := (1 : Int32)) dJx4a65c_add_9ea2d_23 (by decide) ?_
    obtain rfl := Option.some.inj H
    exact z_iret rfl rfl dJx4a65c_add_9ea2d_24 rfl rfl
-- X11_init
def f_X11_init (p0 : Nat) (h : HS) : Option HS := (if hT h (hN h) = 0 then (bh (hNew h 1 0 3) (fun h3 => (Option.bind (f_Jx4a65c_init_da8c8 (hN h) h3) (fun q5 => (if hT q5 p0 = 13 then (if hT (sR q5 p0 0 (some (hN h))) (hN (sR q5 p0 0 (some (hN h)))) = 0 then (bh (hNew (sR q5 p0 0 (some (hN h))) 1 0 3) (fun h13 => (Option.bind (f_Jx4a65c_init_da8c8 (hN (sR q5 p0 0 (some (hN h)))) h13) (fun q15 => (if hT (sR q15 p0 1 (some (hN (sR q5 p0 0 (some (hN h)))))) (hN (sR q15 p0 1 (some (hN (sR q5 p0 0 (some (hN h))))))) = 0 then (bh (hNew (sR q15 p0 1 (some (hN (sR q5 p0 0 (some (hN h)))))) 1 0 3) (fun h22 => (Option.bind (f_Jx4a65c_init_da8c8 (hN (sR q15 p0 1 (some (hN (sR q5 p0 0 (some (hN h))))))) h22) (fun q24 => (if hT (sI (sR q24 p0 2 (some (hN (sR q15 p0 1 (some (hN (sR q5 p0 0 (some (hN h))))))))) p0 3 (0 : Int32)) (hN (sI (sR q24 p0 2 (some (hN (sR q15 p0 1 (some (hN (sR q5 p0 0 (some (hN h))))))))) p0 3 (0 : Int32))) = 0 then (bh (hNew (sI (sR q24 p0 2 (some (hN (sR q15 p0 1 (some (hN (sR q5 p0 0 (some (hN h))))))))) p0 3 (0 : Int32)) 15 (300 : Int32).toNatClampNeg (300 : Int32).toNatClampNeg) (fun h31 => (if hT (sI (sR h31 p0 4 (some (hN (sI (sR q24 p0 2 (some (hN (sR q15 p0 1 (some (hN (sR q5 p0 0 (some (hN h))))))))) p0 3 (0 : Int32))))) p0 5 (0 : Int32)) (hN (sI (sR h31 p0 4 (some (hN (sI (sR q24 p0 2 (some (hN (sR q15 p0 1 (some (hN (sR q5 p0 0 (some (hN h))))))))) p0 3 (0 : Int32))))) p0 5 (0 : Int32))) = 0 then (bh (hNew (sI (sR h31 p0 4 (some (hN (sI (sR q24 p0 2 (some (hN (sR q15 p0 1 (some (hN (sR q5 p0 0 (some (hN h))))))))) p0 3 (0 : Int32))))) p0 5 (0 : Int32)) 15 (6 : Int32).toNatClampNeg (6 : Int32).toNatClampNeg) (fun h36 => (bh (sR h36 p0 6 (some (hN (sI (sR h31 p0 4 (some (hN (sI (sR q24 p0 2 (some (hN (sR q15 p0 1 (some (hN (sR q5 p0 0 (some (hN h))))))))) p0 3 (0 : Int32))))) p0 5 (0 : Int32))))) (fun h39 => (if hT h39 (hN h39) = 0 then (bh (hNew h39 15 (6 : Int32).toNatClampNeg (6 : Int32).toNatClampNeg) (fun h43 => (if hT (sI (sR h43 p0 7 (some (hN h39))) p0 8 (0 : Int32)) (hN (sI (sR h43 p0 7 (some (hN h39))) p0 8 (0 : Int32))) = 0 then (bh (hNew (sI (sR h43 p0 7 (some (hN h39))) p0 8 (0 : Int32)) 8 0 9) (fun h48 => (Option.bind (f_X6_init (hN (sI (sR h43 p0 7 (some (hN h39))) p0 8 (0 : Int32))) h48) (fun q50 => (if hT (sR q50 p0 9 (some (hN (sI (sR h43 p0 7 (some (hN h39))) p0 8 (0 : Int32))))) (hN (sR q50 p0 9 (some (hN (sI (sR h43 p0 7 (some (hN h39))) p0 8 (0 : Int32)))))) = 0 then (bh (hNew (sR q50 p0 9 (some (hN (sI (sR h43 p0 7 (some (hN h39))) p0 8 (0 : Int32))))) 7 0 5) (fun h56 => (Option.bind (f_X5_init (hN (sR q50 p0 9 (some (hN (sI (sR h43 p0 7 (some (hN h39))) p0 8 (0 : Int32)))))) h56) (fun q58 => (if hT (sR q58 p0 10 (some (hN (sR q50 p0 9 (some (hN (sI (sR h43 p0 7 (some (hN h39))) p0 8 (0 : Int32)))))))) (hN (sR q58 p0 10 (some (hN (sR q50 p0 9 (some (hN (sI (sR h43 p0 7 (some (hN h39))) p0 8 (0 : Int32))))))))) = 0 then (bh (hNew (sR q58 p0 10 (some (hN (sR q50 p0 9 (some (hN (sI (sR h43 p0 7 (some (hN h39))) p0 8 (0 : Int32)))))))) 19 (4 : Int32).toNatClampNeg (4 : Int32).toNatClampNeg) (fun h64 => (if hT (sR h64 p0 11 (some (hN (sR q58 p0 10 (some (hN (sR q50 p0 9 (some (hN (sI (sR h43 p0 7 (some (hN h39))) p0 8 (0 : Int32))))))))))) (hN (sR h64 p0 11 (some (hN (sR q58 p0 10 (some (hN (sR q50 p0 9 (some (hN (sI (sR h43 p0 7 (some (hN h39))) p0 8 (0 : Int32)))))))))))) = 0 then (bh (hNew (sR h64 p0 11 (some (hN (sR q58 p0 10 (some (hN (sR q50 p0 9 (some (hN (sI (sR h43 p0 7 (some (hN h39))) p0 8 (0 : Int32))))))))))) 15 (4 : Int32).toNatClampNeg (4 : Int32).toNatClampNeg) (fun h69 => (bh (sR h69 p0 12 (some (hN (sR h64 p0 11 (some (hN (sR q58 p0 10 (some (hN (sR q50 p0 9 (some (hN (sI (sR h43 p0 7 (some (hN h39))) p0 8 (0 : Int32)))))))))))))) (fun h72 => (if hT h72 (hN h72) = 0 then (bh (hNew h72 4 0 3) (fun h76 => (Option.bind (f_X2_init (hN h72) h76) (fun q78 => (if hT (sR q78 p0 13 (some (hN h72))) (hN (sR q78 p0 13 (some (hN h72)))) = 0 then (bh (hNew (sR q78 p0 13 (some (hN h72))) 15 (6 : Int32).toNatClampNeg (6 : Int32).toNatClampNeg) (fun h84 => (if hT (sR h84 p0 14 (some (hN (sR q78 p0 13 (some (hN h72)))))) (hN (sR h84 p0 14 (some (hN (sR q78 p0 13 (some (hN h72))))))) = 0 then (bh (hNew (sR h84 p0 14 (some (hN (sR q78 p0 13 (some (hN h72)))))) 15 (4 : Int32).toNatClampNeg (4 : Int32).toNatClampNeg) (fun h89 => (if hT (sR h89 p0 15 (some (hN (sR h84 p0 14 (some (hN (sR q78 p0 13 (some (hN h72))))))))) (hN (sR h89 p0 15 (some (hN (sR h84 p0 14 (some (hN (sR q78 p0 13 (some (hN h72)))))))))) = 0 then (bh (hNew (sR h89 p0 15 (some (hN (sR h84 p0 14 (some (hN (sR q78 p0 13 (some (hN h72))))))))) 16 (40 : Int32).toNatClampNeg (40 : Int32).toNatClampNeg) (fun h94 => (if hT (sR h94 p0 16 (some (hN (sR h89 p0 15 (some (hN (sR h84 p0 14 (some (hN (sR q78 p0 13 (some (hN h72)))))))))))) (hN (sR h94 p0 16 (some (hN (sR h89 p0 15 (some (hN (sR h84 p0 14 (some (hN (sR q78 p0 13 (some (hN h72))))))))))))) = 0 then (bh (hNew (sR h94 p0 16 (some (hN (sR h89 p0 15 (some (hN (sR h84 p0 14 (some (hN (sR q78 p0 13 (some (hN h72)))))))))))) 16 (40 : Int32).toNatClampNeg (40 : Int32).toNatClampNeg) (fun h99 => (if hT (sR h99 p0 17 (some (hN (sR h94 p0 16 (some (hN (sR h89 p0 15 (some (hN (sR h84 p0 14 (some (hN (sR q78 p0 13 (some (hN h72))))))))))))))) (hN (sR h99 p0 17 (some (hN (sR h94 p0 16 (some (hN (sR h89 p0 15 (some (hN (sR h84 p0 14 (some (hN (sR q78 p0 13 (some (hN h72)))))))))))))))) = 0 then (bh (hNew (sR h99 p0 17 (some (hN (sR h94 p0 16 (some (hN (sR h89 p0 15 (some (hN (sR h84 p0 14 (some (hN (sR q78 p0 13 (some (hN h72))))))))))))))) 15 (8 : Int32).toNatClampNeg (8 : Int32).toNatClampNeg) (fun h104 => (bh (sR h104 p0 18 (some (hN (sR h99 p0 17 (some (hN (sR h94 p0 16 (some (hN (sR h89 p0 15 (some (hN (sR h84 p0 14 (some (hN (sR q78 p0 13 (some (hN h72)))))))))))))))))) (fun h107 => (if hT h107 (hN h107) = 0 then (bh (hNew h107 15 (201 : Int32).toNatClampNeg (201 : Int32).toNatClampNeg) (fun h111 => (om (hR (sR h111 p0 19 (some (hN h107))) p0 9) none (fun b114 => (if b114 = 39 then (if lyB TX (sR h111 p0 19 (some (hN h107))) = true then (Option.bind (f_X6_spell 0 (sR h111 p0 19 (some (hN h107)))) (fun q119 => (om (hR q119 p0 9) none (fun b124 => (if b124 = 39 then (Option.bind (f_X6_read q119) (fun q127 => (om q127.1 (some q127.2) (fun b130 => (om (hR q127.2 p0 2) none (fun b136 => (if hT q127.2 b136 = 1 then (Option.bind (f_Jx4a65c_add_9ea2d b136 b130 q127.2) (fun q138 => (some q138.2))) else none))))))) else none))))) else none) else none))))) else none))))) else none))) else none))) else none))) else none))) else none))))) else none))))) else none))) else none))))) else none))))) else none))) else none))))) else none))) else none))))) else none))))) else none) else none))))) else none)
set_option maxHeartbeats 4000000 in
set_option maxRecDepth 20000 in
theorem p_X11_init {p0 : Nat} {h : HS} {q : HS} (H : f_X11_init p0 h = some q) : Prw h q := by
  unfold f_X11_init at H
  replace H := og H; obtain ⟨g1, H⟩ := H
  have e2 := Prw.nw (h := h) (kd := 1) (ln := 0) (ns := 3) Prw.rf g1
  replace H := obh H; obtain ⟨h3, e4, H⟩ := H
  replace H := ob H; obtain ⟨q5, c6, H⟩ := H
  have e8 := p_Jx4a65c_init_da8c8 c6
  have e7 := e8.w
  replace H := og H; obtain ⟨g9, H⟩ := H
  have e10 := Prw.sR (h := q5) (a := p0) (k := 0) (v := some (hN h)) Prw.rf 
  replace H := og H; obtain ⟨g11, H⟩ := H
  have e12 := Prw.nw (h := (sR q5 p0 0 (some (hN h)))) (kd := 1) (ln := 0) (ns := 3) Prw.rf g11
  replace H := obh H; obtain ⟨h13, e14, H⟩ := H
  replace H := ob H; obtain ⟨q15, c16, H⟩ := H
  have e18 := p_Jx4a65c_init_da8c8 c16
  have e17 := e18.w
  have e19 := Prw.sR (h := q15) (a := p0) (k := 1) (v := some (hN (sR q5 p0 0 (some (hN h))))) Prw.rf 
  replace H := og H; obtain ⟨g20, H⟩ := H
  have e21 := Prw.nw (h := (sR q15 p0 1 (some (hN (sR q5 p0 0 (some (hN h))))))) (kd := 1) (ln := 0) (ns := 3) Prw.rf g20
  replace H := obh H; obtain ⟨h22, e23, H⟩ := H
  replace H := ob H; obtain ⟨q24, c25, H⟩ := H
  have e27 := p_Jx4a65c_init_da8c8 c25
  have e26 := e27.w
  have e28 := Prw.sR (h := q24) (a := p0) (k := 2) (v := some (hN (sR q15 p0 1 (some (hN (sR q5 p0 0 (some (hN h)))))))) Prw.rf 
  replace H := og H; obtain ⟨g29, H⟩ := H
  have e30 := Prw.nw (h := (sI (sR q24 p0 2 (some (hN (sR q15 p0 1 (some (hN (sR q5 p0 0 (some (hN h))))))))) p0 3 (0 : Int32))) (kd := 15) (ln := (300 : Int32).toNatClampNeg) (ns := (300 : Int32).toNatClampNeg) Prw.rf g29
  replace H := obh H; obtain ⟨h31, e32, H⟩ := H
  have e33 := Prw.sR (h := h31) (a := p0) (k := 4) (v := some (hN (sI (sR q24 p0 2 (some (hN (sR q15 p0 1 (some (hN (sR q5 p0 0 (some (hN h))))))))) p0 3 (0 : Int32)))) Prw.rf 
  replace H := og H; obtain ⟨g34, H⟩ := H
  have e35 := Prw.nw (h := (sI (sR h31 p0 4 (some (hN (sI (sR q24 p0 2 (some (hN (sR q15 p0 1 (some (hN (sR q5 p0 0 (some (hN h))))))))) p0 3 (0 : Int32))))) p0 5 (0 : Int32))) (kd := 15) (ln := (6 : Int32).toNatClampNeg) (ns := (6 : Int32).toNatClampNeg) Prw.rf g34
  replace H := obh H; obtain ⟨h36, e37, H⟩ := H
  have e38 := Prw.sR (h := h36) (a := p0) (k := 6) (v := some (hN (sI (sR h31 p0 4 (some (hN (sI (sR q24 p0 2 (some (hN (sR q15 p0 1 (some (hN (sR q5 p0 0 (some (hN h))))))))) p0 3 (0 : Int32))))) p0 5 (0 : Int32)))) Prw.rf 
  replace H := obh H; obtain ⟨h39, e40, H⟩ := H
  replace H := og H; obtain ⟨g41, H⟩ := H
  have e42 := Prw.nw (h := h39) (kd := 15) (ln := (6 : Int32).toNatClampNeg) (ns := (6 : Int32).toNatClampNeg) Prw.rf g41
  replace H := obh H; obtain ⟨h43, e44, H⟩ := H
  have e45 := Prw.sR (h := h43) (a := p0) (k := 7) (v := some (hN h39)) Prw.rf 
  replace H := og H; obtain ⟨g46, H⟩ := H
  have e47 := Prw.nw (h := (sI (sR h43 p0 7 (some (hN h39))) p0 8 (0 : Int32))) (kd := 8) (ln := 0) (ns := 9) Prw.rf g46
  replace H := obh H; obtain ⟨h48, e49, H⟩ := H
  replace H := ob H; obtain ⟨q50, c51, H⟩ := H
  have e52 := p_X6_init c51
  have e53 := Prw.sR (h := q50) (a := p0) (k := 9) (v := some (hN (sI (sR h43 p0 7 (some (hN h39))) p0 8 (0 : Int32)))) Prw.rf 
  replace H := og H; obtain ⟨g54, H⟩ := H
  have e55 := Prw.nw (h := (sR q50 p0 9 (some (hN (sI (sR h43 p0 7 (some (hN h39))) p0 8 (0 : Int32)))))) (kd := 7) (ln := 0) (ns := 5) Prw.rf g54
  replace H := obh H; obtain ⟨h56, e57, H⟩ := H
  replace H := ob H; obtain ⟨q58, c59, H⟩ := H
  have e60 := p_X5_init c59
  have e61 := Prw.sR (h := q58) (a := p0) (k := 10) (v := some (hN (sR q50 p0 9 (some (hN (sI (sR h43 p0 7 (some (hN h39))) p0 8 (0 : Int32))))))) Prw.rf 
  replace H := og H; obtain ⟨g62, H⟩ := H
  have e63 := Prw.nw (h := (sR q58 p0 10 (some (hN (sR q50 p0 9 (some (hN (sI (sR h43 p0 7 (some (hN h39))) p0 8 (0 : Int32))))))))) (kd := 19) (ln := (4 : Int32).toNatClampNeg) (ns := (4 : Int32).toNatClampNeg) Prw.rf g62
  replace H := obh H; obtain ⟨h64, e65, H⟩ := H
  have e66 := Prw.sR (h := h64) (a := p0) (k := 11) (v := some (hN (sR q58 p0 10 (some (hN (sR q50 p0 9 (some (hN (sI (sR h43 p0 7 (some (hN h39))) p0 8 (0 : Int32)))))))))) Prw.rf 
  replace H := og H; obtain ⟨g67, H⟩ := H
  have e68 := Prw.nw (h := (sR h64 p0 11 (some (hN (sR q58 p0 10 (some (hN (sR q50 p0 9 (some (hN (sI (sR h43 p0 7 (some (hN h39))) p0 8 (0 : Int32)))))))))))) (kd := 15) (ln := (4 : Int32).toNatClampNeg) (ns := (4 : Int32).toNatClampNeg) Prw.rf g67
  replace H := obh H; obtain ⟨h69, e70, H⟩ := H
  have e71 := Prw.sR (h := h69) (a := p0) (k := 12) (v := some (hN (sR h64 p0 11 (some (hN (sR q58 p0 10 (some (hN (sR q50 p0 9 (some (hN (sI (sR h43 p0 7 (some (hN h39))) p0 8 (0 : Int32))))))))))))) Prw.rf 
  replace H := obh H; obtain ⟨h72, e73, H⟩ := H
  replace H := og H; obtain ⟨g74, H⟩ := H
  have e75 := Prw.nw (h := h72) (kd := 4) (ln := 0) (ns := 3) Prw.rf g74
  replace H := obh H; obtain ⟨h76, e77, H⟩ := H
  replace H := ob H; obtain ⟨q78, c79, H⟩ := H
  have e80 := p_X2_init c79
  have e81 := Prw.sR (h := q78) (a := p0) (k := 13) (v := some (hN h72)) Prw.rf 
  replace H := og H; obtain ⟨g82, H⟩ := H
  have e83 := Prw.nw (h := (sR q78 p0 13 (some (hN h72)))) (kd := 15) (ln := (6 : Int32).toNatClampNeg) (ns := (6 : Int32).toNatClampNeg) Prw.rf g82
  replace H := obh H; obtain ⟨h84, e85, H⟩ := H
  have e86 := Prw.sR (h := h84) (a := p0) (k := 14) (v := some (hN (sR q78 p0 13 (some (hN h72))))) Prw.rf 
  replace H := og H; obtain ⟨g87, H⟩ := H
  have e88 := Prw.nw (h := (sR h84 p0 14 (some (hN (sR q78 p0 13 (some (hN h72))))))) (kd := 15) (ln := (4 : Int32).toNatClampNeg) (ns := (4 : Int32).toNatClampNeg) Prw.rf g87
  replace H := obh H; obtain ⟨h89, e90, H⟩ := H
  have e91 := Prw.sR (h := h89) (a := p0) (k := 15) (v := some (hN (sR h84 p0 14 (some (hN (sR q78 p0 13 (some (hN h72)))))))) Prw.rf 
  replace H := og H; obtain ⟨g92, H⟩ := H
  have e93 := Prw.nw (h := (sR h89 p0 15 (some (hN (sR h84 p0 14 (some (hN (sR q78 p0 13 (some (hN h72)))))))))) (kd := 16) (ln := (40 : Int32).toNatClampNeg) (ns := (40 : Int32).toNatClampNeg) Prw.rf g92
  replace H := obh H; obtain ⟨h94, e95, H⟩ := H
  have e96 := Prw.sR (h := h94) (a := p0) (k := 16) (v := some (hN (sR h89 p0 15 (some (hN (sR h84 p0 14 (some (hN (sR q78 p0 13 (some (hN h72))))))))))) Prw.rf 
  replace H := og H; obtain ⟨g97, H⟩ := H
  have e98 := Prw.nw (h := (sR h94 p0 16 (some (hN (sR h89 p0 15 (some (hN (sR h84 p0 14 (some (hN (sR q78 p0 13 (some (hN h72))))))))))))) (kd := 16) (ln := (40 : Int32).toNatClampNeg) (ns := (40 : Int32).toNatClampNeg) Prw.rf g97
  replace H := obh H; obtain ⟨h99, e100, H⟩ := H
  have e101 := Prw.sR (h := h99) (a := p0) (k := 17) (v := some (hN (sR h94 p0 16 (some (hN (sR h89 p0 15 (some (hN (sR h84 p0 14 (some (hN (sR q78 p0 13 (some (hN h72)))))))))))))) Prw.rf 
  replace H := og H; obtain ⟨g102, H⟩ := H
  have e103 := Prw.nw (h := (sR h99 p0 17 (some (hN (sR h94 p0 16 (some (hN (sR h89 p0 15 (some (hN (sR h84 p0 14 (some (hN (sR q78 p0 13 (some (hN h72)))))))))))))))) (kd := 15) (ln := (8 : Int32).toNatClampNeg) (ns := (8 : Int32).toNatClampNeg) Prw.rf g102
  replace H := obh H; obtain ⟨h104, e105, H⟩ := H
  have e106 := Prw.sR (h := h104) (a := p0) (k := 18) (v := some (hN (sR h99 p0 17 (some (hN (sR h94 p0 16 (some (hN (sR h89 p0 15 (some (hN (sR h84 p0 14 (some (hN (sR q78 p0 13 (some (hN h72))))))))))))))))) Prw.rf 
  replace H := obh H; obtain ⟨h107, e108, H⟩ := H
  replace H := og H; obtain ⟨g109, H⟩ := H
  have e110 := Prw.nw (h := h107) (kd := 15) (ln := (201 : Int32).toNatClampNeg) (ns := (201 : Int32).toNatClampNeg) Prw.rf g109
  replace H := obh H; obtain ⟨h111, e112, H⟩ := H
  have e113 := Prw.sR (h := h111) (a := p0) (k := 19) (v := some (hN h107)) Prw.rf 
  replace H := oom H; obtain ⟨-, H⟩ | ⟨b114, e115, H⟩ := H
  · exact nz H
  replace H := og H; obtain ⟨g116, H⟩ := H
  subst g116
  replace H := og H; obtain ⟨g117, H⟩ := H
  replace H := ob H; obtain ⟨q119, c120, H⟩ := H
  have e122 := p_X6_spell c120
  have e121 := e122.w
  replace H := oom H; obtain ⟨-, H⟩ | ⟨b124, e125, H⟩ := H
  · exact nz H
  replace H := og H; obtain ⟨g126, H⟩ := H
  subst g126
  replace H := ob H; obtain ⟨q127, c128, H⟩ := H
  have e132 := p_X6_read c128
  have e131 := e132.w
  replace H := oom H; obtain ⟨e129, H⟩ | ⟨b130, e129, H⟩ := H
  · obtain rfl := Option.some.inj H
    exact ((((kW e112 ((kW e108 ((kW e105 (((kW e100 (((kW e95 (((kW e90 (((kW e85 ((((kW e77 ((kW e73 ((kW e70 (((kW e65 ((((kW e57 ((((kW e49 (((kW e44 ((kW e40 ((kW e37 (((kW e32 ((((kW e23 ((((kW e14 ((((kW e4 e2).tr e7).tr e10).tr e12)).tr e17).tr e19).tr e21)).tr e26).tr e28).tr e30)).tr e33).tr e35)).tr e38)).tr e42)).tr e45).tr e47)).tr e52).tr e53).tr e55)).tr e60).tr e61).tr e63)).tr e66).tr e68)).tr e71)).tr e75)).tr e80).tr e81).tr e83)).tr e86).tr e88)).tr e91).tr e93)).tr e96).tr e98)).tr e101).tr e103)).tr e106)).tr e110)).tr e113).tr e121).tr e131)
  · replace H := oom H; obtain ⟨-, H⟩ | ⟨b136, e137, H⟩ := H
    · exact nz H
    replace H := og H; obtain ⟨g140, H⟩ := H
    replace H := ob H; obtain ⟨q138, c139, H⟩ := H
    have e142 := p_Jx4a65c_add_9ea2d c139
    have e141 := e142.w
    obtain rfl := Option.some.inj H
    exact (((((kW e112 ((kW e108 ((kW e105 (((kW e100 (((kW e95 (((kW e90 (((kW e85 ((((kW e77 ((kW e73 ((kW e70 (((kW e65 ((((kW e57 ((((kW e49 (((kW e44 ((kW e40 ((kW e37 (((kW e32 ((((kW e23 ((((kW e14 ((((kW e4 e2).tr e7).tr e10).tr e12)).tr e17).tr e19).tr e21)).tr e26).tr e28).tr e30)).tr e33).tr e35)).tr e38)).tr e42)).tr e45).tr e47)).tr e52).tr e53).tr e55)).tr e60).tr e61).tr e63)).tr e66).tr e68)).tr e71)).tr e75)).tr e80).tr e81).tr e83)).tr e86).tr e88)).tr e91).tr e93)).tr e96).tr e98)).tr e101).tr e103)).tr e106)).tr e110)).tr e113).tr e121).tr e131).tr e141)
set_option maxHeartbeats 4000000 in
set_option maxRecDepth 20000 in
theorem t_X11_init {G : GE} (d : Nat) {p0 : Nat} {h : HS} {q : HS} (H : f_X11_init p0 h = some q) : CE G (d + 65) yX11_init miX11_init [.ref p0] h (none) (q) := by
  unfold f_X11_init at H
  refine ce_of rfl (by decide) (fun q => by first | rfl | cases q) (Nat.le_of_ble_eq_true rfl) rfl ?_
  refine g_aload_n dX11_init_0 rfl rfl ?_
  refine e_objI lmX11_3 dX11_init_1 (Nat.le_of_ble_eq_true rfl) (by omega) ?_
  refine g_aload_n dX11_init_4 rfl rfl ?_
  replace H := og H; obtain ⟨g1, H⟩ := H
  refine e_new (ci := 0) rfl (by decide) lcX11_9 lxJx4a65c lnJx4a65c dX11_init_5 ?_
  have e2 := Prw.nw (h := h) (kd := 1) (ln := 0) (ns := 3) Prw.rf g1
  replace H := obh H; obtain ⟨h3, e4, H⟩ := H
  refine e_hq e4 ?_
  refine e_dup dX11_init_8 rfl ?_
  replace H := ob H; obtain ⟨q5, c6, H⟩ := H
  refine i0 rfl lmX11_11 liJx4a65c_init_da8c8 msJx4a65c_init_da8c8 rfl dX11_init_9 (t_Jx4a65c_init_da8c8 (d + 61) c6) rfl (Nat.le_of_ble_eq_true rfl) (Nat.le_refl _) ?_
  have e8 := p_Jx4a65c_init_da8c8 c6
  have e7 := e8.w
  replace H := og H; obtain ⟨g9, H⟩ := H
  refine e_putR g9 fpX11_12_12i (by first | exact Or.inl ⟨_, rfl⟩ | exact Or.inr ⟨_, rfl⟩) dX11_init_12 ?_
  have e10 := Prw.sR (h := q5) (a := p0) (k := 0) (v := some (hN h)) Prw.rf 
  refine g_aload_n dX11_init_15 rfl rfl ?_
  replace H := og H; obtain ⟨g11, H⟩ := H
  refine e_new (ci := 0) rfl (by decide) lcX11_9 lxJx4a65c lnJx4a65c dX11_init_16 ?_
  have e12 := Prw.nw (h := (sR q5 p0 0 (some (hN h)))) (kd := 1) (ln := 0) (ns := 3) Prw.rf g11
  replace H := obh H; obtain ⟨h13, e14, H⟩ := H
  refine e_hq e14 ?_
  refine e_dup dX11_init_19 rfl ?_
  replace H := ob H; obtain ⟨q15, c16, H⟩ := H
  refine i0 rfl lmX11_11 liJx4a65c_init_da8c8 msJx4a65c_init_da8c8 rfl dX11_init_20 (t_Jx4a65c_init_da8c8 (d + 61) c16) rfl (Nat.le_of_ble_eq_true rfl) (Nat.le_refl _) ?_
  have e18 := p_Jx4a65c_init_da8c8 c16
  have e17 := e18.w
  refine e_putR (e17.k (kT e14 (e12.k (e10.k g9 (by decide)) (by decide))) (by decide)) fpX11_16_12i (by first | exact Or.inl ⟨_, rfl⟩ | exact Or.inr ⟨_, rfl⟩) dX11_init_23 ?_
  have e19 := Prw.sR (h := q15) (a := p0) (k := 1) (v := some (hN (sR q5 p0 0 (some (hN h))))) Prw.rf 
  refine g_aload_n dX11_init_26 rfl rfl ?_
  replace H := og H; obtain ⟨g20, H⟩ := H
  refine e_new (ci := 0) rfl (by decide) lcX11_9 lxJx4a65c lnJx4a65c dX11_init_27 ?_
  have e21 := Prw.nw (h := (sR q15 p0 1 (some (hN (sR q5 p0 0 (some (hN h))))))) (kd := 1) (ln := 0) (ns := 3) Prw.rf g20
  replace H := obh H; obtain ⟨h22, e23, H⟩ := H
  refine e_hq e23 ?_
  refine e_dup dX11_init_30 rfl ?_
  replace H := ob H; obtain ⟨q24, c25, H⟩ := H
  refine i0 rfl lmX11_11 liJx4a65c_init_da8c8 msJx4a65c_init_da8c8 rfl dX11_init_31 (t_Jx4a65c_init_da8c8 (d + 61) c25) rfl (Nat.le_of_ble_eq_true rfl) (Nat.le_refl _) ?_
  have e27 := p_Jx4a65c_init_da8c8 c25
  have e26 := e27.w
  refine e_putR (e26.k (kT e23 (e21.k (e19.k (e17.k (kT e14 (e12.k (e10.k g9 (by decide)) (by decide))) (by decide)) (by decide)) (by decide))) (by decide)) fpX11_19_12i (by first | exact Or.inl ⟨_, rfl⟩ | exact Or.inr ⟨_, rfl⟩) dX11_init_34 ?_
  have e28 := Prw.sR (h := q24) (a := p0) (k := 2) (v := some (hN (sR q15 p0 1 (some (hN (sR q5 p0 0 (some (hN h)))))))) Prw.rf 
  refine g_aload_n dX11_init_37 rfl rfl ?_
  refine e_iconst (v := (0 : Int32)) dX11_init_38 (by decide) ?_
  refine e_putI (e28.k (e26.k (kT e23 (e21.k (e19.k (e17.k (kT e14 (e12.k (e10.k g9 (by decide)) (by decide))) (by decide)) (by decide)) (by decide))) (by decide)) (by decide)) fpX11_22_12i rfl dX11_init_39 ?_
  refine g_aload_n dX11_init_42 rfl rfl ?_
  refine e_sipush (v := (300 : Int32)) dX11_init_43 (by decide) ?_
  replace H := og H; obtain ⟨g29, H⟩ := H
  refine e_newa (kd := 15) rfl (by decide) la_int (by decide) (by decide) dX11_init_46 ?_
  have e30 := Prw.nw (h := (sI (sR q24 p0 2 (some (hN (sR q15 p0 1 (some (hN (sR q5 p0 0 (some (hN h))))))))) p0 3 (0 : Int32))) (kd := 15) (ln := (300 : Int32).toNatClampNeg) (ns := (300 : Int32).toNatClampNeg) Prw.rf g29
  replace H := obh H; obtain ⟨h31, e32, H⟩ := H
  refine e_hq e32 ?_
  refine e_putR (kT e32 (e30.k (e28.k (e26.k (kT e23 (e21.k (e19.k (e17.k (kT e14 (e12.k (e10.k g9 (by decide)) (by decide))) (by decide)) (by decide)) (by decide))) (by decide)) (by decide)) (by decide))) fpX11_26_12i (by first | exact Or.inl ⟨_, rfl⟩ | exact Or.inr ⟨_, rfl⟩) dX11_init_48 ?_
  have e33 := Prw.sR (h := h31) (a := p0) (k := 4) (v := some (hN (sI (sR q24 p0 2 (some (hN (sR q15 p0 1 (some (hN (sR q5 p0 0 (some (hN h))))))))) p0 3 (0 : Int32)))) Prw.rf 
  refine g_aload_n dX11_init_51 rfl rfl ?_
  refine e_iconst (v := (0 : Int32)) dX11_init_52 (by decide) ?_
  refine e_putI (e33.k (kT e32 (e30.k (e28.k (e26.k (kT e23 (e21.k (e19.k (e17.k (kT e14 (e12.k (e10.k g9 (by decide)) (by decide))) (by decide)) (by decide)) (by decide))) (by decide)) (by decide)) (by decide))) (by decide)) fpX11_30_12i rfl dX11_init_53 ?_
  refine g_aload_n dX11_init_56 rfl rfl ?_
  refine e_bipush (v := (6 : Int32)) dX11_init_57 (by decide) ?_
  replace H := og H; obtain ⟨g34, H⟩ := H
  refine e_newa (kd := 15) rfl (by decide) la_int (by decide) (by decide) dX11_init_59 ?_
  have e35 := Prw.nw (h := (sI (sR h31 p0 4 (some (hN (sI (sR q24 p0 2 (some (hN (sR q15 p0 1 (some (hN (sR q5 p0 0 (some (hN h))))))))) p0 3 (0 : Int32))))) p0 5 (0 : Int32))) (kd := 15) (ln := (6 : Int32).toNatClampNeg) (ns := (6 : Int32).toNatClampNeg) Prw.rf g34
  replace H := obh H; obtain ⟨h36, e37, H⟩ := H
  refine e_hq e37 ?_
  refine e_putR (kT e37 (e35.k (e33.k (kT e32 (e30.k (e28.k (e26.k (kT e23 (e21.k (e19.k (e17.k (kT e14 (e12.k (e10.k g9 (by decide)) (by decide))) (by decide)) (by decide)) (by decide))) (by decide)) (by decide)) (by decide))) (by decide)) (by decide))) fpX11_33_12i (by first | exact Or.inl ⟨_, rfl⟩ | exact Or.inr ⟨_, rfl⟩) dX11_init_61 ?_
  have e38 := Prw.sR (h := h36) (a := p0) (k := 6) (v := some (hN (sI (sR h31 p0 4 (some (hN (sI (sR q24 p0 2 (some (hN (sR q15 p0 1 (some (hN (sR q5 p0 0 (some (hN h))))))))) p0 3 (0 : Int32))))) p0 5 (0 : Int32)))) Prw.rf 
  replace H := obh H; obtain ⟨h39, e40, H⟩ := H
  refine e_hq e40 ?_
  refine g_aload_n dX11_init_64 rfl rfl ?_
  refine e_bipush (v := (6 : Int32)) dX11_init_65 (by decide) ?_
  replace H := og H; obtain ⟨g41, H⟩ := H
  refine e_newa (kd := 15) rfl (by decide) la_int (by decide) (by decide) dX11_init_67 ?_
  have e42 := Prw.nw (h := h39) (kd := 15) (ln := (6 : Int32).toNatClampNeg) (ns := (6 : Int32).toNatClampNeg) Prw.rf g41
  replace H := obh H; obtain ⟨h43, e44, H⟩ := H
  refine e_hq e44 ?_
  refine e_putR (kT e44 (e42.k (kT e40 (e38.k (kT e37 (e35.k (e33.k (kT e32 (e30.k (e28.k (e26.k (kT e23 (e21.k (e19.k (e17.k (kT e14 (e12.k (e10.k g9 (by decide)) (by decide))) (by decide)) (by decide)) (by decide))) (by decide)) (by decide)) (by decide))) (by decide)) (by decide))) (by decide))) (by decide))) fpX11_36_12i (by first | exact Or.inl ⟨_, rfl⟩ | exact Or.inr ⟨_, rfl⟩) dX11_init_69 ?_
  have e45 := Prw.sR (h := h43) (a := p0) (k := 7) (v := some (hN h39)) Prw.rf 
  refine g_aload_n dX11_init_72 rfl rfl ?_
  refine e_iconst (v := (0 : Int32)) dX11_init_73 (by decide) ?_
  refine e_putI (e45.k (kT e44 (e42.k (kT e40 (e38.k (kT e37 (e35.k (e33.k (kT e32 (e30.k (e28.k (e26.k (kT e23 (e21.k (e19.k (e17.k (kT e14 (e12.k (e10.k g9 (by decide)) (by decide))) (by decide)) (by decide)) (by decide))) (by decide)) (by decide)) (by decide))) (by decide)) (by decide))) (by decide))) (by decide))) (by decide)) fpX11_39_12i rfl dX11_init_74 ?_
  refine g_aload_n dX11_init_77 rfl rfl ?_
  replace H := og H; obtain ⟨g46, H⟩ := H
  refine e_new (ci := 7) rfl (by decide) lcX11_42 lxX6 lnX6 dX11_init_78 ?_
  have e47 := Prw.nw (h := (sI (sR h43 p0 7 (some (hN h39))) p0 8 (0 : Int32))) (kd := 8) (ln := 0) (ns := 9) Prw.rf g46
  replace H := obh H; obtain ⟨h48, e49, H⟩ := H
  refine e_hq e49 ?_
  refine e_dup dX11_init_81 rfl ?_
  replace H := ob H; obtain ⟨q50, c51, H⟩ := H
  refine in0 rfl (host := RX11) (by decide) liX6_init msX6_init rfl dX11_init_82 (t_X6_init (d + 63) c51) rfl (Nat.le_of_ble_eq_true rfl) (Nat.le_refl _) ?_
  have e52 := p_X6_init c51
  refine e_putR (e52.k (kT e49 (e47.k (e45.k (kT e44 (e42.k (kT e40 (e38.k (kT e37 (e35.k (e33.k (kT e32 (e30.k (e28.k (e26.k (kT e23 (e21.k (e19.k (e17.k (kT e14 (e12.k (e10.k g9 (by decide)) (by decide))) (by decide)) (by decide)) (by decide))) (by decide)) (by decide)) (by decide))) (by decide)) (by decide))) (by decide))) (by decide))) (by decide)) (by decide))) (by decide)) fpX11_45_12i (by first | exact Or.inl ⟨_, rfl⟩ | exact Or.inr ⟨_, rfl⟩) dX11_init_85 ?_
  have e53 := Prw.sR (h := q50) (a := p0) (k := 9) (v := some (hN (sI (sR h43 p0 7 (some (hN h39))) p0 8 (0 : Int32)))) Prw.rf 
  refine g_aload_n dX11_init_88 rfl rfl ?_
  replace H := og H; obtain ⟨g54, H⟩ := H
  refine e_new (ci := 6) rfl (by decide) lcX11_49 lxX5 lnX5 dX11_init_89 ?_
  have e55 := Prw.nw (h := (sR q50 p0 9 (some (hN (sI (sR h43 p0 7 (some (hN h39))) p0 8 (0 : Int32)))))) (kd := 7) (ln := 0) (ns := 5) Prw.rf g54
  replace H := obh H; obtain ⟨h56, e57, H⟩ := H
  refine e_hq e57 ?_
  refine e_dup dX11_init_92 rfl ?_
  replace H := ob H; obtain ⟨q58, c59, H⟩ := H
  refine in0 rfl (host := RX11) (by decide) liX5_init msX5_init rfl dX11_init_93 (t_X5_init (d + 63) c59) rfl (Nat.le_of_ble_eq_true rfl) (Nat.le_refl _) ?_
  have e60 := p_X5_init c59
  refine e_putR (e60.k (kT e57 (e55.k (e53.k (e52.k (kT e49 (e47.k (e45.k (kT e44 (e42.k (kT e40 (e38.k (kT e37 (e35.k (e33.k (kT e32 (e30.k (e28.k (e26.k (kT e23 (e21.k (e19.k (e17.k (kT e14 (e12.k (e10.k g9 (by decide)) (by decide))) (by decide)) (by decide)) (by decide))) (by decide)) (by decide)) (by decide))) (by decide)) (by decide))) (by decide))) (by decide))) (by decide)) (by decide))) (by decide)) (by decide)) (by decide))) (by decide)) fpX11_52_12i (by first | exact Or.inl ⟨_, rfl⟩ | exact Or.inr ⟨_, rfl⟩) dX11_init_96 ?_
  have e61 := Prw.sR (h := q58) (a := p0) (k := 10) (v := some (hN (sR q50 p0 9 (some (hN (sI (sR h43 p0 7 (some (hN h39))) p0 8 (0 : Int32))))))) Prw.rf 
  refine g_aload_n dX11_init_99 rfl rfl ?_
  refine e_iconst (v := (4 : Int32)) dX11_init_100 (by decide) ?_
  replace H := og H; obtain ⟨g62, H⟩ := H
  refine e_anewI lcX11_56 (by decide) (by decide) dX11_init_101 ?_
  have e63 := Prw.nw (h := (sR q58 p0 10 (some (hN (sR q50 p0 9 (some (hN (sI (sR h43 p0 7 (some (hN h39))) p0 8 (0 : Int32))))))))) (kd := 19) (ln := (4 : Int32).toNatClampNeg) (ns := (4 : Int32).toNatClampNeg) Prw.rf g62
  replace H := obh H; obtain ⟨h64, e65, H⟩ := H
  refine e_hq e65 ?_
  refine e_putR (kT e65 (e63.k (e61.k (e60.k (kT e57 (e55.k (e53.k (e52.k (kT e49 (e47.k (e45.k (kT e44 (e42.k (kT e40 (e38.k (kT e37 (e35.k (e33.k (kT e32 (e30.k (e28.k (e26.k (kT e23 (e21.k (e19.k (e17.k (kT e14 (e12.k (e10.k g9 (by decide)) (by decide))) (by decide)) (by decide)) (by decide))) (by decide)) (by decide)) (by decide))) (by decide)) (by decide))) (by decide))) (by decide))) (by decide)) (by decide))) (by decide)) (by decide)) (by decide))) (by decide)) (by decide)) (by decide))) fpX11_57_12i (by first | exact Or.inl ⟨_, rfl⟩ | exact Or.inr ⟨_, rfl⟩) dX11_init_104 ?_
  have e66 := Prw.sR (h := h64) (a := p0) (k := 11) (v := some (hN (sR q58 p0 10 (some (hN (sR q50 p0 9 (some (hN (sI (sR h43 p0 7 (some (hN h39))) p0 8 (0 : Int32)))))))))) Prw.rf 
  refine g_aload_n dX11_init_107 rfl rfl ?_
  refine e_iconst (v := (4 : Int32)) dX11_init_108 (by decide) ?_
  replace H := og H; obtain ⟨g67, H⟩ := H
  refine e_newa (kd := 15) rfl (by decide) la_int (by decide) (by decide) dX11_init_109 ?_
  have e68 := Prw.nw (h := (sR h64 p0 11 (some (hN (sR q58 p0 10 (some (hN (sR q50 p0 9 (some (hN (sI (sR h43 p0 7 (some (hN h39))) p0 8 (0 : Int32)))))))))))) (kd := 15) (ln := (4 : Int32).toNatClampNeg) (ns := (4 : Int32).toNatClampNeg) Prw.rf g67
  replace H := obh H; obtain ⟨h69, e70, H⟩ := H
  refine e_hq e70 ?_
  refine e_putR (kT e70 (e68.k (e66.k (kT e65 (e63.k (e61.k (e60.k (kT e57 (e55.k (e53.k (e52.k (kT e49 (e47.k (e45.k (kT e44 (e42.k (kT e40 (e38.k (kT e37 (e35.k (e33.k (kT e32 (e30.k (e28.k (e26.k (kT e23 (e21.k (e19.k (e17.k (kT e14 (e12.k (e10.k g9 (by decide)) (by decide))) (by decide)) (by decide)) (by decide))) (by decide)) (by decide)) (by decide))) (by decide)) (by decide))) (by decide))) (by decide))) (by decide)) (by decide))) (by decide)) (by decide)) (by decide))) (by decide)) (by decide)) (by decide))) (by decide)) (by decide))) fpX11_61_12i (by first | exact Or.inl ⟨_, rfl⟩ | exact Or.inr ⟨_, rfl⟩) dX11_init_111 ?_
  have e71 := Prw.sR (h := h69) (a := p0) (k := 12) (v := some (hN (sR h64 p0 11 (some (hN (sR q58 p0 10 (some (hN (sR q50 p0 9 (some (hN (sI (sR h43 p0 7 (some (hN h39))) p0 8 (0 : Int32))))))))))))) Prw.rf 
  replace H := obh H; obtain ⟨h72, e73, H⟩ := H
  refine e_hq e73 ?_
  refine g_aload_n dX11_init_114 rfl rfl ?_
  replace H := og H; obtain ⟨g74, H⟩ := H
  refine e_new (ci := 3) rfl (by decide) lcX11_64 lxX2 lnX2 dX11_init_115 ?_
  have e75 := Prw.nw (h := h72) (kd := 4) (ln := 0) (ns := 3) Prw.rf g74
  replace H := obh H; obtain ⟨h76, e77, H⟩ := H
  refine e_hq e77 ?_
  refine e_dup dX11_init_118 rfl ?_
  replace H := ob H; obtain ⟨q78, c79, H⟩ := H
  refine in0 rfl (host := RX11) (by decide) liX2_init msX2_init rfl dX11_init_119 (t_X2_init (d + 63) c79) rfl (Nat.le_of_ble_eq_true rfl) (Nat.le_refl _) ?_
  have e80 := p_X2_init c79
  refine e_putR (e80.k (kT e77 (e75.k (kT e73 (e71.k (kT e70 (e68.k (e66.k (kT e65 (e63.k (e61.k (e60.k (kT e57 (e55.k (e53.k (e52.k (kT e49 (e47.k (e45.k (kT e44 (e42.k (kT e40 (e38.k (kT e37 (e35.k (e33.k (kT e32 (e30.k (e28.k (e26.k (kT e23 (e21.k (e19.k (e17.k (kT e14 (e12.k (e10.k g9 (by decide)) (by decide))) (by decide)) (by decide)) (by decide))) (by decide)) (by decide)) (by decide))) (by decide)) (by decide))) (by decide))) (by decide))) (by decide)) (by decide))) (by decide)) (by decide)) (by decide))) (by decide)) (by decide)) (by decide))) (by decide)) (by decide))) (by decide))) (by decide))) (by decide)) fpX11_67_12i (by first | exact Or.inl ⟨_, rfl⟩ | exact Or.inr ⟨_, rfl⟩) dX11_init_122 ?_
  have e81 := Prw.sR (h := q78) (a := p0) (k := 13) (v := some (hN h72)) Prw.rf 
  refine g_aload_n dX11_init_125 rfl rfl ?_
  refine e_bipush (v := (6 : Int32)) dX11_init_126 (by decide) ?_
  replace H := og H; obtain ⟨g82, H⟩ := H
  refine e_newa (kd := 15) rfl (by decide) la_int (by decide) (by decide) dX11_init_128 ?_
  have e83 := Prw.nw (h := (sR q78 p0 13 (some (hN h72)))) (kd := 15) (ln := (6 : Int32).toNatClampNeg) (ns := (6 : Int32).toNatClampNeg) Prw.rf g82
  replace H := obh H; obtain ⟨h84, e85, H⟩ := H
  refine e_hq e85 ?_
  refine e_putR (kT e85 (e83.k (e81.k (e80.k (kT e77 (e75.k (kT e73 (e71.k (kT e70 (e68.k (e66.k (kT e65 (e63.k (e61.k (e60.k (kT e57 (e55.k (e53.k (e52.k (kT e49 (e47.k (e45.k (kT e44 (e42.k (kT e40 (e38.k (kT e37 (e35.k (e33.k (kT e32 (e30.k (e28.k (e26.k (kT e23 (e21.k (e19.k (e17.k (kT e14 (e12.k (e10.k g9 (by decide)) (by decide))) (by decide)) (by decide)) (by decide))) (by decide)) (by decide)) (by decide))) (by decide)) (by decide))) (by decide))) (by decide))) (by decide)) (by decide))) (by decide)) (by decide)) (by decide))) (by decide)) (by decide)) (by decide))) (by decide)) (by decide))) (by decide))) (by decide))) (by decide)) (by decide)) (by decide))) fpX11_73_12i (by first | exact Or.inl ⟨_, rfl⟩ | exact Or.inr ⟨_, rfl⟩) dX11_init_130 ?_
  have e86 := Prw.sR (h := h84) (a := p0) (k := 14) (v := some (hN (sR q78 p0 13 (some (hN h72))))) Prw.rf 
  refine g_aload_n dX11_init_133 rfl rfl ?_
  refine e_iconst (v := (4 : Int32)) dX11_init_134 (by decide) ?_
  replace H := og H; obtain ⟨g87, H⟩ := H
  refine e_newa (kd := 15) rfl (by decide) la_int (by decide) (by decide) dX11_init_135 ?_
  have e88 := Prw.nw (h := (sR h84 p0 14 (some (hN (sR q78 p0 13 (some (hN h72))))))) (kd := 15) (ln := (4 : Int32).toNatClampNeg) (ns := (4 : Int32).toNatClampNeg) Prw.rf g87
  replace H := obh H; obtain ⟨h89, e90, H⟩ := H
  refine e_hq e90 ?_
  refine e_putR (kT e90 (e88.k (e86.k (kT e85 (e83.k (e81.k (e80.k (kT e77 (e75.k (kT e73 (e71.k (kT e70 (e68.k (e66.k (kT e65 (e63.k (e61.k (e60.k (kT e57 (e55.k (e53.k (e52.k (kT e49 (e47.k (e45.k (kT e44 (e42.k (kT e40 (e38.k (kT e37 (e35.k (e33.k (kT e32 (e30.k (e28.k (e26.k (kT e23 (e21.k (e19.k (e17.k (kT e14 (e12.k (e10.k g9 (by decide)) (by decide))) (by decide)) (by decide)) (by decide))) (by decide)) (by decide)) (by decide))) (by decide)) (by decide))) (by decide))) (by decide))) (by decide)) (by decide))) (by decide)) (by decide)) (by decide))) (by decide)) (by decide)) (by decide))) (by decide)) (by decide))) (by decide))) (by decide))) (by decide)) (by decide)) (by decide))) (by decide)) (by decide))) fpX11_76_12i (by first | exact Or.inl ⟨_, rfl⟩ | exact Or.inr ⟨_, rfl⟩) dX11_init_137 ?_
  have e91 := Prw.sR (h := h89) (a := p0) (k := 15) (v := some (hN (sR h84 p0 14 (some (hN (sR q78 p0 13 (some (hN h72)))))))) Prw.rf 
  refine g_aload_n dX11_init_140 rfl rfl ?_
  refine e_bipush (v := (40 : Int32)) dX11_init_141 (by decide) ?_
  replace H := og H; obtain ⟨g92, H⟩ := H
  refine e_newa (kd := 16) rfl (by decide) la_long (by decide) (by decide) dX11_init_143 ?_
  have e93 := Prw.nw (h := (sR h89 p0 15 (some (hN (sR h84 p0 14 (some (hN (sR q78 p0 13 (some (hN h72)))))))))) (kd := 16) (ln := (40 : Int32).toNatClampNeg) (ns := (40 : Int32).toNatClampNeg) Prw.rf g92
  replace H := obh H; obtain ⟨h94, e95, H⟩ := H
  refine e_hq e95 ?_
  refine e_putR (kT e95 (e93.k (e91.k (kT e90 (e88.k (e86.k (kT e85 (e83.k (e81.k (e80.k (kT e77 (e75.k (kT e73 (e71.k (kT e70 (e68.k (e66.k (kT e65 (e63.k (e61.k (e60.k (kT e57 (e55.k (e53.k (e52.k (kT e49 (e47.k (e45.k (kT e44 (e42.k (kT e40 (e38.k (kT e37 (e35.k (e33.k (kT e32 (e30.k (e28.k (e26.k (kT e23 (e21.k (e19.k (e17.k (kT e14 (e12.k (e10.k g9 (by decide)) (by decide))) (by decide)) (by decide)) (by decide))) (by decide)) (by decide)) (by decide))) (by decide)) (by decide))) (by decide))) (by decide))) (by decide)) (by decide))) (by decide)) (by decide)) (by decide))) (by decide)) (by decide)) (by decide))) (by decide)) (by decide))) (by decide))) (by decide))) (by decide)) (by decide)) (by decide))) (by decide)) (by decide))) (by decide)) (by decide))) fpX11_79_12i (by first | exact Or.inl ⟨_, rfl⟩ | exact Or.inr ⟨_, rfl⟩) dX11_init_145 ?_
  have e96 := Prw.sR (h := h94) (a := p0) (k := 16) (v := some (hN (sR h89 p0 15 (some (hN (sR h84 p0 14 (some (hN (sR q78 p0 13 (some (hN h72))))))))))) Prw.rf 
  refine g_aload_n dX11_init_148 rfl rfl ?_
  refine e_bipush (v := (40 : Int32)) dX11_init_149 (by decide) ?_
  replace H := og H; obtain ⟨g97, H⟩ := H
  refine e_newa (kd := 16) rfl (by decide) la_long (by decide) (by decide) dX11_init_151 ?_
  have e98 := Prw.nw (h := (sR h94 p0 16 (some (hN (sR h89 p0 15 (some (hN (sR h84 p0 14 (some (hN (sR q78 p0 13 (some (hN h72))))))))))))) (kd := 16) (ln := (40 : Int32).toNatClampNeg) (ns := (40 : Int32).toNatClampNeg) Prw.rf g97
  replace H := obh H; obtain ⟨h99, e100, H⟩ := H
  refine e_hq e100 ?_
  refine e_putR (kT e100 (e98.k (e96.k (kT e95 (e93.k (e91.k (kT e90 (e88.k (e86.k (kT e85 (e83.k (e81.k (e80.k (kT e77 (e75.k (kT e73 (e71.k (kT e70 (e68.k (e66.k (kT e65 (e63.k (e61.k (e60.k (kT e57 (e55.k (e53.k (e52.k (kT e49 (e47.k (e45.k (kT e44 (e42.k (kT e40 (e38.k (kT e37 (e35.k (e33.k (kT e32 (e30.k (e28.k (e26.k (kT e23 (e21.k (e19.k (e17.k (kT e14 (e12.k (e10.k g9 (by decide)) (by decide))) (by decide)) (by decide)) (by decide))) (by decide)) (by decide)) (by decide))) (by decide)) (by decide))) (by decide))) (by decide))) (by decide)) (by decide))) (by decide)) (by decide)) (by decide))) (by decide)) (by decide)) (by decide))) (by decide)) (by decide))) (by decide))) (by decide))) (by decide)) (by decide)) (by decide))) (by decide)) (by decide))) (by decide)) (by decide))) (by decide)) (by decide))) fpX11_83_12i (by first | exact Or.inl ⟨_, rfl⟩ | exact Or.inr ⟨_, rfl⟩) dX11_init_153 ?_
  have e101 := Prw.sR (h := h99) (a := p0) (k := 17) (v := some (hN (sR h94 p0 16 (some (hN (sR h89 p0 15 (some (hN (sR h84 p0 14 (some (hN (sR q78 p0 13 (some (hN h72)))))))))))))) Prw.rf 
  refine g_aload_n dX11_init_156 rfl rfl ?_
  refine e_bipush (v := (8 : Int32)) dX11_init_157 (by decide) ?_
  replace H := og H; obtain ⟨g102, H⟩ := H
  refine e_newa (kd := 15) rfl (by decide) la_int (by decide) (by decide) dX11_init_159 ?_
  have e103 := Prw.nw (h := (sR h99 p0 17 (some (hN (sR h94 p0 16 (some (hN (sR h89 p0 15 (some (hN (sR h84 p0 14 (some (hN (sR q78 p0 13 (some (hN h72)))))))))))))))) (kd := 15) (ln := (8 : Int32).toNatClampNeg) (ns := (8 : Int32).toNatClampNeg) Prw.rf g102
  replace H := obh H; obtain ⟨h104, e105, H⟩ := H
  refine e_hq e105 ?_
  refine e_putR (kT e105 (e103.k (e101.k (kT e100 (e98.k (e96.k (kT e95 (e93.k (e91.k (kT e90 (e88.k (e86.k (kT e85 (e83.k (e81.k (e80.k (kT e77 (e75.k (kT e73 (e71.k (kT e70 (e68.k (e66.k (kT e65 (e63.k (e61.k (e60.k (kT e57 (e55.k (e53.k (e52.k (kT e49 (e47.k (e45.k (kT e44 (e42.k (kT e40 (e38.k (kT e37 (e35.k (e33.k (kT e32 (e30.k (e28.k (e26.k (kT e23 (e21.k (e19.k (e17.k (kT e14 (e12.k (e10.k g9 (by decide)) (by decide))) (by decide)) (by decide)) (by decide))) (by decide)) (by decide)) (by decide))) (by decide)) (by decide))) (by decide))) (by decide))) (by decide)) (by decide))) (by decide)) (by decide)) (by decide))) (by decide)) (by decide)) (by decide))) (by decide)) (by decide))) (by decide))) (by decide))) (by decide)) (by decide)) (by decide))) (by decide)) (by decide))) (by decide)) (by decide))) (by decide)) (by decide))) (by decide)) (by decide))) fpX11_86_12i (by first | exact Or.inl ⟨_, rfl⟩ | exact Or.inr ⟨_, rfl⟩) dX11_init_161 ?_
  have e106 := Prw.sR (h := h104) (a := p0) (k := 18) (v := some (hN (sR h99 p0 17 (some (hN (sR h94 p0 16 (some (hN (sR h89 p0 15 (some (hN (sR h84 p0 14 (some (hN (sR q78 p0 13 (some (hN h72))))))))))))))))) Prw.rf 
  replace H := obh H; obtain ⟨h107, e108, H⟩ := H
  refine e_hq e108 ?_
  refine g_aload_n dX11_init_164 rfl rfl ?_
  refine e_sipush (v := (201 : Int32)) dX11_init_165 (by decide) ?_
  replace H := og H; obtain ⟨g109, H⟩ := H
  refine e_newa (kd := 15) rfl (by decide) la_int (by decide) (by decide) dX11_init_168 ?_
  have e110 := Prw.nw (h := h107) (kd := 15) (ln := (201 : Int32).toNatClampNeg) (ns := (201 : Int32).toNatClampNeg) Prw.rf g109
  replace H := obh H; obtain ⟨h111, e112, H⟩ := H
  refine e_hq e112 ?_
  refine e_putR (kT e112 (e110.k (kT e108 (e106.k (kT e105 (e103.k (e101.k (kT e100 (e98.k (e96.k (kT e95 (e93.k (e91.k (kT e90 (e88.k (e86.k (kT e85 (e83.k (e81.k (e80.k (kT e77 (e75.k (kT e73 (e71.k (kT e70 (e68.k (e66.k (kT e65 (e63.k (e61.k (e60.k (kT e57 (e55.k (e53.k (e52.k (kT e49 (e47.k (e45.k (kT e44 (e42.k (kT e40 (e38.k (kT e37 (e35.k (e33.k (kT e32 (e30.k (e28.k (e26.k (kT e23 (e21.k (e19.k (e17.k (kT e14 (e12.k (e10.k g9 (by decide)) (by decide))) (by decide)) (by decide)) (by decide))) (by decide)) (by decide)) (by decide))) (by decide)) (by decide))) (by decide))) (by decide))) (by decide)) (by decide))) (by decide)) (by decide)) (by decide))) (by decide)) (by decide)) (by decide))) (by decide)) (by decide))) (by decide))) (by decide))) (by decide)) (by decide)) (by decide))) (by decide)) (by decide))) (by decide)) (by decide))) (by decide)) (by decide))) (by decide)) (by decide))) (by decide))) (by decide))) fpX11_89_12i (by first | exact Or.inl ⟨_, rfl⟩ | exact Or.inr ⟨_, rfl⟩) dX11_init_170 ?_
  have e113 := Prw.sR (h := h111) (a := p0) (k := 19) (v := some (hN h107)) Prw.rf 
  refine g_aload_n dX11_init_173 rfl rfl ?_
  replace H := oom H; obtain ⟨-, H⟩ | ⟨b114, e115, H⟩ := H
  · exact nz H
  refine e_getR (e113.k (kT e112 (e110.k (kT e108 (e106.k (kT e105 (e103.k (e101.k (kT e100 (e98.k (e96.k (kT e95 (e93.k (e91.k (kT e90 (e88.k (e86.k (kT e85 (e83.k (e81.k (e80.k (kT e77 (e75.k (kT e73 (e71.k (kT e70 (e68.k (e66.k (kT e65 (e63.k (e61.k (e60.k (kT e57 (e55.k (e53.k (e52.k (kT e49 (e47.k (e45.k (kT e44 (e42.k (kT e40 (e38.k (kT e37 (e35.k (e33.k (kT e32 (e30.k (e28.k (e26.k (kT e23 (e21.k (e19.k (e17.k (kT e14 (e12.k (e10.k g9 (by decide)) (by decide))) (by decide)) (by decide)) (by decide))) (by decide)) (by decide)) (by decide))) (by decide)) (by decide))) (by decide))) (by decide))) (by decide)) (by decide))) (by decide)) (by decide)) (by decide))) (by decide)) (by decide)) (by decide))) (by decide)) (by decide))) (by decide))) (by decide))) (by decide)) (by decide)) (by decide))) (by decide)) (by decide))) (by decide)) (by decide))) (by decide)) (by decide))) (by decide)) (by decide))) (by decide))) (by decide))) (by decide)) flX11_45_12 dX11_init_174 rfl e115 ?_
  refine e_ldcS (i := 0) rfl (by decide) dX11_init_177 ?_
  replace H := og H; obtain ⟨g116, H⟩ := H
  subst g116
  replace H := og H; obtain ⟨g117, H⟩ := H
  have hY118 : LY TX (sR h111 p0 19 (some (hN h107))) := g117
  replace H := ob H; obtain ⟨q119, c120, H⟩ := H
  refine v0 (hY118.t 7 rfl) (by decide) rfl rfl lmX11_94 liX6_spell lvX6_X6_spell msX6_spell dX11_init_179 (t_X6_spell (d + 60) hY118 c120) rfl (Nat.le_of_ble_eq_true rfl) (Nat.le_refl _) ?_
  have e122 := p_X6_spell c120
  have e121 := e122.w
  have hY123 := hY118.pr okX e122
  refine g_aload_n dX11_init_182 rfl rfl ?_
  replace H := oom H; obtain ⟨-, H⟩ | ⟨b124, e125, H⟩ := H
  · exact nz H
  refine e_getR (e121.k (e113.k (kT e112 (e110.k (kT e108 (e106.k (kT e105 (e103.k (e101.k (kT e100 (e98.k (e96.k (kT e95 (e93.k (e91.k (kT e90 (e88.k (e86.k (kT e85 (e83.k (e81.k (e80.k (kT e77 (e75.k (kT e73 (e71.k (kT e70 (e68.k (e66.k (kT e65 (e63.k (e61.k (e60.k (kT e57 (e55.k (e53.k (e52.k (kT e49 (e47.k (e45.k (kT e44 (e42.k (kT e40 (e38.k (kT e37 (e35.k (e33.k (kT e32 (e30.k (e28.k (e26.k (kT e23 (e21.k (e19.k (e17.k (kT e14 (e12.k (e10.k g9 (by decide)) (by decide))) (by decide)) (by decide)) (by decide))) (by decide)) (by decide)) (by decide))) (by decide)) (by decide))) (by decide))) (by decide))) (by decide)) (by decide))) (by decide)) (by decide)) (by decide))) (by decide)) (by decide)) (by decide))) (by decide)) (by decide))) (by decide))) (by decide))) (by decide)) (by decide)) (by decide))) (by decide)) (by decide))) (by decide)) (by decide))) (by decide)) (by decide))) (by decide)) (by decide))) (by decide))) (by decide))) (by decide)) (by decide)) flX11_45_12 dX11_init_183 rfl e125 ?_
  replace H := og H; obtain ⟨g126, H⟩ := H
  subst g126
  replace H := ob H; obtain ⟨q127, c128, H⟩ := H
  have e132 := p_X6_read c128
  have e131 := e132.w
  have hY133 := hY123.pr okX e132
  replace H := oom H; obtain ⟨e129, H⟩ | ⟨b130, e129, H⟩ := H
  · refine v1 (hY133.t 7 rfl) (by decide) rfl rfl lmX11_98 liX6_read lvX6_X6_read msX6_read dX11_init_186 (ceN e129 (t_X6_read (d + 0) hY123 c128)) rfl (Nat.le_of_ble_eq_true rfl) (Nat.le_refl _) ?_
    refine g_astore_n dX11_init_189 (Nat.le_of_ble_eq_true rfl) rfl rfl rfl ?_
    refine g_aload_n dX11_init_190 rfl rfl ?_
    refine e_ifnullN (tgt := 203) dX11_init_191 (by decide) ?_
    obtain rfl := Option.some.inj H
    exact z_vret rfl dX11_init_203 rfl rfl
  · refine v1 (hY133.t 7 rfl) (by decide) rfl rfl lmX11_98 liX6_read lvX6_X6_read msX6_read dX11_init_186 (ceS e129 (t_X6_read (d + 0) hY123 c128)) rfl (Nat.le_of_ble_eq_true rfl) (Nat.le_refl _) ?_
    refine g_astore_n dX11_init_189 (Nat.le_of_ble_eq_true rfl) rfl rfl rfl ?_
    refine g_aload_n dX11_init_190 rfl rfl ?_
    refine e_ifnull dX11_init_191 ?_
    refine g_aload_n dX11_init_194 rfl rfl ?_
    replace H := oom H; obtain ⟨-, H⟩ | ⟨b136, e137, H⟩ := H
    · exact nz H
    refine e_getR (e131.k (e121.k (e113.k (kT e112 (e110.k (kT e108 (e106.k (kT e105 (e103.k (e101.k (kT e100 (e98.k (e96.k (kT e95 (e93.k (e91.k (kT e90 (e88.k (e86.k (kT e85 (e83.k (e81.k (e80.k (kT e77 (e75.k (kT e73 (e71.k (kT e70 (e68.k (e66.k (kT e65 (e63.k (e61.k (e60.k (kT e57 (e55.k (e53.k (e52.k (kT e49 (e47.k (e45.k (kT e44 (e42.k (kT e40 (e38.k (kT e37 (e35.k (e33.k (kT e32 (e30.k (e28.k (e26.k (kT e23 (e21.k (e19.k (e17.k (kT e14 (e12.k (e10.k g9 (by decide)) (by decide))) (by decide)) (by decide)) (by decide))) (by decide)) (by decide)) (by decide))) (by decide)) (by decide))) (by decide))) (by decide))) (by decide)) (by decide))) (by decide)) (by decide)) (by decide))) (by decide)) (by decide)) (by decide))) (by decide)) (by decide))) (by decide))) (by decide))) (by decide)) (by decide)) (by decide))) (by decide)) (by decide))) (by decide)) (by decide))) (by decide)) (by decide))) (by decide)) (by decide))) (by decide))) (by decide))) (by decide)) (by decide)) (by decide)) flX11_19_12 dX11_init_195 rfl e137 ?_
    refine g_aload_n dX11_init_198 rfl rfl ?_
    replace H := og H; obtain ⟨g140, H⟩ := H
    replace H := ob H; obtain ⟨q138, c139, H⟩ := H
    refine v1 g140 (by decide) rfl rfl lmX11_102 liJx4a65c_add_9ea2d lvJx4a65c_Jx4a65c_add_9ea2d msJx4a65c_add_9ea2d dX11_init_199 (t_Jx4a65c_add_9ea2d (d + 60) c139) rfl (Nat.le_of_ble_eq_true rfl) (Nat.le_refl _) ?_
    have e142 := p_Jx4a65c_add_9ea2d c139
    have e141 := e142.w
    have hY143 := hY133.pr okX e142
    refine e_pop dX11_init_202 rfl ?_
    obtain rfl := Option.some.inj H
    exact z_vret rfl dX11_init_203 rfl rfl
